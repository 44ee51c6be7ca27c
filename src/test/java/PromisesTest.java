/** One method for each promise of the document: ordinary calls, the edges that it names, wrong arguments. */
public final class PromisesTest {
    private static final int LOW = Integer.MIN_VALUE;
    private static final int HIGH = Integer.MAX_VALUE;

    private static final Checks checks = new Checks();

    public static void main(String[] args) {
        promise1NewObject();
        promise1Switches();
        promise2Plunge();
        promise3Wire();
        promise4Take();
        promise4TakeRefusalsInOrder();
        promise4TakeLocked();
        promise5Give();
        promise6Train();
        promise7Hand();
        promise8Back();
        promise9Enter();
        promise9EnterLong();
        promise10Arrive();
        promise11SwitchOut();
        promise11Order();
        promise12SwitchIn();
        promise13Carry();
        promise14Phase();
        promise15Slide();
        promise16Where();
        promise17Place();
        promise18Spend();
        promise19Out();
        checks.end();
    }

    /** A line of six boxes with t tablets, all inner boxes of which may switch out. */
    private static TabletLine fullLine(int t) {
        return new TabletLine(6, t, 30);
    }

    private static void holdBoth(TabletLine x, int lower, int upper, int section) {
        x.plunge(lower, section, true);
        x.plunge(upper, section, true);
    }

    private static TabletLine withBoxOut(int n, int t, int box) {
        TabletLine x = new TabletLine(n, t, 255);
        x.plunge(box - 1, box - 1, true);
        x.plunge(box + 1, box, true);
        checks.due("switchOut of the box", x.switchOut(box), 0);
        return x;
    }

    private static void refusesWrongEnds(String call, java.util.function.IntBinaryOperator endAndSection) {
        int[][] wrong = {{-1, 0}, {2, 0}, {5, 0}, {6, 0}, {0, 1}, {0, -1}, {0, 5}, {0, 10}, {1, 11}, {3, 11}, {0, 12},
            {4, 15}, {5, 5}, {0, LOW}, {0, HIGH}, {LOW, 0}, {HIGH, 0}};
        for (int[] w : wrong) {
            checks.illegalArgument(call + " at box " + w[0] + " of section " + w[1],
                    () -> endAndSection.applyAsInt(w[0], w[1]));
        }
    }

    private static void promise1NewObject() {
        int[][] boxes = {{2, 2}, {3, 3}, {4, 4}, {5, 5}, {6, 6}, {1, 4}, {7, 4}, {0, 4}, {-3, 4}, {LOW, 4}, {HIGH, 4}};
        for (int[] b : boxes) {
            TabletLine x = new TabletLine(b[0], 4, 0);
            checks.due("1: last box of n = " + b[0], x.out(b[1] - 1), false);
            checks.illegalArgument("1: box behind the last, n = " + b[0], () -> x.out(b[1]));
            checks.due("1: last section, n = " + b[0], x.slide(b[1] - 1, b[1] - 2), 2);
            checks.illegalArgument("1: section behind the last, n = " + b[0], () -> x.slide(b[1] - 1, b[1] - 1));
        }
        int[][] tablets = {{4, 4}, {5, 5}, {6, 6}, {7, 7}, {8, 8}, {3, 6}, {9, 6}, {0, 6}, {-4, 6}, {LOW, 6}, {HIGH, 6}};
        for (int[] t : tablets) {
            TabletLine x = new TabletLine(3, t[0], 2);
            for (int section : new int[] {0, 1, 11}) {
                int lower = section == 11 ? 0 : section;
                int upper = section == 11 ? 2 : section + 1;
                checks.due("1: lower slide, t = " + t[0], x.slide(lower, section), (t[1] + 1) / 2);
                checks.due("1: upper slide, t = " + t[0], x.slide(upper, section), t[1] / 2);
                checks.due("1: lower wheel", x.phase(lower, section), 0);
                checks.due("1: upper wheel", x.phase(upper, section), 0);
                for (int i = 0; i < t[1]; i++) {
                    checks.due("1: tablet " + i + " of " + section, x.where(100 * section + i), i % 2);
                }
                checks.illegalArgument("1: tablet t, t = " + t[0], () -> x.where(100 * section + t[1]));
            }
            for (int train = 0; train < 8; train++) {
                checks.due("1: train is unknown", x.place(train), -1);
            }
        }
    }

    private static void promise1Switches() {
        for (int n = 2; n <= 6; n++) {
            for (int switches : new int[] {0, 1, 2, 4, 8, 16, 32, 30, 255, -1, 10, 20, LOW, -17, 1 << 10}) {
                TabletLine x = new TabletLine(n, 4, switches);
                for (int b = 0; b < n; b++) {
                    boolean may = b >= 1 && b <= n - 2 && (switches >> b & 1) == 1;
                    int section = 10 + b;
                    String got = Checks.thrownBy(() -> x.wire(section, true));
                    checks.due("1: section " + section + ", n " + n + ", switches " + switches, got,
                            may ? "nothing" : "IllegalArgumentException");
                    checks.due("1: switchOut(" + b + "), n " + n + ", switches " + switches, x.switchOut(b), may ? 3 : 1);
                }
            }
        }
    }

    private static void promise2Plunge() {
        TabletLine x = fullLine(6);
        refusesWrongEnds("2: plunge", (box, section) -> {
            x.plunge(box, section, true);
            return 0;
        });
        checks.due("2: not held at first, lower", x.take(0, 0), -1);
        checks.due("2: not held at first, upper", x.take(1, 0), -1);
        x.plunge(0, 0, true);
        checks.due("2: one's own plunger is no consent", x.take(0, 0), -1);
        x.plunge(1, 0, true);
        x.plunge(1, 0, true);
        x.plunge(1, 0, false);
        checks.due("2: freed again", x.take(0, 0), -1);
        checks.due("2: another section's plunger stays", x.take(1, 1), -1);
        checks.due("2: the other end's plunger stays held", x.take(1, 0), 5);
    }

    private static void promise3Wire() {
        TabletLine x = fullLine(6);
        for (int section : new int[] {-1, 5, 6, 9, 10, 15, 16, LOW, HIGH}) {
            checks.illegalArgument("3: wire(" + section + ")", () -> x.wire(section, false));
        }
        holdBoth(x, 0, 1, 0);
        holdBoth(x, 1, 2, 1);
        x.wire(0, false);
        checks.due("3: broken, lower end", x.take(0, 0), -2);
        checks.due("3: broken, upper end", x.take(1, 0), -2);
        checks.due("3: another one is whole", x.take(1, 1), 104);
        x.wire(0, false);
        x.wire(0, true);
        checks.due("3: mended", x.take(0, 0), 4);
    }

    private static void promise4Take() {
        TabletLine x = fullLine(5);
        refusesWrongEnds("4: take", x::take);
        x.plunge(3, 2, true);
        checks.due("4: topmost of the lower end", x.take(2, 2), 204);
        checks.due("4: in the box's hand", x.where(204), 12);
        checks.due("4: the wheel turns", x.phase(2, 2), 1);
        checks.due("4: the other wheel does not", x.phase(3, 2), 0);
        checks.due("4: out of the slide", x.slide(2, 2), 2);
        checks.due("4: the other slide stays", x.slide(3, 2), 2);
        x.plunge(4, 4, true);
        checks.due("4: topmost of the upper end", x.take(5, 4), 403);
        checks.due("4: in the upper box's hand", x.where(403), 15);
        checks.due("4: the upper wheel turns", x.phase(5, 4), 1);
        checks.due("4: the lower wheel does not", x.phase(4, 4), 0);
    }

    private static void promise4TakeRefusalsInOrder() {
        TabletLine x = new TabletLine(3, 4, 2);
        x.plunge(0, 0, true);
        x.plunge(2, 1, true);
        x.carry(0, 0, 2);
        checks.due("4: out of phase", x.take(1, 0), 0);
        x.wire(0, false);
        checks.due("4: -1 before -2", x.take(0, 0), -1);
        x.plunge(1, 0, true);
        checks.due("4: -2 before -3", x.take(0, 0), -2);
        x.wire(0, true);
        checks.due("4: -3 before -4", x.take(0, 0), -3);
        x.give(1, 0, 0);
        checks.due("4: -4, the slide is empty", x.take(0, 0), -4);
        checks.due("4: a refusal turns no wheel", x.phase(0, 0), 0);
        checks.due("4: switch out", x.switchOut(1), 0);
        checks.due("4: -4 before -5", x.take(0, 0), -4);
        checks.due("4: -5 at the other end", x.take(1, 0), -5);
        checks.due("4: -1 before -5", x.take(2, 1), -1);
        x.plunge(1, 1, true);
        checks.due("4: -5 in the upper section", x.take(2, 1), -5);
        x.wire(1, false);
        checks.due("4: -2 before -5", x.take(2, 1), -2);
    }

    private static void promise4TakeLocked() {
        TabletLine x = fullLine(4);
        x.plunge(3, 12, true);
        checks.due("4: long section, its box in", x.take(1, 12), -5);
        checks.due("4: nothing changed", x.slide(1, 12), 2);
        TabletLine y = withBoxOut(6, 4, 2);
        for (int section = 0; section < 5; section++) {
            holdBoth(y, section, section + 1, section);
            boolean locked = section == 1 || section == 2;
            checks.due("4: section " + section + ", box 2 out", y.take(section, section), locked ? -5 : 100 * section + 2);
        }
        for (int b = 1; b < 5; b++) {
            holdBoth(y, b - 1, b + 1, 10 + b);
            checks.due("4: section " + (10 + b) + ", box 2 out", y.take(b + 1, 10 + b), b == 2 ? 1203 : -5);
        }
        checks.due("4: in the hand of the far end", y.where(1203), 13);
    }

    private static void promise5Give() {
        TabletLine x = fullLine(4);
        x.plunge(2, 1, true);
        x.plunge(1, 1, true);
        checks.due("5: take", x.take(1, 1), 102);
        refusesWrongEnds("5: give", (box, section) -> {
            x.give(box, section, 102);
            return 0;
        });
        for (int tablet : new int[] {-1, 4, 99, 104, 200, 2, 1002, 500, 1000, 1500, LOW, HIGH}) {
            checks.illegalArgument("5: give(1, 1, " + tablet + ")", () -> x.give(1, 1, tablet));
        }
        checks.illegalArgument("5: another section's, which is no end", () -> x.give(3, 2, 102));
        checks.illegalArgument("5: another section's at the same box", () -> x.give(1, 0, 102));
        checks.illegalState("5: in another box's hand", () -> x.give(2, 1, 102));
        checks.illegalState("5: in the slide here", () -> x.give(1, 1, 100));
        checks.illegalState("5: in the slide there", () -> x.give(1, 1, 101));
        x.give(1, 1, 102);
        checks.due("5: the wheel turned back", x.phase(1, 1), 0);
        checks.due("5: in the slide", x.slide(1, 1), 2);
        checks.due("5: where", x.where(102), 0);
        checks.illegalState("5: given twice", () -> x.give(1, 1, 102));
        checks.due("5: on top again", x.take(1, 1), 102);
        fromATrain(x);
        giveInLongSection();
    }

    private static void fromATrain(TabletLine x) {
        x.train(0, 1);
        x.hand(0, 102);
        checks.illegalState("5: the train stands elsewhere", () -> x.give(2, 1, 102));
        x.enter(0, true);
        checks.illegalState("5: inside, where it came from", () -> x.give(1, 1, 102));
        checks.illegalState("5: inside, where it goes", () -> x.give(2, 1, 102));
        x.arrive(0);
        checks.illegalState("5: at the end that it left", () -> x.give(1, 1, 102));
        x.give(2, 1, 102);
        checks.due("5: at the upper end", x.where(102), 1);
        checks.due("5: the upper wheel turned", x.phase(2, 1), 1);
        checks.due("5: the lower one stays", x.phase(1, 1), 1);
        checks.due("5: the upper slide", x.slide(2, 1), 3);
        checks.illegalState("5: no more aboard", () -> x.back(0));
        checks.due("5: on top", x.take(2, 1), 102);
        x.hand(0, 102);
        checks.due("5: the train may have it again", x.where(102), 20);
    }

    private static void giveInLongSection() {
        TabletLine x = withBoxOut(6, 4, 1);
        holdBoth(x, 0, 2, 11);
        checks.due("5: long take", x.take(0, 11), 1102);
        checks.illegalArgument("5: the box between is no end", () -> x.give(1, 11, 1102));
        checks.illegalArgument("5: the short section", () -> x.give(0, 0, 1102));
        x.give(0, 11, 1102);
        checks.due("5: long give", x.slide(0, 11), 2);
    }

    private static void promise6Train() {
        TabletLine x = fullLine(4);
        for (int train : new int[] {-1, 8, 9, LOW, HIGH}) {
            checks.illegalArgument("6: train " + train, () -> x.train(train, 0));
        }
        for (int box : new int[] {-1, 6, LOW, HIGH}) {
            checks.illegalArgument("6: box " + box, () -> x.train(0, box));
        }
        checks.due("6: still unknown", x.place(0), -1);
        for (int train = 0; train < 8; train++) {
            x.train(train, train % 6);
            checks.due("6: stands", x.place(train), train % 6);
        }
        checks.illegalState("6: known", () -> x.train(0, 3));
        checks.illegalArgument("6: known, at no box", () -> x.train(0, 6));
        checks.due("6: stays", x.place(0), 0);
        x.plunge(1, 0, true);
        x.hand(0, x.take(0, 0));
        x.enter(0, true);
        checks.illegalState("6: known inside a section too", () -> x.train(0, 3));
        TabletLine y = withBoxOut(4, 4, 1);
        y.train(7, 1);
        checks.due("6: at a box that is out", y.place(7), 1);
    }

    private static void promise7Hand() {
        TabletLine x = fullLine(4);
        holdBoth(x, 0, 1, 0);
        holdBoth(x, 1, 2, 1);
        x.train(0, 0);
        x.train(1, 1);
        checks.illegalArgument("7: unknown train", () -> x.hand(2, 0));
        checks.illegalArgument("7: train -1", () -> x.hand(-1, 0));
        checks.illegalArgument("7: train 8", () -> x.hand(8, 0));
        for (int tablet : new int[] {-1, 4, 500, 1000, 1500, LOW, HIGH}) {
            checks.illegalArgument("7: tablet " + tablet, () -> x.hand(0, tablet));
        }
        checks.illegalState("7: in the slide at the train's box", () -> x.hand(0, 2));
        x.take(0, 0);
        checks.illegalState("7: the train stands at another box", () -> x.hand(1, 2));
        x.hand(0, 2);
        checks.due("7: aboard", x.where(2), 20);
        checks.illegalState("7: aboard already", () -> x.hand(0, 2));
        x.train(3, 0);
        checks.illegalState("7: aboard another train", () -> x.hand(3, 2));
        checks.due("7: take", x.take(1, 1), 102);
        x.enter(0, true);
        checks.illegalState("7: the train is inside", () -> x.hand(0, 102));
        x.arrive(0);
        checks.illegalState("7: has one aboard", () -> x.hand(0, 102));
        x.hand(1, 102);
        checks.due("7: aboard train 1", x.where(102), 21);
        x.give(1, 0, 2);
        checks.illegalState("7: aboard a train at the same box", () -> x.hand(0, 102));
    }

    private static void promise8Back() {
        TabletLine x = fullLine(4);
        x.plunge(1, 0, true);
        x.train(5, 0);
        checks.illegalArgument("8: unknown train", () -> x.back(4));
        checks.illegalArgument("8: train -1", () -> x.back(-1));
        checks.illegalArgument("8: train 8", () -> x.back(8));
        checks.illegalState("8: none aboard", () -> x.back(5));
        x.take(0, 0);
        x.hand(5, 2);
        checks.due("8: back", x.back(5), 2);
        checks.due("8: in the hand", x.where(2), 10);
        checks.illegalState("8: none any more", () -> x.back(5));
        x.hand(5, 2);
        x.enter(5, true);
        checks.illegalState("8: stands at no box", () -> x.back(5));
        checks.due("8: still aboard", x.where(2), 25);
        x.arrive(5);
        checks.due("8: back at the other box", x.back(5), 2);
        checks.due("8: in the other box's hand", x.where(2), 11);
        checks.due("8: the wheels stay", x.phase(1, 0), 0);
    }

    private static void promise9Enter() {
        TabletLine x = new TabletLine(3, 4, 0);
        holdBoth(x, 0, 1, 0);
        holdBoth(x, 1, 2, 1);
        checks.illegalArgument("9: unknown train", () -> x.enter(0, true));
        checks.illegalArgument("9: train -1", () -> x.enter(-1, true));
        checks.illegalArgument("9: train 8", () -> x.enter(8, false));
        x.train(0, 0);
        checks.unsupported("9: no box below", () -> x.enter(0, false));
        checks.noSuchElement("9: no tablet", () -> x.enter(0, true));
        checks.due("9: take", x.take(0, 0), 2);
        checks.noSuchElement("9: the tablet is in the hand only", () -> x.enter(0, true));
        x.hand(0, 2);
        checks.due("9: enter up", x.enter(0, true), 0);
        checks.due("9: inside", x.place(0), 10);
        checks.illegalState("9: inside already", () -> x.enter(0, true));
        checks.illegalState("9: inside, before unsupported", () -> x.enter(0, false));
        x.arrive(0);
        checks.noSuchElement("9: another section's tablet", () -> x.enter(0, true));
        checks.due("9: back down with the same tablet", x.enter(0, false), 0);
        checks.due("9: arrives below", x.arrive(0), 0);
        x.train(1, 2);
        checks.unsupported("9: no box above", () -> x.enter(1, true));
        checks.due("9: take above", x.take(2, 1), 103);
        x.hand(1, 103);
        checks.unsupported("9: no box above, with a tablet", () -> x.enter(1, true));
        checks.due("9: enter down", x.enter(1, false), 1);
        checks.due("9: inside section 1", x.place(1), 11);
        checks.due("9: the tablet stays aboard", x.where(103), 21);
    }

    private static void promise9EnterLong() {
        TabletLine x = withBoxOut(6, 4, 2);
        holdBoth(x, 1, 3, 12);
        x.train(1, 2);
        x.train(2, 1);
        x.train(3, 3);
        checks.noSuchElement("9: none aboard, long one up", () -> x.enter(2, true));
        checks.due("9: long take", x.take(1, 12), 1202);
        x.hand(2, 1202);
        checks.noSuchElement("9: not the short one below", () -> x.enter(2, false));
        checks.due("9: long one up", x.enter(2, true), 12);
        checks.due("9: inside the long one", x.place(2), 22);
        checks.due("9: passes over the box", x.arrive(2), 3);
        checks.noSuchElement("9: not the next short one", () -> x.enter(2, true));
        checks.due("9: long one down", x.enter(2, false), 12);
        checks.due("9: arrives below", x.arrive(2), 1);
        checks.noSuchElement("9: from the box that is out: the short one", () -> x.enter(1, true));
        checks.noSuchElement("9: none aboard, long one down", () -> x.enter(3, false));
        x.give(1, 12, 1202);
        checks.due("9: the box is in again", x.switchIn(2), 0);
        x.plunge(2, 1, true);
        x.hand(2, x.take(1, 1));
        checks.due("9: the short one again", x.enter(2, true), 1);
        checks.due("9: arrives at the box between", x.arrive(2), 2);
        edgesBesideOut();
    }

    private static void edgesBesideOut() {
        TabletLine x = withBoxOut(3, 4, 1);
        x.train(0, 0);
        x.train(1, 2);
        x.train(2, 1);
        checks.noSuchElement("9: the long one lies above box 0", () -> x.enter(0, true));
        checks.noSuchElement("9: the long one lies below box 2", () -> x.enter(1, false));
        checks.unsupported("9: below box 0", () -> x.enter(0, false));
        checks.unsupported("9: above box 2", () -> x.enter(1, true));
        checks.noSuchElement("9: up from the box that is out", () -> x.enter(2, true));
        checks.noSuchElement("9: down from the box that is out", () -> x.enter(2, false));
    }

    private static void promise10Arrive() {
        TabletLine x = fullLine(4);
        checks.illegalArgument("10: unknown", () -> x.arrive(0));
        checks.illegalArgument("10: train -1", () -> x.arrive(-1));
        checks.illegalArgument("10: train 8", () -> x.arrive(8));
        x.train(0, 3);
        checks.illegalState("10: stands", () -> x.arrive(0));
        x.plunge(2, 2, true);
        x.hand(0, x.take(3, 2));
        checks.illegalState("10: stands with a tablet", () -> x.arrive(0));
        x.enter(0, false);
        checks.due("10: arrives", x.arrive(0), 2);
        checks.due("10: stands there", x.place(0), 2);
        checks.illegalState("10: twice", () -> x.arrive(0));
        checks.due("10: the tablet stays aboard", x.where(203), 20);
        TabletLine y = withBoxOut(3, 4, 1);
        y.plunge(0, 11, true);
        y.train(1, 2);
        y.hand(1, y.take(2, 11));
        y.enter(1, false);
        checks.due("10: the far end of a long section", y.arrive(1), 0);
        y.give(0, 11, 1103);
        checks.illegalState("10: stands after all", () -> y.arrive(1));
    }

    private static void promise11SwitchOut() {
        TabletLine x = fullLine(4);
        for (int box : new int[] {-1, 6, LOW, HIGH}) {
            checks.illegalArgument("11: box " + box, () -> x.switchOut(box));
        }
        checks.due("11: first box", x.switchOut(0), 1);
        checks.due("11: last box", x.switchOut(5), 1);
        checks.due("11: may not", new TabletLine(4, 4, 2).switchOut(2), 1);
        x.plunge(2, 1, true);
        x.plunge(2, 2, true);
        holdBoth(x, 1, 3, 12);
        checks.due("11: the box's own and long plungers do not count", x.switchOut(2), 3);
        x.plunge(1, 1, true);
        checks.due("11: the upper neighbour does not hold", x.switchOut(2), 3);
        x.plunge(1, 1, false);
        x.plunge(3, 2, true);
        checks.due("11: the lower neighbour does not hold", x.switchOut(2), 3);
        x.plunge(1, 1, true);
        for (int section : new int[] {1, 2, 12}) {
            x.wire(section, false);
            checks.due("11: wire " + section, x.switchOut(2), 4);
            x.wire(section, true);
        }
        for (int section : new int[] {0, 3, 4, 11, 13, 14}) {
            x.wire(section, false);
        }
        checks.due("11: other wires do not count", x.switchOut(2), 0);
        checks.due("11: is out", x.out(2), true);
        checks.due("11: is out already", x.switchOut(2), 1);
        checks.due("11: a neighbour is out, below", x.switchOut(1), 2);
        checks.due("11: a neighbour is out, above", x.switchOut(3), 2);
        checks.due("11: no neighbour", x.switchOut(4), 3);
        x.wire(3, true);
        x.wire(4, true);
        x.wire(14, true);
        x.plunge(3, 3, true);
        x.plunge(5, 4, true);
        checks.due("11: a second one out", x.switchOut(4), 0);
        checks.due("11: both are out", x.out(2) && x.out(4), true);
    }

    private static void promise11Order() {
        for (int section : new int[] {1, 2}) {
            for (int end = 0; end < 2; end++) {
                TabletLine x = fullLine(4);
                holdBoth(x, 1, 2, 1);
                holdBoth(x, 2, 3, 2);
                int box = section + end;
                int tablet = x.take(box, section);
                checks.due("11: section " + section + " not in phase", x.switchOut(2), 5);
                x.wire(12, false);
                checks.due("11: 4 before 5", x.switchOut(2), 4);
                x.plunge(1, 1, false);
                checks.due("11: 3 before 4", x.switchOut(2), 3);
                checks.due("11: still in", x.out(2), false);
                x.plunge(1, 1, true);
                x.wire(12, true);
                x.give(box, section, tablet);
                checks.due("11: in phase again", x.switchOut(2), 0);
            }
        }
        TabletLine y = withBoxOut(4, 4, 1);
        holdBoth(y, 0, 2, 11);
        int tablet = y.take(0, 11);
        checks.due("11: long take", tablet, 1102);
        checks.due("11: 2 before 3", y.switchOut(2), 2);
        y.wire(1, false);
        checks.due("11: 1 before 3", y.switchOut(1), 1);
    }

    private static void promise12SwitchIn() {
        TabletLine x = withBoxOut(6, 4, 2);
        for (int box : new int[] {-1, 6, LOW, HIGH}) {
            checks.illegalArgument("12: box " + box, () -> x.switchIn(box));
        }
        for (int box : new int[] {0, 1, 3, 4, 5}) {
            checks.due("12: is in", x.switchIn(box), 1);
        }
        x.plunge(1, 1, false);
        x.plunge(3, 2, false);
        checks.due("12: none held", x.switchIn(2), 3);
        x.plunge(1, 12, true);
        checks.due("12: upper one not held", x.switchIn(2), 3);
        x.plunge(1, 12, false);
        x.plunge(3, 12, true);
        checks.due("12: lower one not held", x.switchIn(2), 3);
        x.plunge(1, 12, true);
        checks.due("12: take", x.take(3, 12), 1203);
        for (int section : new int[] {1, 2, 12}) {
            x.wire(section, false);
            checks.due("12: 4 before 5, wire " + section, x.switchIn(2), 4);
            x.wire(section, true);
        }
        x.wire(0, false);
        x.wire(3, false);
        x.wire(11, false);
        x.wire(13, false);
        checks.due("12: not in phase", x.switchIn(2), 5);
        x.wire(12, false);
        x.plunge(3, 12, false);
        checks.due("12: 3 before 4", x.switchIn(2), 3);
        checks.due("12: still out", x.out(2), true);
        x.wire(12, true);
        x.plunge(3, 12, true);
        x.give(3, 12, 1203);
        checks.due("12: in", x.switchIn(2), 0);
        checks.due("12: is in", x.out(2), false);
        checks.due("12: again", x.switchIn(2), 1);
        checks.due("12: locked again", x.take(1, 12), -5);
        x.plunge(2, 1, true);
        checks.due("12: not locked any more", x.take(1, 1), 102);
        checks.due("12: may not", new TabletLine(4, 4, 0).switchIn(1), 1);
    }

    private static void promise13Carry() {
        TabletLine x = fullLine(8);
        refusesWrongEnds("13: carry", (box, section) -> {
            x.carry(section, box, 2);
            return 0;
        });
        for (int n : new int[] {0, 1, 3, 5, -1, -2, -3, -4, LOW, HIGH}) {
            checks.illegalArgument("13: n " + n, () -> x.carry(0, 0, n));
        }
        checks.noSuchElement("13: one more even than the slide has", () -> x.carry(0, 0, 6));
        checks.noSuchElement("13: very many", () -> x.carry(0, 0, HIGH - 1));
        x.carry(0, 0, 2);
        checks.due("13: lower slide", x.slide(0, 0), 2);
        checks.due("13: upper slide", x.slide(1, 0), 6);
        for (int i = 0; i < 8; i++) {
            checks.due("13: tablet " + i, x.where(i), i == 0 || i == 2 ? 0 : 1);
        }
        checks.due("13: no wheel turns, lower", x.phase(0, 0), 0);
        checks.due("13: no wheel turns, upper", x.phase(1, 0), 0);
        x.plunge(0, 0, true);
        checks.due("13: the last one carried lies on top", x.take(1, 0), 4);
        checks.illegalState("13: not in phase", () -> x.carry(0, 0, 2));
        checks.illegalState("13: not in phase before fewer", () -> x.carry(0, 0, 8));
        checks.illegalArgument("13: odd before not in phase", () -> x.carry(0, 0, 3));
        checks.illegalArgument("13: no end before not in phase", () -> x.carry(0, 2, 2));
        x.give(1, 0, 4);
        x.carry(0, 1, 6);
        checks.due("13: all at the lower end", x.slide(0, 0), 8);
        checks.due("13: none at the upper end", x.slide(1, 0), 0);
        checks.noSuchElement("13: none left", () -> x.carry(0, 1, 2));
        x.plunge(1, 0, true);
        checks.due("13: the deepest comes to the top", x.take(0, 0), 1);
        x.give(0, 0, 1);
        x.wire(12, false);
        x.carry(12, 1, 4);
        checks.due("13: locked and broken do not count", x.slide(3, 12), 8);
        checks.due("13: exactly all", x.slide(1, 12), 0);
    }

    private static void promise14Phase() {
        TabletLine x = fullLine(6);
        refusesWrongEnds("14: phase", x::phase);
        holdBoth(x, 0, 1, 0);
        for (int i = 0; i < 3; i++) {
            int tablet = x.take(0, 0);
            checks.due("14: turned by a take", x.phase(0, 0), 1);
            checks.due("14: the other one", x.phase(1, 0), 0);
            x.give(0, 0, tablet);
            checks.due("14: turned by a give", x.phase(0, 0), 0);
        }
        checks.due("14: other sections", x.phase(1, 1), 0);
    }

    private static void promise15Slide() {
        TabletLine x = fullLine(7);
        refusesWrongEnds("15: slide", x::slide);
        checks.due("15: lower", x.slide(0, 0), 4);
        checks.due("15: upper", x.slide(1, 0), 3);
        checks.due("15: long, lower", x.slide(3, 14), 4);
        checks.due("15: long, upper", x.slide(5, 14), 3);
        x.plunge(1, 0, true);
        x.take(0, 0);
        checks.due("15: one less", x.slide(0, 0), 3);
        checks.due("15: others stay", x.slide(1, 1), 4);
    }

    private static void promise16Where() {
        TabletLine x = new TabletLine(6, 4, 4);
        for (int tablet : new int[] {-1, -100, 4, 99, 404, 500, 900, 1000, 1100, 1204, 1300, 1500, LOW, HIGH}) {
            checks.illegalArgument("16: where(" + tablet + ")", () -> x.where(tablet));
        }
        checks.due("16: long, lower", x.where(1202), 0);
        checks.due("16: long, upper", x.where(1203), 1);
        x.plunge(4, 4, true);
        x.take(5, 4);
        checks.due("16: hand of box 5", x.where(403), 15);
        x.train(7, 5);
        x.hand(7, 403);
        checks.due("16: aboard train 7", x.where(403), 27);
        x.enter(7, false);
        checks.due("16: aboard inside", x.where(403), 27);
        x.arrive(7);
        x.give(4, 4, 403);
        checks.due("16: given back below", x.where(403), 0);
    }

    private static void promise17Place() {
        TabletLine x = fullLine(4);
        for (int train : new int[] {-1, 8, LOW, HIGH}) {
            checks.illegalArgument("17: place(" + train + ")", () -> x.place(train));
        }
        checks.due("17: unknown", x.place(7), -1);
        x.train(7, 5);
        checks.due("17: stands", x.place(7), 5);
        x.plunge(4, 4, true);
        x.hand(7, x.take(5, 4));
        x.enter(7, false);
        checks.due("17: inside", x.place(7), 14);
        x.arrive(7);
        checks.due("17: stands again", x.place(7), 4);
    }

    private static void promise18Spend() {
        TabletLine x = fullLine(7);
        refusesWrongEnds("18: spend", (box, section) -> x.spend(section, box));
        checks.due("18: lower", x.spend(0, 0), 4);
        checks.due("18: upper", x.spend(0, 1), 3);
        x.wire(12, false);
        checks.due("18: neither plunger, wire nor lock count", x.spend(12, 1), 4);
        x.plunge(1, 0, true);
        int tablet = x.take(0, 0);
        checks.due("18: not in phase, lower", x.spend(0, 0), 0);
        checks.due("18: not in phase, upper", x.spend(0, 1), 0);
        x.give(0, 0, tablet);
        checks.due("18: in phase again", x.spend(0, 0), 4);
        x.carry(0, 0, 4);
        checks.due("18: empty", x.spend(0, 0), 0);
        checks.due("18: all", x.spend(0, 1), 7);
        checks.due("18: changes nothing", x.slide(1, 0), 7);
        TabletLine y = withBoxOut(3, 8, 1);
        checks.due("18: locked", y.spend(1, 2), 4);
        holdBoth(y, 0, 2, 11);
        y.train(0, 0);
        y.hand(0, y.take(0, 11));
        y.enter(0, true);
        y.arrive(0);
        y.give(2, 11, 1106);
        checks.due("18: both wheels turned, lower", y.spend(11, 0), 3);
        checks.due("18: both wheels turned, upper", y.spend(11, 2), 5);
    }

    private static void promise19Out() {
        TabletLine x = fullLine(4);
        for (int box : new int[] {-1, 6, LOW, HIGH}) {
            checks.illegalArgument("19: out(" + box + ")", () -> x.out(box));
        }
        for (int box = 0; box < 6; box++) {
            checks.due("19: in at first", x.out(box), false);
        }
        TabletLine y = withBoxOut(6, 4, 3);
        for (int box = 0; box < 6; box++) {
            checks.due("19: box " + box, y.out(box), box == 3);
        }
    }
}
