import java.util.List;

/**
 * The sentences of promises 1 to 19 that name a bound or a refusal: a method for each. Where a call is refused, all
 * that the line holds, seen or hidden, is compared with what it held before.
 */
public final class BoundsTest {
    private static final int LOW = Integer.MIN_VALUE;
    private static final int HIGH = Integer.MAX_VALUE;
    private static final int ALL = -1;

    private static final Checks checks = new Checks();

    public static void main(String[] args) {
        newObjects();
        consents();
        takes();
        gives();
        trains();
        enters();
        switches();
        carries();
        looks();
        checks.end();
    }

    private static void newObjects() {
        promise1SoManyBoxes();
        promise1OtherwiseFourBoxes();
        promise1SoManyTablets();
        promise1OtherwiseSixTablets();
        promise1BothOtherwise();
        promise1BitOfSwitches();
        promise1BitsOfNoInnerBox();
    }

    private static void consents() {
        promise2HoldsAPlunger();
        promise2FreesAPlunger();
        promise2OtherPlungersStay();
        promise3BreaksAWire();
        promise3MendsAWire();
        promise3OtherWiresStay();
    }

    private static void takes() {
        promise4TopmostIntoTheHand();
        promise4DownToTheLast();
        promise4FirstRefusal();
        promise4FirstRefusalOfALockedSection();
        promise4FirstRefusalOfALongSection();
    }

    private static void gives() {
        promise5OnTopOfTheSlide();
        promise5FillsTheSlide();
        promise5IntoAnEmptySlide();
        promise5NeedsNoConsent();
        promise5AnotherSections();
        promise5NeitherInThisHand();
        promise5NorAboardATrainThatStandsHere();
    }

    private static void trains() {
        promise6StandsAtABox();
        promise6KnownAlready();
        promise7FromTheHandAboard();
        promise7InNoHand();
        promise7NotAtThatBox();
        promise7HasOneAboard();
        promise8IntoTheHand();
        promise8HasNone();
        promise8StandsAtNoBox();
    }

    private static void enters() {
        promise9NextSection();
        promise9LongOne();
        promise9StandsAtNoBox();
        promise9NoBoxThatWay();
        promise9NoTabletAboard();
        promise9AnotherSectionsTablet();
        promise9TabletNotAboard();
        promise9BesideABoxThatIsOut();
        promise10ComesToTheEnd();
        promise10InNoSection();
    }

    private static void switches() {
        promise11MayNotOrIsOut();
        promise11FirstRefusal();
        promise11OtherThingsDoNotCount();
        promise12IsIn();
        promise12FirstRefusal();
        promise12OtherThingsDoNotCount();
    }

    private static void carries() {
        promise13OneByOneFromTheTop();
        promise13AllOfThem();
        promise13OddOrBelow2();
        promise13NotInPhase();
        promise13Fewer();
        promise13NeedsNoConsent();
    }

    private static void looks() {
        promise14Wheel();
        promise15EmptyAndFull();
        promise16Where();
        promise17Place();
        promise18EmptyAndFull();
        promise18NotInPhase();
        promise18ConsentsAndLocksDoNotCount();
        promise18AsPlayed();
        promise19Out();
    }

    private static Scene line(int n, int t) {
        return Scene.line(n, t, ALL);
    }

    /** Box 0 has tablet 2 of section 0 in its hand. */
    private static Scene inHand() {
        return line(3, 4).taken(0, 0);
    }

    /** Train 0 stands at box 0, with tablet 2 of section 0 aboard. */
    private static Scene aboard() {
        return inHand().after(x -> x.train(0, 0), x -> x.hand(0, 2));
    }

    /** Train 0 is inside section 0, going up. */
    private static Scene inside() {
        return aboard().after(x -> x.enter(0, true));
    }

    /** A tablet is taken out at one end, brought by a train and given back at the other one. */
    private static Scene brought(Scene scene, int train, int from, int section, int tablet) {
        int to = Scene.otherEnd(from, section);
        return scene.taken(from, section).after(x -> x.train(train, from), x -> x.hand(train, tablet),
                x -> x.enter(train, to > from), x -> x.arrive(train), x -> x.give(to, section, tablet));
    }

    // "So many boxes, 2 .. 6"
    private static void promise1SoManyBoxes() {
        for (int n = 2; n <= 6; n++) {
            boxesAre(n, n);
        }
    }

    private static void boxesAre(int n, int due) {
        String what = "1: n " + n;
        Scene scene = line(n, 4);
        checks.only(what + ", the last box", scene, x -> x.out(due - 1) ? 1 : 0, 0);
        checks.illegalArgument(what + ", the box behind it", scene, x -> x.out(due));
        checks.only(what + ", the last section", scene, x -> x.slide(due - 1, due - 2), 2);
        checks.illegalArgument(what + ", the section behind it", scene, x -> x.wire(due - 1, false));
        if (due > 2) {
            checks.only(what + ", the last long section", scene, x -> x.slide(due - 1, 8 + due), 2);
        }
        checks.illegalArgument(what + ", the long section behind it", scene, x -> x.wire(9 + due, false));
    }

    // "(otherwise 4)"
    private static void promise1OtherwiseFourBoxes() {
        for (int n : List.of(1, 7, 0, -1, 8, LOW, HIGH)) {
            boxesAre(n, 4);
        }
    }

    // "with t tablets for each section, 4 .. 8"
    private static void promise1SoManyTablets() {
        for (int t = 4; t <= 8; t++) {
            tabletsAre(t, t);
        }
    }

    private static void tabletsAre(int t, int due) {
        Scene scene = line(3, t);
        for (int section : scene.sections()) {
            String what = "1: t " + t + ", section " + section;
            int last = 100 * section + due - 1;
            checks.only(what + ", the last tablet", scene, x -> x.where(last), (due - 1) % 2);
            checks.illegalArgument(what + ", the tablet behind it", scene, x -> x.where(last + 1));
            checks.only(what + ", lower slide", scene, x -> x.slide(Scene.lowerEnd(section), section), (due + 1) / 2);
            checks.only(what + ", upper slide", scene, x -> x.slide(Scene.upperEnd(section), section), due / 2);
        }
    }

    // "(otherwise 6)"
    private static void promise1OtherwiseSixTablets() {
        for (int t : List.of(3, 9, 0, -1, 10, LOW, HIGH)) {
            tabletsAre(t, 6);
        }
    }

    private static void promise1BothOtherwise() {
        Scene scene = Scene.line(7, 3, ALL);
        checks.only("1: last tablet of the last of three sections", scene, x -> x.where(205), 1);
        checks.illegalArgument("1: no seventh tablet", scene, x -> x.where(206));
        checks.illegalArgument("1: no fourth section", scene, x -> x.where(300));
        checks.answers("1: box 2 of four may", scene.allPlungersHeld(), x -> x.switchOut(2), 0);
        checks.only("1: box 3 of four may not", scene.allPlungersHeld(), x -> x.switchOut(3), 1);
    }

    // "inner box b may switch out if bit b of switches is 1"
    private static void promise1BitOfSwitches() {
        for (int switches : List.of(0, 2, 4, 8, 16, 6, 10, 18, 20, 24, 30, ~2, ~4, ~8, ~16, ALL)) {
            Scene scene = Scene.line(6, 4, switches).allPlungersHeld();
            for (int box = 1; box <= 4; box++) {
                int b = box;
                boolean may = (switches & 1 << b) != 0;
                String what = "1: switches " + switches + ", box " + b;
                if (may) {
                    checks.answers(what, scene, x -> x.switchOut(b), 0);
                } else {
                    checks.only(what, scene, x -> x.switchOut(b), 1);
                    checks.illegalArgument(what + ", no long section", scene, x -> x.wire(10 + b, true));
                }
            }
        }
    }

    private static void promise1BitsOfNoInnerBox() {
        for (int switches : List.of(1, 32, 33, 64, 1 << 10, 1 << 11, 1 << 30, LOW)) {
            Scene scene = Scene.line(6, 4, switches).allPlungersHeld();
            for (int box = 0; box <= 5; box++) {
                int b = box;
                checks.only("1: switches " + switches + ", box " + b, scene, x -> x.switchOut(b), 1);
            }
        }
        for (int n = 2; n <= 5; n++) {
            int last = n - 1;
            Scene scene = Scene.line(n, 4, 1 << last | 1).allPlungersHeld();
            checks.only("1: the first box may not", scene, x -> x.switchOut(0), 1);
            checks.only("1: the last box may not", scene, x -> x.switchOut(last), 1);
            checks.illegalArgument("1: the last box has no long section", scene, x -> x.wire(10 + last, true));
        }
    }

    // "Holds a plunger"
    private static void promise2HoldsAPlunger() {
        for (int section : line(6, 4).sections()) {
            int due = section > 10 ? -5 : 100 * section;
            int lower = Scene.lowerEnd(section);
            int upper = Scene.upperEnd(section);
            Scene upperHeld = line(6, 4).after(x -> x.plunge(upper, section, true));
            Scene lowerHeld = line(6, 4).after(x -> x.plunge(lower, section, true));
            checks.answers("2: upper held", upperHeld, x -> x.take(lower, section), due < 0 ? due : due + 2);
            checks.answers("2: lower held", lowerHeld, x -> x.take(upper, section), due < 0 ? due : due + 3);
            checks.only("2: one's own does not count, upper", upperHeld, x -> x.take(upper, section), -1);
            checks.only("2: one's own does not count, lower", lowerHeld, x -> x.take(lower, section), -1);
            checks.due("2: held twice is held", upperHeld.after(x -> x.plunge(upper, section, true)).tell(),
                    upperHeld.tell());
        }
    }

    // "or frees it"
    private static void promise2FreesAPlunger() {
        for (int section : line(6, 4).sections()) {
            int lower = Scene.lowerEnd(section);
            int upper = Scene.upperEnd(section);
            Scene held = line(6, 4).plungers(section, true);
            checks.only("2: upper freed", held.after(x -> x.plunge(upper, section, false)),
                    x -> x.take(lower, section), -1);
            checks.only("2: lower freed", held.after(x -> x.plunge(lower, section, false)),
                    x -> x.take(upper, section), -1);
            checks.due("2: freed is as at first", held.plungers(section, false).tell(), line(6, 4).tell());
            checks.due("2: freed, though free", line(6, 4).plungers(section, false).tell(), line(6, 4).tell());
        }
    }

    private static void promise2OtherPlungersStay() {
        Scene scene = line(6, 4).allPlungersHeld();
        for (int section : scene.sections()) {
            int lower = Scene.lowerEnd(section);
            Scene freed = scene.after(x -> x.plunge(lower, section, false));
            for (int other : scene.sections()) {
                int due = other > 10 ? -5 : 100 * other;
                checks.answers("2: the others stay held, below " + other, freed,
                        x -> x.take(Scene.lowerEnd(other), other), due < 0 ? due : due + 2);
                if (other != section) {
                    checks.answers("2: the others stay held, above " + other, freed,
                            x -> x.take(Scene.upperEnd(other), other), due < 0 ? due : due + 3);
                }
            }
        }
    }

    // "Breaks a wire"
    private static void promise3BreaksAWire() {
        Scene scene = line(6, 4).allPlungersHeld();
        for (int section : scene.sections()) {
            Scene broken = scene.after(x -> x.wire(section, false));
            checks.only("3: broken, lower end", broken, x -> x.take(Scene.lowerEnd(section), section), -2);
            checks.only("3: broken, upper end", broken, x -> x.take(Scene.upperEnd(section), section), -2);
            checks.due("3: broken twice is broken", broken.after(x -> x.wire(section, false)).tell(), broken.tell());
        }
    }

    // "or mends it"
    private static void promise3MendsAWire() {
        Scene scene = line(6, 4).allPlungersHeld();
        for (int section : scene.sections()) {
            Scene mended = scene.after(x -> x.wire(section, false), x -> x.wire(section, true));
            checks.due("3: mended is as at first", mended.tell(), scene.tell());
            checks.due("3: mended, though whole", scene.after(x -> x.wire(section, true)).tell(), scene.tell());
        }
    }

    private static void promise3OtherWiresStay() {
        Scene scene = line(6, 4).allPlungersHeld();
        for (int section : scene.sections()) {
            Scene broken = scene.after(x -> x.wire(section, false));
            for (int other : scene.sections()) {
                int due = other == section ? -2 : other > 10 ? -5 : 100 * other + 2;
                checks.answers("3: wire " + section + " broken, take in " + other, broken,
                        x -> x.take(Scene.lowerEnd(other), other), due);
            }
        }
    }

    // "Takes the topmost tablet of the slide at an end out, into the box's hand: its number"
    private static void promise4TopmostIntoTheHand() {
        for (int t = 4; t <= 8; t++) {
            int even = (t - 1) / 2 * 2;
            int odd = t / 2 * 2 - 1;
            Scene scene = line(6, t).allPlungersHeld();
            for (int section = 0; section <= 4; section++) {
                takesTop(scene, section, section, 100 * section + even);
                takesTop(scene, section + 1, section, 100 * section + odd);
            }
            for (int b = 1; b <= 4; b++) {
                int box = b;
                Scene out = scene.after(x -> x.switchOut(box));
                takesTop(out, b - 1, 10 + b, 1000 + 100 * b + even);
                takesTop(out, b + 1, 10 + b, 1000 + 100 * b + odd);
            }
        }
    }

    private static void takesTop(Scene scene, int box, int section, int due) {
        String what = "4: take(" + box + ", " + section + "), t " + scene.tablets;
        int there = Scene.otherEnd(box, section);
        Scene taken = scene.after(x -> x.take(box, section));
        checks.answers(what, scene, x -> x.take(box, section), due);
        checks.answers(what + ", where", taken, x -> x.where(due), 10 + box);
        checks.answers(what + ", slide", taken, x -> x.slide(box, section), scene.make().slide(box, section) - 1);
        checks.answers(what + ", the other slide", taken, x -> x.slide(there, section),
                scene.make().slide(there, section));
    }

    // "-4: the slide is empty": the last one still comes out, deepest last
    private static void promise4DownToTheLast() {
        Scene scene = line(2, 4).plungers(0, true);
        Scene once = brought(scene, 0, 0, 0, 2).plungers(0, true);
        checks.answers("4: the last tablet", once, x -> x.take(0, 0), 0);
        Scene twice = brought(once, 1, 0, 0, 0).plungers(0, true);
        checks.only("4: empty, lower", twice, x -> x.take(0, 0), -4);
        checks.answers("4: full, upper", twice, x -> x.take(1, 0), 0);
        Scene other = line(2, 4).after(x -> x.carry(0, 1, 2)).plungers(0, true);
        checks.only("4: empty, upper", other, x -> x.take(1, 0), -4);
        checks.answers("4: full, lower", other, x -> x.take(0, 0), 1);
    }

    // "or, changing nothing, the first of these: -1 [...] -2 [...] -3 [...] -4"
    private static void promise4FirstRefusal() {
        for (int section : List.of(0, 2)) {
            for (int end = 0; end <= 1; end++) {
                for (int faults = 0; faults < 16; faults++) {
                    takeWithFaults(line(4, 4), section + end, section, faults);
                }
            }
        }
    }

    /** Bits of faults: 1: plunger, 2: wire, 4: not in phase, 8: the slide is empty. */
    private static void takeWithFaults(Scene start, int box, int section, int faults) {
        int other = Scene.otherEnd(box, section);
        Scene scene = start;
        if ((faults & 8) != 0) {
            scene = scene.after(x -> x.carry(section, box, 2));
        }
        if ((faults & 4) != 0) {
            scene = scene.taken(other, section);
        }
        boolean whole = (faults & 2) == 0;
        boolean held = (faults & 1) == 0;
        Scene last = scene.after(x -> x.wire(section, whole), x -> x.plunge(other, section, held),
                x -> x.plunge(box, section, !held));
        String what = "4: take(" + box + ", " + section + "), faults " + faults;
        if (faults == 0) {
            int top = 100 * section + (box == Scene.lowerEnd(section) ? 2 : 3);
            checks.answers(what, last, x -> x.take(box, section), top);
        } else {
            checks.only(what, last, x -> x.take(box, section), -1 - Integer.numberOfTrailingZeros(faults));
        }
    }

    // "-5: it is locked", the last of them. A locked section is always in phase: none is switched over otherwise.
    private static void promise4FirstRefusalOfALockedSection() {
        for (int section : List.of(1, 2)) {
            for (int end = 0; end <= 1; end++) {
                for (int faults : List.of(0, 1, 2, 3, 8, 9, 10, 11)) {
                    takeLocked(line(4, 4).boxOut(2), section + end, section, faults);
                }
            }
        }
    }

    private static void takeLocked(Scene start, int box, int section, int faults) {
        if (faults != 0) {
            takeWithFaults(start, box, section, faults);
        }
        Scene held = start.after(x -> x.plunge(Scene.otherEnd(box, section), section, true));
        String what = "4: locked, take(" + box + ", " + section + ")";
        checks.only(what, held, x -> x.take(box, section), -5);
        checks.only(what + ", both held", start.plungers(section, true), x -> x.take(box, section), -5);
    }

    private static void promise4FirstRefusalOfALongSection() {
        for (int box : List.of(1, 3)) {
            for (int faults : List.of(0, 1, 2, 3, 8, 9, 10, 11)) {
                takeLocked(line(4, 4), box == 1 ? 0 : 2, 11, faults);
                takeLocked(line(4, 4), box, 12, faults);
            }
            for (int faults = 0; faults < 16; faults++) {
                takeWithFaults(line(4, 4).boxOut(2), box, 12, faults);
            }
        }
    }

    // "Gives a tablet of a section back into the slide at an end."
    private static void promise5OnTopOfTheSlide() {
        Scene back = inHand().after(x -> x.give(0, 0, 2));
        checks.due("5: on top, lower", back.pile(0, 0), "2 0");
        checks.answers("5: where, lower", back, x -> x.where(2), 0);
        checks.due("5: as before the take", back.tell(), line(3, 4).tell());
        Scene over = brought(line(3, 4), 0, 0, 0, 2);
        checks.due("5: on top, upper", over.pile(1, 0), "2 3 1");
        checks.due("5: the lower one", over.pile(0, 0), "0");
        checks.answers("5: where, upper", over, x -> x.where(2), 1);
        checks.answers("5: from the train, none aboard any more", over.taken(0, 0).after(x -> x.train(1, 0),
                x -> x.hand(1, 0), x -> x.enter(1, true), x -> x.arrive(1), x -> x.back(1)), x -> x.where(0), 11);
        Scene down = brought(line(3, 4), 0, 1, 0, 3);
        checks.due("5: on top, brought down", down.pile(0, 0), "3 2 0");
        checks.answers("5: where, brought down", down, x -> x.where(3), 0);
        Scene byHand = inside().after(x -> x.arrive(0), x -> x.back(0), x -> x.give(1, 0, 2));
        checks.answers("5: from the far box's hand", byHand, x -> x.where(2), 1);
    }

    private static void promise5FillsTheSlide() {
        for (int t = 4; t <= 8; t += 2) {
            Scene scene = line(2, t);
            for (int i = 0; i < t / 2; i++) {
                scene = brought(scene, i, 0, 0, t - 2 - 2 * i);
            }
            int all = t;
            checks.answers("5: full", scene, x -> x.slide(1, 0), all);
            checks.answers("5: empty", scene, x -> x.slide(0, 0), 0);
            checks.answers("5: out of the full one", scene.after(x -> x.plunge(0, 0, true)), x -> x.take(1, 0), 0);
            Scene fullAgain = scene.taken(1, 0).after(x -> x.give(1, 0, 0));
            checks.due("5: full again", fullAgain.tell(), scene.tell());
        }
    }

    private static void promise5IntoAnEmptySlide() {
        Scene scene = brought(line(2, 4).after(x -> x.carry(0, 0, 2)), 0, 1, 0, 0);
        checks.answers("5: into the empty slide", scene, x -> x.slide(0, 0), 1);
        checks.due("5: the only one", scene.pile(0, 0), "0");
        checks.due("5: the others", scene.pile(1, 0), "2 3 1");
    }

    private static void promise5NeedsNoConsent() {
        Scene broken = inHand().plungers(0, false).after(x -> x.wire(0, false), x -> x.give(0, 0, 2));
        checks.answers("5: with a broken wire and free plungers", broken, x -> x.where(2), 0);
    }

    // "Illegal argument: also if it is another section's"
    private static void promise5AnotherSections() {
        Scene scene = line(3, 4).taken(1, 0).taken(1, 1);
        checks.illegalArgument("5: 0's into 1", scene, x -> x.give(1, 1, 3));
        checks.illegalArgument("5: 1's into 0", scene, x -> x.give(1, 0, 102));
        checks.illegalArgument("5: 0's into the long one", inHand(), x -> x.give(0, 11, 2));
        checks.illegalArgument("5: the same number of 1 into 0", inHand(), x -> x.give(0, 0, 102));
        Scene longOne = line(3, 4).boxOut(1).taken(0, 11);
        checks.illegalArgument("5: the long one's into 0", longOne, x -> x.give(0, 0, 1102));
        checks.illegalArgument("5: aboard, 0's into 1", inside().after(x -> x.arrive(0)), x -> x.give(1, 1, 2));
        for (int tablet : List.of(LOW, -1, 4, 99, 200, 1002, 1104, HIGH)) {
            checks.illegalArgument("5: tablet " + tablet, inHand(), x -> x.give(0, 0, tablet));
        }
    }

    // "illegal state: it is neither in this box's hand"
    private static void promise5NeitherInThisHand() {
        checks.illegalState("5: in the other box's hand", inHand(), x -> x.give(1, 0, 2));
        checks.illegalState("5: in the slide here", inHand(), x -> x.give(0, 0, 0));
        checks.illegalState("5: in the slide there", inHand(), x -> x.give(0, 0, 1));
        checks.illegalState("5: in the slide, none taken", line(3, 4), x -> x.give(0, 0, 2));
        checks.illegalState("5: given twice", inHand().after(x -> x.give(0, 0, 2)), x -> x.give(0, 0, 2));
        Scene over = inside().after(x -> x.arrive(0), x -> x.back(0));
        checks.illegalState("5: in the far box's hand", over, x -> x.give(0, 0, 2));
    }

    // "nor aboard a train that stands here"
    private static void promise5NorAboardATrainThatStandsHere() {
        checks.answers("5: aboard here", aboard().after(x -> x.give(0, 0, 2)), x -> x.where(2), 0);
        checks.illegalState("5: aboard, at the other end", aboard(), x -> x.give(1, 0, 2));
        checks.illegalState("5: inside, going here", inside(), x -> x.give(1, 0, 2));
        checks.illegalState("5: inside, coming from here", inside(), x -> x.give(0, 0, 2));
        Scene arrived = inside().after(x -> x.arrive(0));
        checks.answers("5: arrived here", arrived.after(x -> x.give(1, 0, 2)), x -> x.where(2), 1);
        checks.illegalState("5: gone from here", arrived, x -> x.give(0, 0, 2));
        checks.illegalState("5: another train stands here", aboard().after(x -> x.train(1, 1)), x -> x.give(1, 0, 2));
        Scene seventh = inHand().after(x -> x.train(7, 0), x -> x.hand(7, 2));
        checks.answers("5: aboard the last train", seventh.after(x -> x.give(0, 0, 2)), x -> x.where(2), 0);
        checks.illegalState("5: aboard the last train, at the other end", seventh, x -> x.give(1, 0, 2));
    }

    // "A train stands at a box, and is known."
    private static void promise6StandsAtABox() {
        for (int train = 0; train <= 7; train++) {
            for (int box = 0; box <= 5; box++) {
                int it = train;
                int at = box;
                checks.answers("6: train " + it + " at " + at, line(6, 4).after(x -> x.train(it, at)),
                        x -> x.place(it), at);
            }
        }
        checks.answers("6: at a box that is out", line(3, 4).boxOut(1).after(x -> x.train(0, 1)), x -> x.place(0), 1);
        Scene two = line(3, 4).after(x -> x.train(0, 1), x -> x.train(1, 1));
        checks.answers("6: two at one box", two, x -> x.place(0) + x.place(1), 2);
    }

    // "illegal state: it is known already"
    private static void promise6KnownAlready() {
        for (int box = 0; box <= 2; box++) {
            int at = box;
            checks.illegalState("6: stands", line(3, 4).after(x -> x.train(0, 1)), x -> x.train(0, at));
            checks.illegalState("6: stands at box 0", line(3, 4).after(x -> x.train(7, 0)), x -> x.train(7, at));
            checks.illegalState("6: with a tablet", aboard(), x -> x.train(0, at));
            checks.illegalState("6: inside", inside(), x -> x.train(0, at));
            checks.illegalState("6: arrived", inside().after(x -> x.arrive(0)), x -> x.train(0, at));
        }
    }

    // "A tablet goes from a box's hand aboard a train."
    private static void promise7FromTheHandAboard() {
        for (int train = 0; train <= 7; train++) {
            int it = train;
            Scene scene = inHand().after(x -> x.train(it, 0), x -> x.hand(it, 2));
            checks.answers("7: aboard " + it, scene, x -> x.where(2), 20 + it);
            checks.answers("7: and back " + it, scene, x -> x.back(it), 2);
        }
        Scene far = inside().after(x -> x.arrive(0), x -> x.back(0), x -> x.train(1, 1), x -> x.hand(1, 2));
        checks.answers("7: from the far box's hand", far, x -> x.where(2), 21);
        Scene zero = line(2, 4).after(x -> x.carry(0, 0, 2)).taken(1, 0).after(x -> x.train(0, 1), x -> x.hand(0, 0));
        checks.answers("7: tablet 0 aboard train 0", zero, x -> x.where(0), 20);
        checks.illegalState("7: tablet 0 is one, too", zero, x -> x.hand(0, 0));
        checks.answers("7: tablet 0 back", zero, x -> x.back(0), 0);
        checks.answers("7: tablet 0 opens section 0", zero, x -> x.enter(0, false), 0);
    }

    // "illegal state: it is in no hand"
    private static void promise7InNoHand() {
        Scene scene = line(3, 4).after(x -> x.train(0, 0), x -> x.train(1, 1));
        checks.illegalState("7: in the lower slide, topmost", scene, x -> x.hand(0, 2));
        checks.illegalState("7: in the lower slide, deepest", scene, x -> x.hand(0, 0));
        checks.illegalState("7: in the upper slide", scene, x -> x.hand(1, 3));
        checks.illegalState("7: in the upper slide, a train below", scene, x -> x.hand(0, 1));
        checks.illegalState("7: given back", inHand().after(x -> x.give(0, 0, 2), x -> x.train(0, 0)),
                x -> x.hand(0, 2));
        checks.illegalState("7: aboard this train", aboard(), x -> x.hand(0, 2));
        checks.illegalState("7: aboard another train here", aboard().after(x -> x.train(1, 0)), x -> x.hand(1, 2));
        checks.illegalState("7: aboard a train inside", inside().after(x -> x.train(1, 0)), x -> x.hand(1, 2));
    }

    // "or the train does not stand at that box"
    private static void promise7NotAtThatBox() {
        Scene scene = inHand().after(x -> x.train(1, 1), x -> x.train(2, 2));
        checks.illegalState("7: at the other end", scene, x -> x.hand(1, 2));
        checks.illegalState("7: at a third box", scene, x -> x.hand(2, 2));
        Scene second = inside().taken(1, 1);
        checks.illegalState("7: inside, going there", second, x -> x.hand(0, 102));
        Scene below = inside().after(x -> x.arrive(0), x -> x.enter(0, false)).taken(1, 1);
        checks.illegalState("7: inside, coming from there", below, x -> x.hand(0, 102));
        Scene gone = inside().after(x -> x.arrive(0), x -> x.back(0), x -> x.train(1, 0));
        checks.illegalState("7: at the box where it was taken", gone, x -> x.hand(1, 2));
        checks.answers("7: at the box where it is", gone.after(x -> x.hand(0, 2)), x -> x.where(2), 20);
    }

    // "or has one aboard"
    private static void promise7HasOneAboard() {
        Scene scene = inside().after(x -> x.arrive(0)).taken(1, 1);
        checks.illegalState("7: has another section's", scene, x -> x.hand(0, 102));
        checks.answers("7: after it gave it", scene.after(x -> x.give(1, 0, 2), x -> x.hand(0, 102)),
                x -> x.where(102), 20);
        checks.answers("7: another train takes it", scene.after(x -> x.train(1, 1), x -> x.hand(1, 102)),
                x -> x.where(102), 21);
    }

    // "The tablet aboard a train goes into the hand of the box where it stands: the tablet."
    private static void promise8IntoTheHand() {
        checks.answers("8: back", aboard(), x -> x.back(0), 2);
        checks.due("8: as before the hand", aboard().after(x -> x.back(0)).tell(),
                inHand().after(x -> x.train(0, 0)).tell());
        Scene arrived = inside().after(x -> x.arrive(0));
        checks.answers("8: at the far box", arrived, x -> x.back(0), 2);
        checks.answers("8: in the far box's hand", arrived.after(x -> x.back(0)), x -> x.where(2), 11);
        Scene longOne = line(6, 8).boxOut(4).taken(5, 14).after(x -> x.train(7, 5), x -> x.hand(7, 1407));
        checks.answers("8: the last tablet of all", longOne, x -> x.back(7), 1407);
        checks.answers("8: in the last box's hand", longOne.after(x -> x.back(7)), x -> x.where(1407), 15);
    }

    // "illegal state: it has none"
    private static void promise8HasNone() {
        checks.illegalState("8: never had one", inHand().after(x -> x.train(0, 0)), x -> x.back(0));
        checks.illegalState("8: went back", aboard().after(x -> x.back(0)), x -> x.back(0));
        checks.illegalState("8: was given", aboard().after(x -> x.give(0, 0, 2)), x -> x.back(0));
        checks.illegalState("8: another train has it", aboard().after(x -> x.train(1, 0)), x -> x.back(1));
    }

    // "or stands at no box"
    private static void promise8StandsAtNoBox() {
        checks.illegalState("8: inside, up", inside(), x -> x.back(0));
        checks.illegalState("8: inside, down", inside().after(x -> x.arrive(0), x -> x.enter(0, false)),
                x -> x.back(0));
        Scene longOne = line(3, 4).boxOut(1).taken(0, 11).after(x -> x.train(0, 0), x -> x.hand(0, 1102),
                x -> x.enter(0, true));
        checks.illegalState("8: inside a long section", longOne, x -> x.back(0));
    }

    // "A train goes into the next section, up (to higher boxes) or down [...]: the section."
    private static void promise9NextSection() {
        for (int section = 0; section <= 4; section++) {
            int s = section;
            Scene below = line(6, 4).taken(s, s).after(x -> x.train(0, s), x -> x.hand(0, 100 * s + 2));
            checks.answers("9: up", below, x -> x.enter(0, true), s);
            checks.answers("9: inside, up", below.after(x -> x.enter(0, true)), x -> x.place(0), 10 + s);
            Scene above = line(6, 4).taken(s + 1, s).after(x -> x.train(0, s + 1), x -> x.hand(0, 100 * s + 3));
            checks.answers("9: down", above, x -> x.enter(0, false), s);
            checks.answers("9: inside, down", above.after(x -> x.enter(0, false)), x -> x.place(0), 10 + s);
            checks.answers("9: it stays aboard", above.after(x -> x.enter(0, false)), x -> x.where(100 * s + 3), 20);
        }
    }

    // "that is the long one, if the next box that way is switched out"
    private static void promise9LongOne() {
        for (int box = 1; box <= 4; box++) {
            int b = box;
            int lowTablet = 1000 + 100 * b + 2;
            int highTablet = lowTablet + 1;
            Scene out = line(6, 4).boxOut(b);
            Scene below = out.taken(b - 1, 10 + b).after(x -> x.train(0, b - 1), x -> x.hand(0, lowTablet));
            checks.answers("9: long, up", below, x -> x.enter(0, true), 10 + b);
            checks.answers("9: inside, up", below.after(x -> x.enter(0, true)), x -> x.place(0), 20 + b);
            checks.answers("9: to the box behind", below.after(x -> x.enter(0, true)), x -> x.arrive(0), b + 1);
            Scene above = out.taken(b + 1, 10 + b).after(x -> x.train(0, b + 1), x -> x.hand(0, highTablet));
            checks.answers("9: long, down", above, x -> x.enter(0, false), 10 + b);
            checks.answers("9: to the box below", above.after(x -> x.enter(0, false)), x -> x.arrive(0), b - 1);
            Scene in = line(6, 4).boxOut(b).plungers(10 + b, true).after(x -> x.switchIn(b));
            Scene shortOne = in.taken(b - 1, b - 1).after(x -> x.train(0, b - 1), x -> x.hand(0, 100 * b - 98));
            checks.answers("9: short, in again", shortOne, x -> x.enter(0, true), b - 1);
        }
    }

    // "illegal state: it stands at no box"
    private static void promise9StandsAtNoBox() {
        for (boolean up : new boolean[] {true, false}) {
            checks.illegalState("9: inside, came up, " + up, inside(), x -> x.enter(0, up));
            checks.illegalState("9: inside, came down, " + up,
                    inside().after(x -> x.arrive(0), x -> x.enter(0, false)), x -> x.enter(0, up));
        }
    }

    // "unsupported operation: there is no box that way"
    private static void promise9NoBoxThatWay() {
        for (int n = 2; n <= 6; n++) {
            int last = n - 1;
            Scene first = line(n, 4).after(x -> x.train(0, 0), x -> x.train(1, last));
            checks.unsupported("9: below the first, n " + n, first, x -> x.enter(0, false));
            checks.unsupported("9: above the last, n " + n, first, x -> x.enter(1, true));
            Scene with = first.taken(0, 0).after(x -> x.hand(0, 2));
            checks.unsupported("9: below the first, with a tablet", with, x -> x.enter(0, false));
            checks.answers("9: but up", with, x -> x.enter(0, true), 0);
            Scene above = first.taken(last, last - 1).after(x -> x.hand(1, 100 * last - 97));
            checks.unsupported("9: above the last, with a tablet", above, x -> x.enter(1, true));
            checks.answers("9: but down", above, x -> x.enter(1, false), last - 1);
        }
    }

    // "no such element: it has no tablet of the section aboard"
    private static void promise9NoTabletAboard() {
        Scene scene = line(3, 4).after(x -> x.train(0, 0), x -> x.train(1, 1), x -> x.train(2, 2));
        checks.noSuchElement("9: none, up from the first", scene, x -> x.enter(0, true));
        checks.noSuchElement("9: none, up from the middle", scene, x -> x.enter(1, true));
        checks.noSuchElement("9: none, down from the middle", scene, x -> x.enter(1, false));
        checks.noSuchElement("9: none, down from the last", scene, x -> x.enter(2, false));
        Scene two = line(2, 4).after(x -> x.train(0, 0), x -> x.train(1, 1));
        checks.noSuchElement("9: none, two boxes, up", two, x -> x.enter(0, true));
        checks.noSuchElement("9: none, two boxes, down", two, x -> x.enter(1, false));
    }

    private static void promise9AnotherSectionsTablet() {
        Scene arrived = inside().after(x -> x.arrive(0));
        checks.noSuchElement("9: the tablet of the section that it left", arrived, x -> x.enter(0, true));
        checks.answers("9: down again with it", arrived, x -> x.enter(0, false), 0);
        Scene upper = line(3, 4).taken(1, 1).after(x -> x.train(0, 1), x -> x.hand(0, 102));
        checks.noSuchElement("9: the tablet of the section above", upper, x -> x.enter(0, false));
        Scene longOne = line(4, 4).boxOut(1).taken(2, 11).after(x -> x.train(0, 2), x -> x.hand(0, 1103));
        checks.noSuchElement("9: the long one's, the other way", longOne, x -> x.enter(0, true));
        Scene shortOne = line(4, 4).taken(0, 0).after(x -> x.train(0, 0), x -> x.hand(0, 2));
        Scene third = line(6, 4).boxOut(3).taken(2, 1).after(x -> x.train(0, 2), x -> x.hand(0, 103));
        checks.noSuchElement("9: a short one's, the long one lies there", third, x -> x.enter(0, true));
        checks.answers("9: a short one's, the short way", third, x -> x.enter(0, false), 1);
        checks.answers("9: a short one's, none is out", shortOne, x -> x.enter(0, true), 0);
    }

    private static void promise9TabletNotAboard() {
        checks.noSuchElement("9: in the box's hand", inHand().after(x -> x.train(0, 0)), x -> x.enter(0, true));
        checks.noSuchElement("9: aboard another train", aboard().after(x -> x.train(1, 0)), x -> x.enter(1, true));
        checks.noSuchElement("9: went back", aboard().after(x -> x.back(0)), x -> x.enter(0, true));
        checks.noSuchElement("9: was given", aboard().after(x -> x.give(0, 0, 2)), x -> x.enter(0, true));
        checks.noSuchElement("9: another train is inside", inside().after(x -> x.train(1, 0)), x -> x.enter(1, true));
    }

    // "(or none behind the one that is switched out)": a box that is out is an inner one, and has one behind it
    private static void promise9BesideABoxThatIsOut() {
        Scene scene = line(3, 4).boxOut(1).after(x -> x.train(0, 0), x -> x.train(1, 1), x -> x.train(2, 2));
        checks.noSuchElement("9: up over box 1", scene, x -> x.enter(0, true));
        checks.noSuchElement("9: down over box 1", scene, x -> x.enter(2, false));
        checks.unsupported("9: below the first", scene, x -> x.enter(0, false));
        checks.unsupported("9: above the last", scene, x -> x.enter(2, true));
        checks.noSuchElement("9: up from the box that is out", scene, x -> x.enter(1, true));
        checks.noSuchElement("9: down from the box that is out", scene, x -> x.enter(1, false));
    }

    // "A train inside a section comes to the end to which it goes: the box."
    private static void promise10ComesToTheEnd() {
        for (int section = 0; section <= 4; section++) {
            int s = section;
            Scene up = line(6, 4).taken(s, s).after(x -> x.train(0, s), x -> x.hand(0, 100 * s + 2),
                    x -> x.enter(0, true));
            checks.answers("10: up", up, x -> x.arrive(0), s + 1);
            checks.answers("10: stands above", up.after(x -> x.arrive(0)), x -> x.place(0), s + 1);
            Scene down = up.after(x -> x.arrive(0), x -> x.enter(0, false));
            checks.answers("10: down", down, x -> x.arrive(0), s);
            checks.answers("10: stands below", down.after(x -> x.arrive(0)), x -> x.place(0), s);
            checks.due("10: there and back", down.after(x -> x.arrive(0)).tell(),
                    line(6, 4).taken(s, s).after(x -> x.train(0, s), x -> x.hand(0, 100 * s + 2)).tell());
        }
    }

    // "illegal state: it is in no section"
    private static void promise10InNoSection() {
        checks.illegalState("10: stands", inHand().after(x -> x.train(0, 0)), x -> x.arrive(0));
        checks.illegalState("10: stands with a tablet", aboard(), x -> x.arrive(0));
        checks.illegalState("10: arrived", inside().after(x -> x.arrive(0)), x -> x.arrive(0));
        checks.illegalState("10: another one is inside", inside().after(x -> x.train(1, 0)), x -> x.arrive(1));
        checks.illegalState("10: arrived at the first box",
                inside().after(x -> x.arrive(0), x -> x.enter(0, false), x -> x.arrive(0)), x -> x.arrive(0));
    }

    // "1: it may not, or is out"
    private static void promise11MayNotOrIsOut() {
        Scene some = Scene.line(6, 4, 4).allPlungersHeld();
        for (int box : List.of(0, 1, 3, 4, 5)) {
            checks.only("11: may not, box " + box, some, x -> x.switchOut(box), 1);
            checks.only("11: may not, and nothing held", Scene.line(6, 4, 4), x -> x.switchOut(box), 1);
            checks.only("11: may not, a neighbour out", some.boxOut(2), x -> x.switchOut(box), 1);
        }
        Scene out = some.boxOut(2);
        checks.only("11: is out", out, x -> x.switchOut(2), 1);
        checks.only("11: is out, all held", out.allPlungersHeld(), x -> x.switchOut(2), 1);
        checks.only("11: is out, a wire broken", out.after(x -> x.wire(1, false)), x -> x.switchOut(2), 1);
        checks.only("11: is out, long one not in phase", out.taken(1, 12), x -> x.switchOut(2), 1);
    }

    // "or, changing nothing, the first of these: [...] 2 [...] 3 [...] 4 [...] 5"
    private static void promise11FirstRefusal() {
        for (int neighbours = 0; neighbours < 4; neighbours++) {
            for (int phases = 0; phases < 9; phases++) {
                boolean lockedBelow = (neighbours & 1) != 0 && phases % 3 != 0;
                boolean lockedAbove = (neighbours & 2) != 0 && phases / 3 != 0;
                if (!lockedBelow && !lockedAbove) {
                    consentsOfSwitchOut(neighboursAndPhases(neighbours, phases), neighbours, phases);
                }
            }
        }
    }

    /** phases: 0: in phase, 1: taken at the lower end, 2: at the upper one; of section 1, and 3 times that of section 2. */
    private static Scene neighboursAndPhases(int neighbours, int phases) {
        Scene scene = line(5, 4);
        if ((neighbours & 1) != 0) {
            scene = scene.boxOut(1);
        }
        if ((neighbours & 2) != 0) {
            scene = scene.boxOut(3);
        }
        if (phases % 3 != 0) {
            scene = scene.taken(phases % 3, 1);
        }
        if (phases / 3 != 0) {
            scene = scene.taken(phases / 3 + 1, 2);
        }
        return scene;
    }

    private static void consentsOfSwitchOut(Scene scene, int neighbours, int phases) {
        for (int held = 0; held < 4; held++) {
            for (int broken = 0; broken < 8; broken++) {
                Scene last = heldAndBroken(scene, 1, 1, 3, 2, held, broken);
                int due = neighbours != 0 ? 2 : held != 3 ? 3 : broken != 0 ? 4 : phases != 0 ? 5 : 0;
                String what = "11: neighbours " + neighbours + ", held " + held + ", broken " + broken + ", phases "
                        + phases;
                if (due == 0) {
                    checks.answers(what, last, x -> x.switchOut(2), 0);
                    checks.answers(what + ", out", last.after(x -> x.switchOut(2)), x -> x.out(2) ? 1 : 0, 1);
                } else {
                    checks.only(what, last, x -> x.switchOut(2), due);
                }
            }
        }
    }

    /** Bits of held: the one plunger, the other one; bits of broken: the wires of sections 1, 2 and 12. */
    private static Scene heldAndBroken(Scene scene, int box, int section, int otherBox, int otherSection, int held,
            int broken) {
        return scene.after(x -> x.plunge(box, section, (held & 1) != 0),
                x -> x.plunge(otherBox, otherSection, (held & 2) != 0), x -> x.wire(1, (broken & 1) == 0),
                x -> x.wire(2, (broken & 2) == 0), x -> x.wire(12, (broken & 4) == 0));
    }

    private static void promise11OtherThingsDoNotCount() {
        Scene others = line(6, 4).allPlungersHeld().plungers(1, false).plungers(2, false);
        checks.only("11: the other plungers do not count", others, x -> x.switchOut(2), 3);
        Scene own = others.after(x -> x.plunge(2, 1, true), x -> x.plunge(2, 2, true));
        checks.only("11: the box's own do not count", own, x -> x.switchOut(2), 3);
        Scene needed = line(6, 4).after(x -> x.plunge(1, 1, true), x -> x.plunge(3, 2, true));
        checks.answers("11: no others are needed", needed, x -> x.switchOut(2), 0);
        Scene wires = needed.after(x -> x.wire(0, false), x -> x.wire(3, false), x -> x.wire(4, false),
                x -> x.wire(11, false), x -> x.wire(13, false), x -> x.wire(14, false));
        checks.answers("11: other wires do not count", wires, x -> x.switchOut(2), 0);
        checks.answers("11: other phases do not count", needed.taken(0, 0).taken(3, 3), x -> x.switchOut(2), 0);
        Scene farOut = line(6, 4).boxOut(4).after(x -> x.plunge(1, 1, true), x -> x.plunge(3, 2, true));
        checks.answers("11: a box that is no neighbour does not count", farOut, x -> x.switchOut(2), 0);
        Scene inAgain = line(6, 4).boxOut(1).plungers(11, true).after(x -> x.switchIn(1), x -> x.plunge(1, 1, true),
                x -> x.plunge(3, 2, true));
        checks.answers("11: a neighbour that is in again", inAgain, x -> x.switchOut(2), 0);
        Scene bothOne = brought(needed, 0, 1, 1, 102).after(x -> x.plunge(1, 1, true), x -> x.plunge(3, 2, true));
        checks.answers("11: both wheels 1 are in phase", bothOne, x -> x.switchOut(2), 0);
        Scene emptied = needed.after(x -> x.carry(1, 1, 2), x -> x.carry(2, 3, 2), x -> x.carry(12, 1, 2));
        checks.answers("11: empty slides do not count", emptied, x -> x.switchOut(2), 0);
    }

    // "1: it is in"
    private static void promise12IsIn() {
        Scene scene = line(6, 4).allPlungersHeld();
        for (int box = 0; box <= 5; box++) {
            int b = box;
            checks.only("12: at first, box " + b, scene, x -> x.switchIn(b), 1);
            checks.only("12: at first, nothing held", line(6, 4), x -> x.switchIn(b), 1);
            checks.only("12: may not switch out", Scene.line(6, 4, 0), x -> x.switchIn(b), 1);
            if (b != 2) {
                checks.only("12: another one is out", scene.after(x -> x.switchOut(2)), x -> x.switchIn(b), 1);
            }
        }
        Scene inAgain = scene.after(x -> x.switchOut(2), x -> x.switchIn(2));
        checks.only("12: in again", inAgain, x -> x.switchIn(2), 1);
        checks.only("12: in again, wire broken", inAgain.after(x -> x.wire(12, false)), x -> x.switchIn(2), 1);
    }

    // "or, changing nothing, the first of these: [...] 3 [...] 4 [...] 5"
    private static void promise12FirstRefusal() {
        for (int phase = 0; phase < 3; phase++) {
            Scene scene = line(5, 4).boxOut(2);
            if (phase != 0) {
                scene = scene.taken(phase == 1 ? 1 : 3, 12);
            }
            for (int held = 0; held < 4; held++) {
                for (int broken = 0; broken < 8; broken++) {
                    Scene last = heldAndBroken(scene, 1, 12, 3, 12, held, broken);
                    int due = held != 3 ? 3 : broken != 0 ? 4 : phase != 0 ? 5 : 0;
                    String what = "12: held " + held + ", broken " + broken + ", phase " + phase;
                    if (due == 0) {
                        checks.answers(what, last, x -> x.switchIn(2), 0);
                        checks.answers(what + ", in", last.after(x -> x.switchIn(2)), x -> x.out(2) ? 1 : 0, 0);
                    } else {
                        checks.only(what, last, x -> x.switchIn(2), due);
                    }
                }
            }
        }
    }

    private static void promise12OtherThingsDoNotCount() {
        Scene out = line(6, 4).boxOut(2);
        Scene others = out.allPlungersHeld().plungers(12, false);
        checks.only("12: the other plungers do not count", others, x -> x.switchIn(2), 3);
        Scene needed = out.plungers(12, true);
        checks.answers("12: no others are needed", needed, x -> x.switchIn(2), 0);
        Scene wires = needed.after(x -> x.wire(0, false), x -> x.wire(3, false), x -> x.wire(4, false),
                x -> x.wire(11, false), x -> x.wire(13, false), x -> x.wire(14, false));
        checks.answers("12: other wires do not count", wires, x -> x.switchIn(2), 0);
        checks.answers("12: other phases do not count", needed.taken(0, 0).taken(3, 3), x -> x.switchIn(2), 0);
        Scene bothOne = brought(out, 0, 1, 12, 1202).plungers(12, true);
        checks.answers("12: both wheels 1 are in phase", bothOne, x -> x.switchIn(2), 0);
        Scene farOut = line(6, 4).boxOut(4).boxOut(2).plungers(12, true);
        checks.answers("12: another box is out", farOut, x -> x.switchIn(2), 0);
        checks.answers("12: and stays out", farOut.after(x -> x.switchIn(2)), x -> x.out(4) ? 1 : 0, 1);
    }

    // "Carries n tablets, one by one from the top [...] without turning wheels."
    private static void promise13OneByOneFromTheTop() {
        Scene up = line(3, 8).after(x -> x.carry(0, 0, 2));
        checks.due("13: two up, upper pile", up.pile(1, 0), "4 6 7 5 3 1");
        checks.due("13: two up, lower pile", up.pile(0, 0), "2 0");
        checks.answers("13: where", up, x -> 10 * x.where(6) + x.where(2), 10);
        Scene down = line(3, 8).after(x -> x.carry(0, 1, 2));
        checks.due("13: two down, lower pile", down.pile(0, 0), "5 7 6 4 2 0");
        checks.due("13: two down, upper pile", down.pile(1, 0), "3 1");
        Scene ones = brought(line(3, 8), 0, 0, 0, 6).after(x -> x.carry(0, 1, 2));
        for (int box = 0; box <= 1; box++) {
            int at = box;
            checks.answers("13: wheel 0 stays", up, x -> x.phase(at, 0), 0);
            checks.answers("13: wheel 1 stays", ones, x -> x.phase(at, 0), 1);
        }
        checks.due("13: with both wheels 1", ones.pile(0, 0), "7 6 4 2 0");
        checks.due("13: there and back", up.after(x -> x.carry(0, 1, 2)).tell(), line(3, 8).tell());
        checks.due("13: two by two is four", up.after(x -> x.carry(0, 0, 2)).tell(),
                line(3, 8).after(x -> x.carry(0, 0, 4)).tell());
    }

    private static void promise13AllOfThem() {
        for (int t = 4; t <= 8; t += 4) {
            int half = t / 2;
            int all = t;
            Scene scene = line(3, t).after(x -> x.carry(0, 0, half));
            checks.answers("13: none left", scene, x -> x.slide(0, 0), 0);
            checks.answers("13: all there", scene, x -> x.slide(1, 0), all);
            Scene back = scene.after(x -> x.carry(0, 1, all));
            checks.answers("13: all of a full slide", back, x -> x.slide(0, 0), all);
            checks.answers("13: none left above", back, x -> x.slide(1, 0), 0);
            checks.noSuchElement("13: out of the empty one", back, x -> x.carry(0, 1, 2));
        }
        Scene odd = line(3, 7).after(x -> x.carry(1, 2, 2));
        checks.answers("13: one of three is left", odd, x -> x.slide(2, 1), 1);
        checks.noSuchElement("13: and is not enough", odd, x -> x.carry(1, 2, 2));
    }

    // "Illegal argument: also if n is odd, or below 2"
    private static void promise13OddOrBelow2() {
        for (int n : List.of(1, 3, 5, 7, 9, HIGH)) {
            checks.illegalArgument("13: odd, " + n, line(3, 8), x -> x.carry(0, 0, n));
            checks.illegalArgument("13: odd, " + n + " upper", line(3, 8), x -> x.carry(11, 2, n));
        }
        for (int n : List.of(0, -1, -2, -3, -4, -8, LOW, LOW + 1)) {
            checks.illegalArgument("13: below 2, " + n, line(3, 8), x -> x.carry(0, 0, n));
            checks.illegalArgument("13: below 2, " + n + " upper", line(3, 8), x -> x.carry(11, 2, n));
        }
        Scene empty = line(3, 4).after(x -> x.carry(0, 0, 2));
        checks.illegalArgument("13: none of an empty slide", empty, x -> x.carry(0, 0, 0));
        checks.illegalArgument("13: one of an empty slide", empty, x -> x.carry(0, 0, 1));
    }

    // "illegal state: the section is not in phase"
    private static void promise13NotInPhase() {
        for (int section : List.of(0, 1)) {
            for (int end = 0; end <= 1; end++) {
                Scene scene = line(3, 8).taken(section + end, section);
                checks.illegalState("13: lower", scene, x -> x.carry(section, section, 2));
                checks.illegalState("13: upper", scene, x -> x.carry(section, section + 1, 2));
                int other = 1 - section;
                checks.answers("13: another section is in phase", scene.after(x -> x.carry(other, 1, 2)),
                        x -> x.slide(1, other), 2);
            }
        }
        Scene longOne = line(3, 8).boxOut(1).taken(0, 11);
        checks.illegalState("13: long, lower", longOne, x -> x.carry(11, 0, 2));
        checks.illegalState("13: long, upper", longOne, x -> x.carry(11, 2, 2));
        checks.illegalState("13: aboard", inside(), x -> x.carry(0, 1, 2));
    }

    // "no such element: the slide has fewer"
    private static void promise13Fewer() {
        int[][] slides = {{4, 2, 2}, {5, 3, 2}, {6, 3, 3}, {7, 4, 3}, {8, 4, 4}};
        for (int[] row : slides) {
            Scene scene = line(3, row[0]);
            for (int section : scene.sections()) {
                fewer(scene, Scene.lowerEnd(section), section, row[1]);
                fewer(scene, Scene.upperEnd(section), section, row[2]);
            }
        }
    }

    private static void fewer(Scene scene, int box, int section, int has) {
        int most = has / 2 * 2;
        checks.answers("13: as many as it has", scene.after(x -> x.carry(section, box, most)),
                x -> x.slide(box, section), has - most);
        for (int n : List.of(most + 2, most + 4, 100, HIGH - 1)) {
            checks.noSuchElement("13: " + n + " of " + has, scene, x -> x.carry(section, box, n));
        }
    }

    private static void promise13NeedsNoConsent() {
        Scene broken = line(3, 4).after(x -> x.wire(0, false), x -> x.carry(0, 0, 2));
        checks.answers("13: with a broken wire", broken, x -> x.slide(1, 0), 4);
        Scene locked = line(3, 4).boxOut(1).after(x -> x.carry(0, 0, 2));
        checks.answers("13: in a locked section", locked, x -> x.slide(1, 0), 4);
        checks.answers("13: in a locked long one", line(3, 4).after(x -> x.carry(11, 2, 2)), x -> x.slide(0, 11), 4);
    }

    private static void promise14Wheel() {
        for (int section : line(6, 4).sections()) {
            int lower = Scene.lowerEnd(section);
            int upper = Scene.upperEnd(section);
            Scene scene = section > 10 ? line(6, 4).boxOut(section - 10) : line(6, 4);
            checks.only("14: lower taken, lower", scene.taken(lower, section), x -> x.phase(lower, section), 1);
            checks.only("14: lower taken, upper", scene.taken(lower, section), x -> x.phase(upper, section), 0);
            checks.only("14: upper taken, lower", scene.taken(upper, section), x -> x.phase(lower, section), 0);
            checks.only("14: upper taken, upper", scene.taken(upper, section), x -> x.phase(upper, section), 1);
        }
    }

    private static void promise15EmptyAndFull() {
        for (int section : line(6, 8).sections()) {
            int lower = Scene.lowerEnd(section);
            int upper = Scene.upperEnd(section);
            Scene up = line(6, 8).after(x -> x.carry(section, lower, 4));
            Scene down = line(6, 8).after(x -> x.carry(section, upper, 4));
            checks.only("15: empty, lower", up, x -> x.slide(lower, section), 0);
            checks.only("15: full, upper", up, x -> x.slide(upper, section), 8);
            checks.only("15: full, lower", down, x -> x.slide(lower, section), 8);
            checks.only("15: empty, upper", down, x -> x.slide(upper, section), 0);
        }
    }

    // "0: in the slide at the lower end, 1: at the upper end, 10 and the box [...], 20 and the train"
    private static void promise16Where() {
        checks.only("16: lower", line(3, 4), x -> x.where(2), 0);
        checks.only("16: upper", line(3, 4), x -> x.where(3), 1);
        for (int section = 0; section <= 4; section++) {
            int s = section;
            checks.only("16: hand of " + s, line(6, 4).taken(s, s), x -> x.where(100 * s + 2), 10 + s);
            checks.only("16: hand of " + (s + 1), line(6, 4).taken(s + 1, s), x -> x.where(100 * s + 3), 11 + s);
        }
        for (int train = 0; train <= 7; train++) {
            int it = train;
            Scene scene = inHand().after(x -> x.train(it, 0), x -> x.hand(it, 2));
            checks.only("16: aboard " + it, scene, x -> x.where(2), 20 + it);
            checks.only("16: aboard, inside", scene.after(x -> x.enter(it, true)), x -> x.where(2), 20 + it);
        }
    }

    // "the box where it stands; 10 and the section inside which it is; -1 if it is not known"
    private static void promise17Place() {
        checks.only("17: stands", aboard(), x -> x.place(0), 0);
        checks.only("17: inside", inside(), x -> x.place(0), 10);
        checks.only("17: not known", inside(), x -> x.place(1), -1);
        Scene last = line(6, 4).boxOut(4).taken(5, 14).after(x -> x.train(7, 5), x -> x.hand(7, 1403),
                x -> x.enter(7, false));
        checks.only("17: inside the last long section", last, x -> x.place(7), 24);
        checks.only("17: arrived", last.after(x -> x.arrive(7)), x -> x.place(7), 3);
        // "Illegal argument: train is not 0 .. 7."
        for (int train : List.of(LOW, -1, 8, HIGH)) {
            checks.illegalArgument("17: train " + train, inside(), x -> x.place(train));
        }
    }

    // "until a take would be refused"
    private static void promise18EmptyAndFull() {
        for (int section : line(6, 8).sections()) {
            int lower = Scene.lowerEnd(section);
            int upper = Scene.upperEnd(section);
            for (int n : List.of(2, 4)) {
                Scene up = line(6, 8).after(x -> x.carry(section, lower, n));
                checks.only("18: lower, " + n + " less", up, x -> x.spend(section, lower), 4 - n);
                checks.only("18: upper, " + n + " more", up, x -> x.spend(section, upper), 4 + n);
                Scene down = line(6, 8).after(x -> x.carry(section, upper, n));
                checks.only("18: lower, " + n + " more", down, x -> x.spend(section, lower), 4 + n);
                checks.only("18: upper, " + n + " less", down, x -> x.spend(section, upper), 4 - n);
            }
        }
    }

    private static void promise18NotInPhase() {
        for (int end = 0; end <= 1; end++) {
            Scene scene = line(3, 8).taken(end, 0);
            checks.only("18: not in phase, lower", scene, x -> x.spend(0, 0), 0);
            checks.only("18: not in phase, upper", scene, x -> x.spend(0, 1), 0);
        }
        Scene bothOne = brought(line(3, 8), 0, 0, 0, 6);
        checks.only("18: both wheels 1, lower", bothOne, x -> x.spend(0, 0), 3);
        checks.only("18: both wheels 1, upper", bothOne, x -> x.spend(0, 1), 5);
    }

    // "if plungers were held, the wire whole and the section not locked"
    private static void promise18ConsentsAndLocksDoNotCount() {
        Scene broken = line(3, 8).after(x -> x.wire(0, false), x -> x.wire(11, false));
        checks.only("18: plunger free, wire broken", broken, x -> x.spend(0, 0), 4);
        checks.only("18: plunger held, wire broken", broken.plungers(0, true), x -> x.spend(0, 1), 4);
        checks.only("18: long, locked, broken", broken, x -> x.spend(11, 2), 4);
        Scene out = line(3, 8).boxOut(1);
        checks.only("18: upper end out", out, x -> x.spend(0, 0), 4);
        checks.only("18: lower end out", out, x -> x.spend(1, 2), 4);
        checks.only("18: long, not locked", out, x -> x.spend(11, 0), 4);
    }

    // "How many times, one after the other, a tablet could be taken out at an end and given back at the other one"
    private static void promise18AsPlayed() {
        for (int t = 4; t <= 8; t++) {
            for (int from = 0; from <= 1; from++) {
                int box = from;
                Scene scene = Scene.line(2, t, 0).plungers(0, true);
                Scene more = scene.after(x -> x.carry(0, 1 - box, 2));
                String what = "18: as played, t " + t + ", from " + from;
                checks.only(what, scene, x -> x.spend(0, box), played(scene.make(), from));
                checks.only(what + ", two more", more, x -> x.spend(0, box), played(more.make(), from));
            }
        }
    }

    /** A new train brings each tablet over; the slides have no more than there are trains. */
    private static int played(TabletLine x, int from) {
        int times = 0;
        for (int tablet = x.take(from, 0); tablet >= 0 && times < Scene.TRAINS; tablet = x.take(from, 0)) {
            x.train(times, from);
            x.hand(times, tablet);
            x.enter(times, from == 0);
            x.arrive(times);
            x.give(1 - from, 0, tablet);
            times++;
        }
        return times;
    }

    private static void promise19Out() {
        for (int box = 1; box <= 4; box++) {
            Scene scene = line(6, 4).boxOut(box);
            for (int b = 0; b <= 5; b++) {
                int at = b;
                checks.only("19: box " + b + ", " + box + " out", scene, x -> x.out(at) ? 1 : 0, b == box ? 1 : 0);
            }
            int it = box;
            Scene in = scene.plungers(10 + box, true).after(x -> x.switchIn(it));
            checks.only("19: in again", in, x -> x.out(it) ? 1 : 0, 0);
        }
    }
}
