import java.util.List;

/**
 * The sentences of the document's "Terms", and of "What it is", that name a bound or a refusal: a method for each.
 * Where a call is refused, all that the line holds is compared with what it held before.
 */
public final class TermsTest {
    private static final int LOW = Integer.MIN_VALUE;
    private static final int HIGH = Integer.MAX_VALUE;
    private static final int ALL = -1;

    private static final Checks checks = new Checks();

    private interface AtEnd {
        void on(TabletLine x, int box, int section);
    }

    private record Named(String name, AtEnd call) {
    }

    /** The calls that name an end of a section; tablet 0 of the section stands for any of its tablets. */
    private static final List<Named> AT_ENDS = List.of(
            new Named("plunge true", (x, box, section) -> x.plunge(box, section, true)),
            new Named("plunge false", (x, box, section) -> x.plunge(box, section, false)),
            new Named("take", (x, box, section) -> x.take(box, section)),
            new Named("give", (x, box, section) -> x.give(box, section, 100 * section)),
            new Named("carry", (x, box, section) -> x.carry(section, box, 2)),
            new Named("phase", (x, box, section) -> x.phase(box, section)),
            new Named("slide", (x, box, section) -> x.slide(box, section)),
            new Named("spend", (x, box, section) -> x.spend(section, box)));

    public static void main(String[] args) {
        used512Times();
        boxesAre0ToNMinus1();
        boxesOfTheOtherCalls();
        sectionsAre0ToNMinus2();
        sectionLiesBetweenItsEnds();
        longSectionsOfInnerBoxesThatMay();
        longSectionHasTheEndsBesideItsBox();
        allBoxesAreInAtFirst();
        longSectionIsLockedWhileItsBoxIsIn();
        sectionIsLockedWhileAnEndIsOut();
        tabletNumbersAre0ToTMinus1();
        wheelsAre0AtFirst();
        evenTabletsLieBelowOthersAbove();
        lesserTabletsLieDeeper();
        trainHasOneTabletAtMost();
        wiresAreWholeAtFirst();
        plungersAreFreeAtFirst();
        inPhaseIfBothWheelsAreTheSame();
        trainsAre0To7();
        trainsAreUnknownAtFirst();
        unknownTrainsAreRefused();
        insideGoingToOneOfTheEnds();
        wheelTurnsRoundAtTheEndOfTheTake();
        wheelTurnsRoundAtTheEndOfTheGive();
        firstNamedOfGive();
        firstNamedOfTrain();
        firstNamedOfHand();
        firstNamedOfBack();
        firstNamedOfEnter();
        firstNamedOfArrive();
        firstNamedOfCarry();
        checks.end();
    }

    private static Scene full(int t) {
        return Scene.line(6, t, ALL);
    }

    /** Box 0 has tablet 2 of section 0 in its hand. */
    private static Scene inHand() {
        return Scene.line(3, 4, ALL).taken(0, 0);
    }

    /** Train 0 stands at box 0, with tablet 2 of section 0 aboard. */
    private static Scene aboard() {
        return inHand().after(x -> x.train(0, 0), x -> x.hand(0, 2));
    }

    /** Train 0 is inside section 0, going up. */
    private static Scene inside() {
        return aboard().after(x -> x.enter(0, true));
    }

    // "An object is used for at most 512 calls after it has been made"
    private static void used512Times() {
        Scene scene = Scene.line(2, 4, 0).after(x -> x.plunge(1, 0, true));
        for (int i = 0; i < 255; i++) {
            scene = scene.after(x -> x.take(0, 0), x -> x.give(0, 0, 2));
        }
        checks.answers("the 512th call, a take", scene, x -> x.take(0, 0), 2);
        checks.answers("the 512th call, a wheel", scene, x -> x.phase(0, 0), 0);
        checks.answers("the 512th call, a slide", scene, x -> x.slide(0, 0), 2);
        Scene refused = Scene.line(2, 4, 0);
        for (int i = 0; i < 511; i++) {
            refused = refused.afterTrying(x -> x.give(0, 0, 4));
        }
        checks.answers("511 refused calls and a take", refused, x -> x.take(0, 0), -1);
    }

    // "BOXES are 0 .. n - 1 along the line."
    private static void boxesAre0ToNMinus1() {
        for (int n = 2; n <= 6; n++) {
            Scene scene = Scene.line(n, 4, ALL).allPlungersHeld();
            for (int section : List.of(0, n - 2)) {
                for (int box : List.of(LOW, -2, -1, n, n + 1, HIGH)) {
                    refusesEnd(scene, box, section);
                }
            }
        }
    }

    private static void refusesEnd(Scene scene, int box, int section) {
        for (Named named : AT_ENDS) {
            String what = named.name + " at box " + box + " of section " + section + ", n " + scene.boxes;
            checks.illegalArgument(what, scene, x -> named.call.on(x, box, section));
        }
    }

    private static void boxesOfTheOtherCalls() {
        for (int n = 2; n <= 6; n++) {
            Scene scene = Scene.line(n, 4, ALL).allPlungersHeld();
            for (int box : List.of(LOW, -11, -10, -2, -1, n, n + 1, 10, HIGH)) {
                String where = "(" + box + "), n " + n;
                checks.illegalArgument("train" + where, scene, x -> x.train(0, box));
                checks.illegalArgument("switchOut" + where, scene, x -> x.switchOut(box));
                checks.illegalArgument("switchIn" + where, scene, x -> x.switchIn(box));
                checks.illegalArgument("out" + where, scene, x -> x.out(box));
            }
            for (int box : List.of(0, n - 1)) {
                String where = "(" + box + "), n " + n;
                checks.answers("train" + where, scene.after(x -> x.train(0, box)), x -> x.place(0), box);
                checks.only("switchOut" + where, scene, x -> x.switchOut(box), 1);
                checks.only("switchIn" + where, scene, x -> x.switchIn(box), 1);
                checks.only("out" + where, scene, x -> x.out(box) ? 1 : 0, 0);
            }
        }
    }

    // "SECTION s, 0 .. n - 2"
    private static void sectionsAre0ToNMinus2() {
        for (int n = 2; n <= 6; n++) {
            Scene scene = Scene.line(n, 4, ALL).allPlungersHeld();
            for (int section : List.of(LOW, -11, -2, -1, n - 1, n, 9, 10, 10 + n - 1, 10 + n, HIGH)) {
                for (int box : List.of(0, n - 2, n - 1)) {
                    refusesEnd(scene, box, section);
                }
                for (boolean whole : new boolean[] {false, true}) {
                    String what = "wire(" + section + ", " + whole + "), n " + n;
                    checks.illegalArgument(what, scene, x -> x.wire(section, whole));
                    checks.illegalArgument(what + ", broken", scene.after(x -> x.wire(0, false)),
                            x -> x.wire(section, whole));
                }
            }
            for (int section : List.of(0, n - 2)) {
                checks.answers("section " + section, scene, x -> x.slide(section, section), 2);
                checks.answers("wire " + section, scene.after(x -> x.wire(section, false)),
                        x -> x.take(section, section), -2);
            }
        }
    }

    // "lies between its ends, boxes s and s + 1"; "or the box is no end of the section"
    private static void sectionLiesBetweenItsEnds() {
        Scene scene = full(4).allPlungersHeld();
        for (int section = 0; section <= 4; section++) {
            int s = section;
            checks.answers("lower end of " + s, scene, x -> x.take(s, s), 100 * s + 2);
            checks.answers("upper end of " + s, scene, x -> x.take(s + 1, s), 100 * s + 3);
            for (int box = 0; box <= 5; box++) {
                if (box != s && box != s + 1) {
                    refusesEnd(scene, box, s);
                }
            }
        }
    }

    // "Some INNER boxes b, 1 .. n - 2, may SWITCH OUT; of each of these there is a LONG section, 10 + b"
    private static void longSectionsOfInnerBoxesThatMay() {
        for (int n = 2; n <= 6; n++) {
            for (int bit = 0; bit <= 6; bit++) {
                Scene scene = Scene.line(n, 4, 1 << bit).allPlungersHeld();
                for (int box = 0; box < n; box++) {
                    longSectionThere(scene, box, box == bit && box >= 1 && box <= n - 2);
                }
            }
        }
    }

    private static void longSectionThere(Scene scene, int box, boolean there) {
        int section = 10 + box;
        String what = "section " + section + ", n " + scene.boxes;
        if (there) {
            checks.answers(what, scene, x -> x.slide(box - 1, section), 2);
            checks.answers(what + ", tablet", scene, x -> x.where(100 * section), 0);
            checks.answers("switchOut(" + box + ")", scene, x -> x.switchOut(box), 0);
        } else {
            checks.illegalArgument(what, scene, x -> x.wire(section, false));
            checks.illegalArgument(what + ", lower end", scene, x -> x.plunge(box - 1, section, true));
            checks.illegalArgument(what + ", upper end", scene, x -> x.take(box + 1, section));
            checks.illegalArgument(what + ", tablet", scene, x -> x.where(100 * section));
            checks.only("switchOut(" + box + ")", scene, x -> x.switchOut(box), 1);
        }
    }

    // "with the ends b - 1 and b + 1"
    private static void longSectionHasTheEndsBesideItsBox() {
        Scene scene = full(4).allPlungersHeld();
        for (int b = 1; b <= 4; b++) {
            int section = 10 + b;
            int lower = b - 1;
            int upper = b + 1;
            Scene itsBoxOut = scene.after(x -> x.switchOut(section - 10));
            checks.answers("lower end of " + section, itsBoxOut, x -> x.take(lower, section), 100 * section + 2);
            checks.answers("upper end of " + section, itsBoxOut, x -> x.take(upper, section), 100 * section + 3);
            for (int box = 0; box <= 5; box++) {
                if (box != lower && box != upper) {
                    refusesEnd(scene, box, section);
                    refusesEnd(itsBoxOut, box, section);
                }
            }
        }
    }

    // "At first all boxes are switched IN."
    private static void allBoxesAreInAtFirst() {
        for (int n = 2; n <= 6; n++) {
            for (int box = 0; box < n; box++) {
                int b = box;
                checks.only("out(" + b + ") at first", Scene.line(n, 4, ALL), x -> x.out(b) ? 1 : 0, 0);
                checks.only("switchIn(" + b + ") at first", Scene.line(n, 4, ALL).allPlungersHeld(),
                        x -> x.switchIn(b), 1);
            }
        }
    }

    // "A section is LOCKED: a long one while its box is in"
    private static void longSectionIsLockedWhileItsBoxIsIn() {
        Scene scene = full(4).allPlungersHeld();
        for (int box = 1; box <= 4; box++) {
            int b = box;
            Scene out = scene.after(x -> x.switchOut(b));
            Scene inAgain = out.after(x -> x.switchIn(b));
            for (int end : List.of(b - 1, b + 1)) {
                int top = 1000 + 100 * b + (end < b ? 2 : 3);
                checks.only("long, box in, end " + end, scene, x -> x.take(end, 10 + b), -5);
                checks.answers("long, box out, end " + end, out, x -> x.take(end, 10 + b), top);
                checks.only("long, box in again, end " + end, inAgain, x -> x.take(end, 10 + b), -5);
            }
        }
        Scene another = scene.after(x -> x.switchOut(2));
        checks.only("another box is out", another, x -> x.take(3, 14), -5);
        checks.only("a neighbour is out", another, x -> x.take(0, 11), -5);
    }

    // "another one while one of its ends is switched out"
    private static void sectionIsLockedWhileAnEndIsOut() {
        Scene scene = full(4).allPlungersHeld();
        for (int box = 1; box <= 4; box++) {
            int b = box;
            Scene out = scene.after(x -> x.switchOut(b));
            Scene inAgain = out.after(x -> x.switchIn(b));
            for (int section = 0; section <= 4; section++) {
                int s = section;
                boolean locked = s == b - 1 || s == b;
                for (int end : List.of(s, s + 1)) {
                    int top = 100 * s + (end == s ? 2 : 3);
                    String what = "section " + s + ", end " + end + ", box " + b;
                    checks.answers(what + " in", scene, x -> x.take(end, s), top);
                    checks.answers(what + " out", out, x -> x.take(end, s), locked ? -5 : top);
                    checks.answers(what + " in again", inAgain, x -> x.take(end, s), top);
                }
            }
        }
        Scene both = scene.after(x -> x.switchOut(1), x -> x.switchOut(3));
        checks.only("the upper end still out", both.after(x -> x.switchIn(1)), x -> x.take(2, 2), -5);
        checks.only("lower end in, upper end out", both, x -> x.take(2, 2), -5);
        checks.only("lower end out, upper end in", both, x -> x.take(2, 1), -5);
    }

    // "Each section has t TABLETS, with the numbers 100 times the section and 0 .. t - 1."
    private static void tabletNumbersAre0ToTMinus1() {
        for (int t = 4; t <= 8; t++) {
            Scene scene = Scene.line(3, t, ALL).after(x -> x.train(0, 0));
            for (int section : scene.sections()) {
                int first = 100 * section;
                int last = first + t - 1;
                int lower = Scene.lowerEnd(section);
                checks.only("first tablet", scene, x -> x.where(first), 0);
                checks.only("last tablet", scene, x -> x.where(last), (t - 1) % 2);
                checks.illegalState("hand, first tablet", scene, x -> x.hand(0, first));
                checks.illegalState("hand, last tablet", scene, x -> x.hand(0, last));
                checks.illegalState("give, first tablet", scene, x -> x.give(lower, section, first));
                checks.illegalState("give, last tablet", scene, x -> x.give(lower, section, last));
                for (int tablet : List.of(first - 1, last + 1, first + 99, first + 50)) {
                    noSuchTablet(scene, tablet, lower, section);
                }
            }
            for (int tablet : List.of(LOW, -100, -1, 200, 900, 1000, 1200, 1500, HIGH)) {
                noSuchTablet(scene, tablet, 0, 0);
            }
        }
    }

    private static void noSuchTablet(Scene scene, int tablet, int box, int section) {
        String what = "tablet " + tablet + ", t " + scene.tablets;
        checks.illegalArgument("where: " + what, scene, x -> x.where(tablet));
        checks.illegalArgument("hand: " + what, scene, x -> x.hand(0, tablet));
        checks.illegalArgument("give: " + what, scene, x -> x.give(box, section, tablet));
    }

    // "At first all wheels are 0"
    private static void wheelsAre0AtFirst() {
        for (int section : full(4).sections()) {
            for (int box : List.of(Scene.lowerEnd(section), Scene.upperEnd(section))) {
                checks.only("wheel of " + section + " at " + box, full(4), x -> x.phase(box, section), 0);
            }
        }
    }

    // "all tablets with even numbers lie in the slide at the lower end, the others at the upper one"
    private static void evenTabletsLieBelowOthersAbove() {
        for (int t = 4; t <= 8; t++) {
            Scene scene = full(t);
            for (int section : scene.sections()) {
                checks.answers("lower slide", scene, x -> x.slide(Scene.lowerEnd(section), section), (t + 1) / 2);
                checks.answers("upper slide", scene, x -> x.slide(Scene.upperEnd(section), section), t / 2);
                for (int i = 0; i < t; i++) {
                    int tablet = 100 * section + i;
                    checks.answers("where " + tablet, scene, x -> x.where(tablet), i % 2);
                }
            }
        }
    }

    // "lesser ones deeper"
    private static void lesserTabletsLieDeeper() {
        String[] below = {"2 0", "4 2 0", "4 2 0", "6 4 2 0", "6 4 2 0"};
        String[] above = {"3 1", "3 1", "5 3 1", "5 3 1", "7 5 3 1"};
        for (int t = 4; t <= 8; t++) {
            for (int section : full(t).sections()) {
                checks.due("lower pile of " + section, full(t).pile(Scene.lowerEnd(section), section),
                        inSection(below[t - 4], section));
                checks.due("upper pile of " + section, full(t).pile(Scene.upperEnd(section), section),
                        inSection(above[t - 4], section));
            }
        }
    }

    private static String inSection(String pile, int section) {
        StringBuilder all = new StringBuilder();
        for (String one : pile.split(" ")) {
            all.append(' ').append(100 * section + Integer.parseInt(one));
        }
        return all.toString().trim();
    }

    // "ABOARD a train, which has one at most"
    private static void trainHasOneTabletAtMost() {
        Scene scene = Scene.line(3, 4, ALL).taken(1, 0).taken(1, 1).after(x -> x.train(0, 1), x -> x.hand(0, 3));
        checks.illegalState("a second tablet", scene, x -> x.hand(0, 102));
        checks.answers("the first is aboard", scene, x -> x.where(3), 20);
        checks.answers("the second after the first went back", scene.after(x -> x.back(0), x -> x.hand(0, 102)),
                x -> x.where(102), 20);
        checks.answers("the second after the first was given", scene.after(x -> x.give(1, 0, 3), x -> x.hand(0, 102)),
                x -> x.where(102), 20);
    }

    // "Each section has a WIRE, at first whole"
    private static void wiresAreWholeAtFirst() {
        for (int section : full(4).sections()) {
            int due = section > 10 ? -5 : 100 * section + 2;
            checks.answers("wire of " + section, full(4).plungers(section, true),
                    x -> x.take(Scene.lowerEnd(section), section), due);
        }
    }

    // "at each end a PLUNGER, at first not held"
    private static void plungersAreFreeAtFirst() {
        for (int section : full(4).sections()) {
            for (int box : List.of(Scene.lowerEnd(section), Scene.upperEnd(section))) {
                checks.only("plunger of " + section + " opposite " + box, full(4), x -> x.take(box, section), -1);
            }
        }
    }

    // "The section is IN PHASE if both wheels are the same."
    private static void inPhaseIfBothWheelsAreTheSame() {
        Scene bothZero = Scene.line(2, 6, 0).plungers(0, true).after(x -> x.train(0, 0));
        Scene lowerTurned = bothZero.after(x -> x.take(0, 0));
        Scene bothOne = lowerTurned.after(x -> x.hand(0, 4), x -> x.enter(0, true), x -> x.arrive(0),
                x -> x.give(1, 0, 4));
        Scene upperTurned = bothZero.after(x -> x.take(1, 0));
        Scene onlyLowerOne = bothOne.after(x -> x.take(1, 0));
        Scene onlyUpperOne = bothOne.after(x -> x.take(0, 0));
        phaseIs(bothZero, 0, 0);
        phaseIs(lowerTurned, 1, 0);
        phaseIs(upperTurned, 0, 1);
        phaseIs(bothOne, 1, 1);
        phaseIs(onlyLowerOne, 1, 0);
        phaseIs(onlyUpperOne, 0, 1);
    }

    private static void phaseIs(Scene scene, int lower, int upper) {
        String what = "wheels " + lower + " and " + upper;
        checks.only(what + ", lower", scene, x -> x.phase(0, 0), lower);
        checks.only(what + ", upper", scene, x -> x.phase(1, 0), upper);
        boolean inPhase = lower == upper;
        checks.answers(what + ", take below", scene, x -> x.take(0, 0) == -3 ? 1 : 0, inPhase ? 0 : 1);
        checks.answers(what + ", take above", scene, x -> x.take(1, 0) == -3 ? 1 : 0, inPhase ? 0 : 1);
        checks.answers(what + ", spend", scene, x -> x.spend(0, 1) > 0 ? 1 : 0, inPhase ? 1 : 0);
        checks.due(what + ", carry", Checks.thrownBy(() -> scene.make().carry(0, 0, 2)),
                inPhase ? "nothing" : "IllegalStateException");
    }

    // "TRAINS are 0 .. 7"
    private static void trainsAre0To7() {
        for (int train : List.of(LOW, -2, -1, 8, 9, HIGH)) {
            for (Scene scene : List.of(inHand(), aboard(), inside())) {
                refusesTrain("train " + train, scene, train);
                checks.illegalArgument("train(" + train + ")", scene, x -> x.train(train, 0));
                checks.illegalArgument("place(" + train + ")", scene, x -> x.place(train));
            }
        }
        for (int train : List.of(0, 7)) {
            Scene scene = inHand().after(x -> x.train(train, 0), x -> x.hand(train, 2));
            checks.answers("place(" + train + ")", scene, x -> x.place(train), 0);
            checks.answers("where, train " + train, scene, x -> x.where(2), 20 + train);
            checks.answers("back(" + train + ")", scene, x -> x.back(train), 2);
            checks.answers("enter(" + train + ")", scene, x -> x.enter(train, true), 0);
            checks.answers("arrive(" + train + ")", scene.after(x -> x.enter(train, true)), x -> x.arrive(train), 1);
        }
    }

    private static void refusesTrain(String what, Scene scene, int train) {
        checks.illegalArgument("hand: " + what, scene, x -> x.hand(train, 2));
        checks.illegalArgument("back: " + what, scene, x -> x.back(train));
        checks.illegalArgument("enter up: " + what, scene, x -> x.enter(train, true));
        checks.illegalArgument("enter down: " + what, scene, x -> x.enter(train, false));
        checks.illegalArgument("arrive: " + what, scene, x -> x.arrive(train));
    }

    // "each is known or not (at first)"
    private static void trainsAreUnknownAtFirst() {
        for (int train = 0; train <= 7; train++) {
            int it = train;
            checks.only("place(" + it + ") at first", full(4), x -> x.place(it), -1);
        }
    }

    // "(unknown ones too, but for train())"
    private static void unknownTrainsAreRefused() {
        for (int train = 1; train <= 7; train++) {
            int it = train;
            for (Scene scene : List.of(inHand(), aboard(), inside())) {
                refusesTrain("unknown train " + it, scene, it);
                checks.only("place of unknown train " + it, scene, x -> x.place(it), -1);
                checks.answers("train makes it known", scene.after(x -> x.train(it, 2)), x -> x.place(it), 2);
            }
        }
        refusesTrain("unknown train 0", inHand(), 0);
    }

    // "stands at a box, or is INSIDE a section, going to one of its ends"
    private static void insideGoingToOneOfTheEnds() {
        Scene up = inside();
        checks.answers("inside, up", up, x -> x.place(0), 10);
        checks.answers("comes up", up, x -> x.arrive(0), 1);
        Scene down = up.after(x -> x.arrive(0), x -> x.enter(0, false));
        checks.answers("inside, down", down, x -> x.place(0), 10);
        checks.answers("comes down", down, x -> x.arrive(0), 0);
    }

    // "When a tablet is taken out at an end [...] that end's wheel turns (0 to 1, 1 to 0)."
    private static void wheelTurnsRoundAtTheEndOfTheTake() {
        for (int end = 0; end <= 1; end++) {
            int box = end;
            Scene zero = Scene.line(2, 6, 0).taken(box, 0);
            checks.answers("a take turns 0 to 1", zero, x -> x.phase(box, 0), 1);
            checks.answers("the other end's stays 0", zero, x -> x.phase(1 - box, 0), 0);
            Scene one = bothWheelsOne().taken(box, 0);
            checks.answers("a take turns 1 to 0", one, x -> x.phase(box, 0), 0);
            checks.answers("the other end's stays 1", one, x -> x.phase(1 - box, 0), 1);
        }
    }

    private static Scene bothWheelsOne() {
        return Scene.line(2, 6, 0).taken(0, 0).after(x -> x.train(0, 0), x -> x.hand(0, 4), x -> x.enter(0, true),
                x -> x.arrive(0), x -> x.give(1, 0, 4));
    }

    // "or given back there, that end's wheel turns (0 to 1, 1 to 0)"
    private static void wheelTurnsRoundAtTheEndOfTheGive() {
        Scene lowerOne = Scene.line(2, 6, 0).taken(0, 0).after(x -> x.give(0, 0, 4));
        checks.answers("a give turns 1 to 0, lower", lowerOne, x -> x.phase(0, 0), 0);
        checks.answers("the upper one stays 0", lowerOne, x -> x.phase(1, 0), 0);
        checks.answers("a give turns 0 to 1, upper", bothWheelsOne(), x -> x.phase(1, 0), 1);
        checks.answers("the lower one stays 1", bothWheelsOne(), x -> x.phase(0, 0), 1);
        Scene lowerZero = bothWheelsOne().taken(0, 0).after(x -> x.give(0, 0, 2));
        checks.answers("a give turns 0 to 1, lower", lowerZero, x -> x.phase(0, 0), 1);
        checks.answers("the upper one stays 1", lowerZero, x -> x.phase(1, 0), 1);
        Scene brought = bothWheelsOne().taken(0, 0).after(x -> x.train(1, 0), x -> x.hand(1, 2), x -> x.enter(1, true),
                x -> x.arrive(1));
        checks.answers("neither hand, enter nor arrive turns one, lower", brought, x -> x.phase(0, 0), 0);
        checks.answers("neither hand, enter nor arrive turns one, upper", brought, x -> x.phase(1, 0), 1);
        checks.answers("back turns none", brought.after(x -> x.back(1)), x -> x.phase(1, 0), 1);
        Scene upperOne = brought.after(x -> x.give(1, 0, 2));
        checks.answers("a give turns 1 to 0, upper", upperOne, x -> x.phase(1, 0), 0);
        checks.answers("the lower one stays 0", upperOne, x -> x.phase(0, 0), 0);
    }

    // "Of several exceptions the one named first is thrown; a call that throws changes nothing."
    private static void firstNamedOfGive() {
        // Tablet 2 is in the hand of box 0: giving it at box 1 is an illegal state on its own.
        checks.illegalState("give: not here", inHand(), x -> x.give(1, 0, 2));
        checks.illegalArgument("give: not here, no end", inHand(), x -> x.give(2, 0, 2));
        checks.illegalArgument("give: not here, no box", inHand(), x -> x.give(3, 0, 2));
        checks.illegalArgument("give: not here, no section", inHand(), x -> x.give(1, 2, 2));
        checks.illegalArgument("give: not here, another section's", inHand(), x -> x.give(1, 1, 2));
        checks.illegalArgument("give: in a slide, another section's", inHand(), x -> x.give(0, 0, 102));
        checks.illegalArgument("give: no tablet", inHand(), x -> x.give(0, 0, 4));
    }

    private static void firstNamedOfTrain() {
        checks.illegalState("train: known", aboard(), x -> x.train(0, 1));
        checks.illegalArgument("train: known, box too small", aboard(), x -> x.train(0, -1));
        checks.illegalArgument("train: known, box too large", aboard(), x -> x.train(0, 3));
        checks.illegalArgument("train: inside, box too large", inside(), x -> x.train(0, 3));
    }

    private static void firstNamedOfHand() {
        checks.illegalState("hand: has one aboard, in no hand", aboard(), x -> x.hand(0, 0));
        checks.illegalArgument("hand: has one aboard, no tablet", aboard(), x -> x.hand(0, 4));
        checks.illegalArgument("hand: inside, no tablet", inside(), x -> x.hand(0, -1));
        checks.illegalArgument("hand: in no hand, unknown train", aboard(), x -> x.hand(1, 0));
        checks.illegalArgument("hand: in no hand, no train", aboard(), x -> x.hand(8, 0));
    }

    private static void firstNamedOfBack() {
        checks.illegalArgument("back: unknown, so none aboard either", aboard(), x -> x.back(1));
        checks.illegalArgument("back: unknown, another train is inside", inside(), x -> x.back(7));
    }

    private static void firstNamedOfEnter() {
        checks.illegalArgument("enter: unknown, so at no box either", aboard(), x -> x.enter(1, true));
        for (boolean up : new boolean[] {true, false}) {
            checks.illegalState("enter: inside " + up, inside(), x -> x.enter(0, up));
            checks.illegalState("enter: inside, going down, " + up,
                    inside().after(x -> x.arrive(0), x -> x.enter(0, false)), x -> x.enter(0, up));
        }
        checks.unsupported("enter: no box below and no tablet", inHand().after(x -> x.train(0, 0)),
                x -> x.enter(0, false));
        checks.unsupported("enter: no box above and no tablet", inHand().after(x -> x.train(0, 2)),
                x -> x.enter(0, true));
        checks.noSuchElement("enter: no tablet alone", inHand().after(x -> x.train(0, 0)), x -> x.enter(0, true));
    }

    private static void firstNamedOfArrive() {
        checks.illegalArgument("arrive: unknown, so in no section either", aboard(), x -> x.arrive(1));
        checks.illegalState("arrive: stands", aboard(), x -> x.arrive(0));
    }

    private static void firstNamedOfCarry() {
        Scene outOfPhase = inHand();
        checks.illegalState("carry: not in phase", outOfPhase, x -> x.carry(0, 1, 2));
        checks.illegalState("carry: not in phase, fewer", outOfPhase, x -> x.carry(0, 1, 4));
        checks.illegalState("carry: not in phase, fewer below", outOfPhase, x -> x.carry(0, 0, 2));
        checks.illegalArgument("carry: not in phase, odd", outOfPhase, x -> x.carry(0, 1, 1));
        checks.illegalArgument("carry: not in phase, odd and fewer", outOfPhase, x -> x.carry(0, 1, 5));
        checks.illegalArgument("carry: not in phase, below 2", outOfPhase, x -> x.carry(0, 1, 0));
        checks.illegalArgument("carry: not in phase, no end", outOfPhase, x -> x.carry(0, 2, 2));
        checks.illegalArgument("carry: not in phase, no section", outOfPhase, x -> x.carry(2, 1, 2));
        Scene inPhase = Scene.line(3, 4, ALL);
        checks.noSuchElement("carry: fewer alone", inPhase, x -> x.carry(0, 0, 4));
        checks.illegalArgument("carry: odd and fewer", inPhase, x -> x.carry(0, 0, 3));
    }
}
