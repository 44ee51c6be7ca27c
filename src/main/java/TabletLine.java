import java.util.NoSuchElementException;

/** A single line of railway whose sections are guarded by tablets. */
public final class TabletLine {
    private static final int NONE = -1;
    private static final int TRAIN_COUNT = 8;
    private static final int LONG_BASE = 10;
    private static final int NUMBERS_PER_SECTION = 100;

    // A tablet's place is held in the code that where() answers.
    private static final int AT_LOWER_END = 0;
    private static final int AT_UPPER_END = 1;
    private static final int IN_HAND = 10;
    private static final int ABOARD = 20;

    private static final int INSIDE = 10;

    private final int boxCount;
    private final boolean[] switchedOut;
    // By section number, with null where the line has no such section.
    private final Section[] sections;
    private final Train[] trains;

    public TabletLine(int n, int t, int switches) {
        boxCount = n >= 2 && n <= 6 ? n : 4;
        int tabletCount = t >= 4 && t <= 8 ? t : 6;
        switchedOut = new boolean[boxCount];
        sections = new Section[LONG_BASE + boxCount];
        for (int s = 0; s < boxCount - 1; s++) {
            sections[s] = new Section(s, s, s + 1, tabletCount);
        }
        for (int b = 1; b < boxCount - 1; b++) {
            if (((switches >> b) & 1) == 1) {
                sections[LONG_BASE + b] = new Section(LONG_BASE + b, b - 1, b + 1, tabletCount);
            }
        }
        trains = new Train[TRAIN_COUNT];
        for (int i = 0; i < TRAIN_COUNT; i++) {
            trains[i] = new Train();
        }
    }

    public void plunge(int box, int section, boolean held) throws IllegalArgumentException {
        sectionEndingAt(section, box).instrumentAt(box).plungerHeld = held;
    }

    public void wire(int section, boolean whole) throws IllegalArgumentException {
        sectionNumbered(section).wireWhole = whole;
    }

    public int take(int box, int section) throws IllegalArgumentException {
        Section line = sectionEndingAt(section, box);
        Instrument here = line.instrumentAt(box);
        if (!line.instrumentOpposite(box).plungerHeld) {
            return -1;
        }
        if (!line.wireWhole) {
            return -2;
        }
        if (!line.inPhase()) {
            return -3;
        }
        if (here.count == 0) {
            return -4;
        }
        if (isLocked(line)) {
            return -5;
        }
        int tablet = here.pop();
        here.turnWheel();
        line.setPlaceOf(tablet, IN_HAND + box);
        return tablet;
    }

    public void give(int box, int section, int tablet) throws IllegalArgumentException, IllegalStateException {
        Section line = sectionEndingAt(section, box);
        if (sectionOfTablet(tablet) != line) {
            throw new IllegalArgumentException("another section's tablet");
        }
        int place = line.placeOf(tablet);
        Train carrier = trainAt(place);
        boolean inHandHere = place == IN_HAND + box;
        boolean aboardHere = carrier != null && carrier.box == box;
        if (!inHandHere && !aboardHere) {
            throw new IllegalStateException("the tablet is not here");
        }
        if (carrier != null) {
            carrier.tablet = NONE;
        }
        line.layIn(box, tablet);
        line.instrumentAt(box).turnWheel();
    }

    public void train(int train, int box) throws IllegalArgumentException, IllegalStateException {
        Train it = trainNumbered(train);
        checkBox(box);
        if (it.known) {
            throw new IllegalStateException("the train is known already");
        }
        it.known = true;
        it.box = box;
    }

    public void hand(int train, int tablet) throws IllegalArgumentException, IllegalStateException {
        Train it = knownTrain(train);
        Section line = sectionOfTablet(tablet);
        if (it.box == NONE || line.placeOf(tablet) != IN_HAND + it.box) {
            throw new IllegalStateException("the tablet is not in the hand of the train's box");
        }
        if (it.tablet != NONE) {
            throw new IllegalStateException("the train has a tablet aboard");
        }
        it.tablet = tablet;
        line.setPlaceOf(tablet, ABOARD + train);
    }

    public int back(int train) throws IllegalArgumentException, IllegalStateException {
        Train it = knownTrain(train);
        if (it.tablet == NONE || it.box == NONE) {
            throw new IllegalStateException("the train has no tablet, or stands at no box");
        }
        int tablet = it.tablet;
        it.tablet = NONE;
        sectionOfTablet(tablet).setPlaceOf(tablet, IN_HAND + it.box);
        return tablet;
    }

    public int enter(int train, boolean up) throws IllegalArgumentException, IllegalStateException,
            UnsupportedOperationException, NoSuchElementException {
        Train it = knownTrain(train);
        if (it.box == NONE) {
            throw new IllegalStateException("the train stands at no box");
        }
        int goal = nextBox(it.box, up);
        if (!isBox(goal)) {
            throw new UnsupportedOperationException("no box that way");
        }
        int section = sectionBetween(it.box, goal);
        if (it.tablet == NONE || it.tablet / NUMBERS_PER_SECTION != section) {
            throw new NoSuchElementException("no tablet of the section aboard");
        }
        it.box = NONE;
        it.section = section;
        it.goal = goal;
        return section;
    }

    public int arrive(int train) throws IllegalArgumentException, IllegalStateException {
        Train it = knownTrain(train);
        if (it.section == NONE) {
            throw new IllegalStateException("the train is in no section");
        }
        it.box = it.goal;
        it.section = NONE;
        it.goal = NONE;
        return it.box;
    }

    public int switchOut(int box) throws IllegalArgumentException {
        checkBox(box);
        if (!maySwitchOut(box) || isOut(box)) {
            return 1;
        }
        if (isOut(box - 1) || isOut(box + 1)) {
            return 2;
        }
        Section below = sectionNumbered(box - 1);
        Section above = sectionNumbered(box);
        if (!below.lower.plungerHeld || !above.upper.plungerHeld) {
            return 3;
        }
        if (wireBrokenAround(box)) {
            return 4;
        }
        if (!below.inPhase() || !above.inPhase()) {
            return 5;
        }
        switchedOut[box] = true;
        return 0;
    }

    public int switchIn(int box) throws IllegalArgumentException {
        checkBox(box);
        if (!isOut(box)) {
            return 1;
        }
        Section over = sectionNumbered(LONG_BASE + box);
        if (!over.lower.plungerHeld || !over.upper.plungerHeld) {
            return 3;
        }
        if (wireBrokenAround(box)) {
            return 4;
        }
        if (!over.inPhase()) {
            return 5;
        }
        switchedOut[box] = false;
        return 0;
    }

    public void carry(int section, int from, int n) throws IllegalArgumentException, IllegalStateException,
            NoSuchElementException {
        Section line = sectionEndingAt(section, from);
        if (n < 2 || n % 2 != 0) {
            throw new IllegalArgumentException("n is odd, or below 2");
        }
        if (!line.inPhase()) {
            throw new IllegalStateException("the section is not in phase");
        }
        Instrument source = line.instrumentAt(from);
        if (source.count < n) {
            throw new NoSuchElementException("the slide has fewer");
        }
        int to = line.otherEnd(from);
        for (int i = 0; i < n; i++) {
            line.layIn(to, source.pop());
        }
    }

    public int phase(int box, int section) throws IllegalArgumentException {
        return sectionEndingAt(section, box).instrumentAt(box).wheel;
    }

    public int slide(int box, int section) throws IllegalArgumentException {
        return sectionEndingAt(section, box).instrumentAt(box).count;
    }

    public int where(int tablet) throws IllegalArgumentException {
        return sectionOfTablet(tablet).placeOf(tablet);
    }

    public int place(int train) throws IllegalArgumentException {
        Train it = trainNumbered(train);
        if (!it.known) {
            return -1;
        }
        return it.section == NONE ? it.box : INSIDE + it.section;
    }

    public int spend(int section, int from) throws IllegalArgumentException {
        Section line = sectionEndingAt(section, from);
        // A take and a give turn both wheels, so a section in phase stays so until the slide is empty.
        return line.inPhase() ? line.instrumentAt(from).count : 0;
    }

    public boolean out(int box) throws IllegalArgumentException {
        checkBox(box);
        return isOut(box);
    }

    private boolean isBox(int box) {
        return box >= 0 && box < boxCount;
    }

    private void checkBox(int box) {
        if (!isBox(box)) {
            throw new IllegalArgumentException("no such box");
        }
    }

    private boolean isOut(int box) {
        return isBox(box) && switchedOut[box];
    }

    private boolean isSection(int number) {
        return number >= 0 && number < sections.length && sections[number] != null;
    }

    private boolean maySwitchOut(int box) {
        return isSection(LONG_BASE + box);
    }

    private Section sectionNumbered(int number) {
        if (!isSection(number)) {
            throw new IllegalArgumentException("no such section");
        }
        return sections[number];
    }

    private Section sectionEndingAt(int number, int box) {
        Section line = sectionNumbered(number);
        if (!line.hasEnd(box)) {
            throw new IllegalArgumentException("the box is no end of the section");
        }
        return line;
    }

    private Section sectionOfTablet(int tablet) {
        if (tablet < 0) {
            throw new IllegalArgumentException("no such tablet");
        }
        Section line = sectionNumbered(tablet / NUMBERS_PER_SECTION);
        if (!line.hasTablet(tablet)) {
            throw new IllegalArgumentException("no such tablet");
        }
        return line;
    }

    private Train trainNumbered(int number) {
        if (number < 0 || number >= TRAIN_COUNT) {
            throw new IllegalArgumentException("no such train");
        }
        return trains[number];
    }

    private Train knownTrain(int number) {
        Train it = trainNumbered(number);
        if (!it.known) {
            throw new IllegalArgumentException("the train is not known");
        }
        return it;
    }

    /** The train aboard which a tablet with this place is, or null. */
    private Train trainAt(int place) {
        int number = place - ABOARD;
        return number >= 0 && number < TRAIN_COUNT ? trains[number] : null;
    }

    private boolean isLocked(Section line) {
        if (line.number >= LONG_BASE) {
            return !isOut(line.number - LONG_BASE);
        }
        return isOut(line.lowerBox) || isOut(line.upperBox);
    }

    private boolean wireBrokenAround(int box) {
        return !sectionNumbered(box - 1).wireWhole
                || !sectionNumbered(box).wireWhole
                || !sectionNumbered(LONG_BASE + box).wireWhole;
    }

    /** The next box that is not passed over; it may lie off the line. */
    private int nextBox(int box, boolean up) {
        int step = up ? 1 : -1;
        int next = box + step;
        return isOut(next) ? next + step : next;
    }

    private static int sectionBetween(int from, int to) {
        int lower = Math.min(from, to);
        return Math.abs(from - to) == 1 ? lower : LONG_BASE + lower + 1;
    }

    private static final class Section {
        private final int number;
        private final int lowerBox;
        private final int upperBox;
        private final Instrument lower;
        private final Instrument upper;
        private final int[] places;
        private boolean wireWhole;

        private Section(int number, int lowerBox, int upperBox, int tabletCount) {
            this.number = number;
            this.lowerBox = lowerBox;
            this.upperBox = upperBox;
            lower = new Instrument(tabletCount);
            upper = new Instrument(tabletCount);
            places = new int[tabletCount];
            wireWhole = true;
            for (int i = 0; i < tabletCount; i++) {
                layIn(i % 2 == 0 ? lowerBox : upperBox, number * NUMBERS_PER_SECTION + i);
            }
        }

        private boolean hasEnd(int box) {
            return box == lowerBox || box == upperBox;
        }

        private int otherEnd(int box) {
            return box == lowerBox ? upperBox : lowerBox;
        }

        private Instrument instrumentAt(int box) {
            return box == lowerBox ? lower : upper;
        }

        private Instrument instrumentOpposite(int box) {
            return instrumentAt(otherEnd(box));
        }

        private boolean inPhase() {
            return lower.wheel == upper.wheel;
        }

        private boolean hasTablet(int tablet) {
            int index = indexOf(tablet);
            return index >= 0 && index < places.length;
        }

        private int placeOf(int tablet) {
            return hasTablet(tablet) ? places[indexOf(tablet)] : NONE;
        }

        private void setPlaceOf(int tablet, int place) {
            if (hasTablet(tablet)) {
                places[indexOf(tablet)] = place;
            }
        }

        private void layIn(int box, int tablet) {
            instrumentAt(box).push(tablet);
            setPlaceOf(tablet, box == lowerBox ? AT_LOWER_END : AT_UPPER_END);
        }

        private int indexOf(int tablet) {
            return tablet - number * NUMBERS_PER_SECTION;
        }
    }

    /** A slide, a wheel and the plunger beside them, at one end of a section. */
    private static final class Instrument {
        private final int[] pile;
        private int count;
        private int wheel;
        private boolean plungerHeld;

        private Instrument(int capacity) {
            pile = new int[capacity];
        }

        private void push(int tablet) {
            // There is room for all tablets of the section; the test is LANGUAGE.md's rule 7.
            if (count < pile.length) {
                pile[count] = tablet;
                count++;
            }
        }

        private int pop() {
            if (count == 0) {
                return NONE;
            }
            count--;
            return pile[count];
        }

        private void turnWheel() {
            wheel = 1 - wheel;
        }
    }

    /** A known train either stands at a box or is inside a section; the other field is NONE then. */
    private static final class Train {
        private boolean known;
        private int box = NONE;
        private int section = NONE;
        private int goal = NONE;
        private int tablet = NONE;
    }
}
