import java.util.ArrayDeque;
import java.util.Deque;
import java.util.NoSuchElementException;
import java.util.Set;
import java.util.TreeMap;

/**
 * The document once more, by other means than the program's: names in maps, and a tablet's place found by search.
 * WalkTest holds the program against it.
 */
final class PlainLine {
    final int n;
    final int t;
    private final TreeMap<Integer, int[]> ends = new TreeMap<>();
    private final TreeMap<String, Deque<Integer>> slides = new TreeMap<>();
    private final TreeMap<String, Boolean> wheels = new TreeMap<>();
    private final TreeMap<String, Boolean> plungers = new TreeMap<>();
    private final TreeMap<Integer, Boolean> wires = new TreeMap<>();
    private final TreeMap<Integer, Integer> handOf = new TreeMap<>();
    private final TreeMap<Integer, Integer> aboard = new TreeMap<>();
    private final TreeMap<Integer, Integer> standing = new TreeMap<>();
    private final TreeMap<Integer, int[]> going = new TreeMap<>();
    private final TreeMap<Integer, Boolean> outBoxes = new TreeMap<>();

    PlainLine(int boxes, int tablets, int switches) {
        n = boxes < 2 || boxes > 6 ? 4 : boxes;
        t = tablets < 4 || tablets > 8 ? 6 : tablets;
        for (int s = 0; s + 1 < n; s++) {
            build(s, s, s + 1);
        }
        for (int b = 1; b + 1 < n; b++) {
            if ((switches & (1 << b)) != 0) {
                build(10 + b, b - 1, b + 1);
            }
        }
    }

    private void build(int section, int lower, int upper) {
        ends.put(section, new int[] {lower, upper});
        wires.put(section, true);
        for (int box : ends.get(section)) {
            slides.put(key(box, section), new ArrayDeque<>());
            wheels.put(key(box, section), false);
            plungers.put(key(box, section), false);
        }
        for (int i = 0; i < t; i++) {
            slides.get(key(i % 2 == 0 ? lower : upper, section)).push(100 * section + i);
        }
    }

    Set<Integer> sections() {
        return ends.keySet();
    }

    int[] endsOf(int section) {
        return ends.get(section);
    }

    private static String key(int box, int section) {
        return section + "@" + box;
    }

    private void legal(boolean fine) {
        if (!fine) {
            throw new IllegalArgumentException();
        }
    }

    private void state(boolean fine) {
        if (!fine) {
            throw new IllegalStateException();
        }
    }

    private void legalEnd(int box, int section) {
        legal(slides.containsKey(key(box, section)));
    }

    private void legalBox(int box) {
        legal(box >= 0 && box < n);
    }

    private void legalTablet(int tablet) {
        legal(tablet >= 0 && ends.containsKey(tablet / 100) && tablet % 100 < t);
    }

    private void legalTrain(int train) {
        legal(standing.containsKey(train) || going.containsKey(train));
    }

    private int other(int box, int section) {
        int[] both = ends.get(section);
        return both[0] + both[1] - box;
    }

    private void turn(int box, int section) {
        wheels.put(key(box, section), !wheels.get(key(box, section)));
    }

    private boolean agree(int section) {
        int[] both = ends.get(section);
        return wheels.get(key(both[0], section)).equals(wheels.get(key(both[1], section)));
    }

    private boolean isOut(int box) {
        return outBoxes.containsKey(box);
    }

    private boolean locked(int section) {
        return section > 10 ? !isOut(section - 10) : isOut(section) || isOut(section + 1);
    }

    void plunge(int box, int section, boolean held) {
        legalEnd(box, section);
        plungers.put(key(box, section), held);
    }

    void wire(int section, boolean whole) {
        legal(ends.containsKey(section));
        wires.put(section, whole);
    }

    int take(int box, int section) {
        legalEnd(box, section);
        Deque<Integer> slide = slides.get(key(box, section));
        boolean[] refused = {!plungers.get(key(other(box, section), section)), !wires.get(section), !agree(section),
            slide.isEmpty(), locked(section)};
        for (int i = 0; i < refused.length; i++) {
            if (refused[i]) {
                return -1 - i;
            }
        }
        turn(box, section);
        handOf.put(slide.peek(), box);
        return slide.pop();
    }

    void give(int box, int section, int tablet) {
        legalEnd(box, section);
        legalTablet(tablet);
        legal(tablet / 100 == section);
        Integer hand = handOf.get(tablet);
        Integer train = carrier(tablet);
        boolean here = hand != null && hand == box;
        boolean onTrainHere = train != null && standing.containsKey(train) && standing.get(train) == box;
        state(here || onTrainHere);
        handOf.remove(tablet);
        if (train != null) {
            aboard.remove(train);
        }
        slides.get(key(box, section)).push(tablet);
        turn(box, section);
    }

    private Integer carrier(int tablet) {
        for (int train : aboard.keySet()) {
            if (aboard.get(train) == tablet) {
                return train;
            }
        }
        return null;
    }

    void train(int train, int box) {
        legal(train >= 0 && train <= 7);
        legalBox(box);
        state(!standing.containsKey(train) && !going.containsKey(train));
        standing.put(train, box);
    }

    void hand(int train, int tablet) {
        legalTrain(train);
        legalTablet(tablet);
        state(handOf.containsKey(tablet));
        state(standing.containsKey(train) && standing.get(train).equals(handOf.get(tablet)));
        state(!aboard.containsKey(train));
        handOf.remove(tablet);
        aboard.put(train, tablet);
    }

    int back(int train) {
        legalTrain(train);
        state(aboard.containsKey(train) && standing.containsKey(train));
        handOf.put(aboard.get(train), standing.get(train));
        return aboard.remove(train);
    }

    int enter(int train, boolean up) {
        legalTrain(train);
        state(standing.containsKey(train));
        int from = standing.get(train);
        int goal = up ? from + 1 : from - 1;
        int section = up ? from : from - 1;
        if (isOut(goal)) {
            section = 10 + goal;
            goal = up ? from + 2 : from - 2;
        }
        if (goal < 0 || goal >= n) {
            throw new UnsupportedOperationException();
        }
        if (!aboard.containsKey(train) || aboard.get(train) / 100 != section) {
            throw new NoSuchElementException();
        }
        standing.remove(train);
        going.put(train, new int[] {section, goal});
        return section;
    }

    int arrive(int train) {
        legalTrain(train);
        state(going.containsKey(train));
        int box = going.remove(train)[1];
        standing.put(train, box);
        return box;
    }

    private boolean wiresWhole(int box) {
        return wires.get(box - 1) && wires.get(box) && wires.get(10 + box);
    }

    int switchOut(int box) {
        legalBox(box);
        if (!ends.containsKey(10 + box) || isOut(box)) {
            return 1;
        }
        if (isOut(box - 1) || isOut(box + 1)) {
            return 2;
        }
        if (!(plungers.get(key(box - 1, box - 1)) && plungers.get(key(box + 1, box)))) {
            return 3;
        }
        if (!wiresWhole(box)) {
            return 4;
        }
        if (!(agree(box - 1) && agree(box))) {
            return 5;
        }
        outBoxes.put(box, true);
        return 0;
    }

    int switchIn(int box) {
        legalBox(box);
        if (!isOut(box)) {
            return 1;
        }
        if (!(plungers.get(key(box - 1, 10 + box)) && plungers.get(key(box + 1, 10 + box)))) {
            return 3;
        }
        if (!wiresWhole(box)) {
            return 4;
        }
        if (!agree(10 + box)) {
            return 5;
        }
        outBoxes.remove(box);
        return 0;
    }

    void carry(int section, int from, int many) {
        legalEnd(from, section);
        legal(many >= 2 && (many & 1) == 0);
        state(agree(section));
        Deque<Integer> source = slides.get(key(from, section));
        if (source.size() < many) {
            throw new NoSuchElementException();
        }
        for (int i = 0; i < many; i++) {
            slides.get(key(other(from, section), section)).push(source.pop());
        }
    }

    int phase(int box, int section) {
        legalEnd(box, section);
        return wheels.get(key(box, section)) ? 1 : 0;
    }

    int slide(int box, int section) {
        legalEnd(box, section);
        return slides.get(key(box, section)).size();
    }

    int where(int tablet) {
        legalTablet(tablet);
        int[] both = ends.get(tablet / 100);
        for (int end = 0; end < 2; end++) {
            if (slides.get(key(both[end], tablet / 100)).contains(tablet)) {
                return end;
            }
        }
        return handOf.containsKey(tablet) ? 10 + handOf.get(tablet) : 20 + carrier(tablet);
    }

    int place(int train) {
        legal(train >= 0 && train <= 7);
        return standing.containsKey(train) ? standing.get(train)
                : going.containsKey(train) ? 10 + going.get(train)[0] : -1;
    }

    /** Plays the takes and gives, as the promise tells them. */
    int spend(int section, int from) {
        legalEnd(from, section);
        boolean here = wheels.get(key(from, section));
        boolean there = wheels.get(key(other(from, section), section));
        int left = slides.get(key(from, section)).size();
        int times = 0;
        while (here == there && left > 0) {
            here = !here;
            left--;
            there = !there;
            times++;
        }
        return times;
    }

    boolean out(int box) {
        legalBox(box);
        return isOut(box);
    }
}
