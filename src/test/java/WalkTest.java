import java.util.ArrayList;
import java.util.HashMap;
import java.util.List;
import java.util.Map;
import java.util.NoSuchElementException;
import java.util.Random;
import java.util.function.Consumer;
import java.util.function.Function;
import java.util.function.IntBinaryOperator;
import java.util.function.IntPredicate;
import java.util.function.IntUnaryOperator;
import java.util.function.Supplier;

/**
 * Long walks of calls with a fixed seed, held against PlainLine: each answer, and often all that can be looked at. An
 * object has 512 calls, so that the looks go to new objects, on which the walk's beginning is played again.
 */
public final class WalkTest {
    private static final int WALKS = 200;
    private static final int CALLS = 512;
    /** The readers' calls of one look: at most 9 sections, 8 tablets, 8 trains and 6 boxes. */
    private static final int CALLS_OF_A_LOOK = 9 * (2 * 3 + 8) + 8 + 6;
    private static final int CALLS_FROM_LOOK_TO_LOOK = 3;

    private static final Checks checks = new Checks();
    private static final Map<String, Integer> seen = new HashMap<>();

    private record Step(String name, Function<TabletLine, Object> call, String due) {
    }

    private final Random random;
    private final int n;
    private final int t;
    private final int switches;
    private final PlainLine plain;
    private final List<Step> steps = new ArrayList<>();

    private WalkTest(int seed) {
        random = new Random(seed);
        n = seed % 4 == 0 ? random.nextInt(10) - 1 : 3 + random.nextInt(4);
        t = seed % 4 == 0 ? random.nextInt(12) : 4 + random.nextInt(5);
        switches = seed % 3 == 0 ? random.nextInt() : -1;
        plain = new PlainLine(n, t, switches);
    }

    public static void main(String[] args) {
        for (int seed = 0; seed < WALKS; seed++) {
            new WalkTest(seed).walk(seed);
        }
        reachesAll();
        checks.end();
    }

    private void walk(int seed) {
        int lookAt = 1 + seed % CALLS_FROM_LOOK_TO_LOOK;
        while (steps.size() < CALLS) {
            step();
            if (steps.size() >= lookAt && steps.size() + CALLS_OF_A_LOOK <= CALLS) {
                String after = "walk " + seed + ", a look after " + steps.size() + " calls";
                checks.due(after, lookAtLine(), lookAtPlain());
                lookAt = steps.size() + CALLS_FROM_LOOK_TO_LOOK;
            }
        }
        play(seed);
    }

    private void play(int seed) {
        TabletLine line = new TabletLine(n, t, switches);
        for (int i = 0; i < CALLS; i++) {
            Step step = steps.get(i);
            checks.due("walk " + seed + ", call " + i + " " + step.name, answer(() -> step.call.apply(line)), step.due);
        }
    }

    /** The walks are worth little if they never come to an answer that the document names. */
    private static void reachesAll() {
        String[] needed = {"take -1", "take -2", "take -3", "take -4", "take -5", "give void", "give IllegalState",
            "hand void", "hand IllegalState", "enter IllegalState", "enter Unsupported", "enter NoSuchElement",
            "arrive IllegalState", "back IllegalState", "switchOut 0", "switchOut 1", "switchOut 2", "switchOut 3",
            "switchOut 4", "switchOut 5", "switchIn 0", "switchIn 1", "switchIn 3", "switchIn 4", "switchIn 5",
            "carry void", "carry IllegalState", "carry NoSuchElement", "enter 12", "arrive 3", "train IllegalState"};
        for (String start : needed) {
            boolean found = seen.keySet().stream().anyMatch(s -> s.startsWith(start));
            checks.due("the walks come to: " + start, found, true);
        }
    }

    private static String answer(Supplier<Object> made) {
        try {
            return String.valueOf(made.get());
        } catch (IllegalArgumentException | IllegalStateException | UnsupportedOperationException
                | NoSuchElementException e) {
            return e.getClass().getSimpleName();
        }
    }

    private static Supplier<Object> nothing(Runnable run) {
        return () -> {
            run.run();
            return "void";
        };
    }

    private static Function<TabletLine, Object> nothingOf(Consumer<TabletLine> run) {
        return line -> {
            run.accept(line);
            return "void";
        };
    }

    private void both(String name, Function<TabletLine, Object> ofLine, Supplier<Object> ofPlain) {
        String due = answer(ofPlain);
        steps.add(new Step(name, ofLine, due));
        seen.merge(name.substring(0, name.indexOf('(')) + " " + due, 1, Integer::sum);
    }

    private boolean often() {
        return random.nextInt(10) != 0;
    }

    private int someBox() {
        return often() ? random.nextInt(plain.n) : random.nextInt(10) - 2;
    }

    private int someSection() {
        if (!often()) {
            return random.nextInt(20) - 2;
        }
        return random.nextInt(3) != 0 || plain.n == 2 ? random.nextInt(plain.n - 1) : 11 + random.nextInt(plain.n - 2);
    }

    private int someEnd(int section) {
        if (!often()) {
            return someBox();
        }
        boolean upper = random.nextBoolean();
        return section >= 10 ? section - 10 + (upper ? 1 : -1) : section + (upper ? 1 : 0);
    }

    private int someTrain() {
        return often() ? random.nextInt(4) : random.nextInt(12) - 2;
    }

    /** Mostly one that is out of its slide, for these are the ones that calls move. */
    private int someTablet() {
        int tablet = 0;
        for (int tries = 0; tries < 60; tries++) {
            tablet = 100 * someSection() + random.nextInt(plain.t + 1);
            int it = tablet;
            String place = answer(() -> plain.where(it));
            if (place.length() == 2) {
                return tablet;
            }
        }
        return tablet;
    }

    private void step() {
        int section = someSection();
        int box = someEnd(section);
        int train = someTrain();
        int tablet = someTablet();
        boolean yes = random.nextInt(4) != 0;
        switch (random.nextInt(14)) {
            case 0, 1 -> both("plunge(" + box + ", " + section + ", " + yes + ")",
                    nothingOf(line -> line.plunge(box, section, yes)), nothing(() -> plain.plunge(box, section, yes)));
            case 2 -> both("wire(" + section + ", " + yes + ")",
                    nothingOf(line -> line.wire(section, yes)), nothing(() -> plain.wire(section, yes)));
            case 3, 4 -> both("take(" + box + ", " + section + ")",
                    line -> line.take(box, section), () -> plain.take(box, section));
            case 5 -> giveSome(box, section, tablet);
            case 6 -> both("train(" + train + ", " + section + ")",
                    nothingOf(line -> line.train(train, section)), nothing(() -> plain.train(train, section)));
            case 7 -> both("hand(" + train + ", " + tablet + ")",
                    nothingOf(line -> line.hand(train, tablet)), nothing(() -> plain.hand(train, tablet)));
            case 8 -> both("back(" + train + ")", line -> line.back(train), () -> plain.back(train));
            case 9 -> both("enter(" + train + ", " + yes + ")",
                    line -> line.enter(train, yes), () -> plain.enter(train, yes));
            case 10 -> both("arrive(" + train + ")", line -> line.arrive(train), () -> plain.arrive(train));
            case 11 -> switchSome(someBox());
            case 12 -> carrySome(section, box, yes ? 2 * random.nextInt(4) : random.nextInt(9) - 2);
            default -> lookWrong(box, section, train, tablet);
        }
    }

    private void giveSome(int box, int section, int tablet) {
        int owner = often() ? Math.floorDiv(tablet, 100) : section;
        int end = someEnd(owner);
        both("give(" + end + ", " + owner + ", " + tablet + ")",
                nothingOf(line -> line.give(end, owner, tablet)), nothing(() -> plain.give(end, owner, tablet)));
    }

    private void switchSome(int box) {
        if (random.nextBoolean()) {
            both("switchOut(" + box + ")", line -> line.switchOut(box), () -> plain.switchOut(box));
        } else {
            both("switchIn(" + box + ")", line -> line.switchIn(box), () -> plain.switchIn(box));
        }
    }

    private void carrySome(int section, int box, int many) {
        both("carry(" + section + ", " + box + ", " + many + ")",
                nothingOf(line -> line.carry(section, box, many)), nothing(() -> plain.carry(section, box, many)));
    }

    private void lookWrong(int box, int section, int train, int tablet) {
        both("phase(" + box + ", " + section + ")", line -> line.phase(box, section), () -> plain.phase(box, section));
        both("slide(" + box + ", " + section + ")", line -> line.slide(box, section), () -> plain.slide(box, section));
        both("spend(" + section + ", " + box + ")", line -> line.spend(section, box), () -> plain.spend(section, box));
        both("where(" + tablet + ")", line -> line.where(tablet), () -> plain.where(tablet));
        both("place(" + train + ")", line -> line.place(train), () -> plain.place(train));
        both("out(" + box + ")", line -> line.out(box), () -> plain.out(box));
    }

    private String lookAtLine() {
        TabletLine line = new TabletLine(n, t, switches);
        for (Step step : steps) {
            answer(() -> step.call.apply(line));
        }
        return look(line::phase, line::slide, line::spend, line::where, line::place, line::out);
    }

    private String lookAtPlain() {
        return look(plain::phase, plain::slide, plain::spend, plain::where, plain::place, plain::out);
    }

    private String look(IntBinaryOperator phase, IntBinaryOperator slide, IntBinaryOperator spend,
            IntUnaryOperator where, IntUnaryOperator place, IntPredicate out) {
        StringBuilder all = new StringBuilder();
        for (int section : plain.sections()) {
            for (int box : plain.endsOf(section)) {
                all.append(section).append('@').append(box).append(':').append(phase.applyAsInt(box, section))
                        .append(slide.applyAsInt(box, section)).append(spend.applyAsInt(section, box)).append(' ');
            }
            for (int i = 0; i < plain.t; i++) {
                all.append(where.applyAsInt(100 * section + i)).append(' ');
            }
        }
        for (int train = 0; train < 8; train++) {
            all.append(place.applyAsInt(train)).append(' ');
        }
        for (int box = 0; box < plain.n; box++) {
            all.append(out.test(box) ? 'o' : 'i');
        }
        return all.toString();
    }
}
