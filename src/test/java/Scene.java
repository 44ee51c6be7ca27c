import java.util.ArrayList;
import java.util.List;

/**
 * A new line and the calls made on it, played again on a new object for each look: looking takes calls too, of which an
 * object has 512, and some of what a line holds (plungers, wires, the order in a slide, where a train goes) shows only
 * by calls that change it.
 */
final class Scene {
    interface Act {
        void on(TabletLine x);
    }

    interface Ask {
        int of(TabletLine x);
    }

    static final int TRAINS = 8;

    final int boxes;
    final int tablets;
    private final int n;
    private final int t;
    private final int switches;
    private final List<Act> acts;
    private String told;

    private Scene(int n, int t, int switches, List<Act> acts) {
        this.n = n;
        this.t = t;
        this.switches = switches;
        this.acts = acts;
        boxes = n < 2 || n > 6 ? 4 : n;
        tablets = t < 4 || t > 8 ? 6 : t;
    }

    static Scene line(int n, int t, int switches) {
        return new Scene(n, t, switches, List.of());
    }

    Scene after(Act... more) {
        List<Act> all = new ArrayList<>(acts);
        all.addAll(List.of(more));
        return new Scene(n, t, switches, all);
    }

    /** This scene after a call that may throw. */
    Scene afterTrying(Act act) {
        return after(x -> Checks.thrownBy(() -> act.on(x)));
    }

    /** Both plungers of a section are held, or both are free. */
    Scene plungers(int section, boolean held) {
        return after(x -> x.plunge(lowerEnd(section), section, held), x -> x.plunge(upperEnd(section), section, held));
    }

    Scene allPlungersHeld() {
        Scene scene = this;
        for (int section : sections()) {
            scene = scene.plungers(section, true);
        }
        return scene;
    }

    /** A box is switched out; the plungers that this needs are held before, and free afterwards. */
    Scene boxOut(int b) {
        return plungers(b - 1, true).plungers(b, true).after(x -> x.switchOut(b)).plungers(b - 1, false)
                .plungers(b, false);
    }

    /** The topmost tablet is taken out at an end; the plunger that this needs is free afterwards. */
    Scene taken(int box, int section) {
        int other = otherEnd(box, section);
        return after(x -> x.plunge(other, section, true), x -> x.take(box, section),
                x -> x.plunge(other, section, false));
    }

    TabletLine make() {
        TabletLine x = new TabletLine(n, t, switches);
        for (Act act : acts) {
            act.on(x);
        }
        return x;
    }

    List<Integer> sections() {
        List<Integer> all = new ArrayList<>();
        for (int s = 0; s <= boxes - 2; s++) {
            all.add(s);
        }
        for (int b = 1; b <= boxes - 2; b++) {
            if ((switches & 1 << b) != 0) {
                all.add(10 + b);
            }
        }
        return all;
    }

    static int lowerEnd(int section) {
        return section > 10 ? section - 11 : section;
    }

    static int upperEnd(int section) {
        return section > 10 ? section - 9 : section + 1;
    }

    static int otherEnd(int box, int section) {
        return box == lowerEnd(section) ? upperEnd(section) : lowerEnd(section);
    }

    /** All that the line holds, seen or hidden. */
    String tell() {
        if (told == null) {
            StringBuilder all = new StringBuilder();
            tellSeen(make(), all);
            tellConsents(make(), all);
            tellTrains(make(), all);
            for (int section : sections()) {
                all.append("; slides of ").append(section).append(':');
                tellPile(make(), lowerEnd(section), section, all);
                all.append(" /");
                tellPile(make(), upperEnd(section), section, all);
            }
            told = all.toString();
        }
        return told;
    }

    /** The piles of this slide, the topmost tablet first, after all tablets have been given back. */
    String pile(int box, int section) {
        StringBuilder all = new StringBuilder();
        tellPile(make(), box, section, all);
        return all.toString().trim();
    }

    private void tellSeen(TabletLine x, StringBuilder all) {
        for (int section : sections()) {
            all.append("; section ").append(section).append(':');
            for (int box : new int[] {lowerEnd(section), upperEnd(section)}) {
                all.append(" wheel ").append(x.phase(box, section)).append(" slide ").append(x.slide(box, section))
                        .append(" spend ").append(x.spend(section, box));
            }
            all.append(" where");
            for (int i = 0; i < tablets; i++) {
                all.append(' ').append(x.where(100 * section + i));
            }
        }
        all.append("; out");
        for (int box = 0; box < boxes; box++) {
            all.append(' ').append(x.out(box));
        }
    }

    /** A take asks for the other end's plunger first, and for the wire next, so that it tells both in any state. */
    private void tellConsents(TabletLine x, StringBuilder all) {
        for (int section : sections()) {
            int lower = lowerEnd(section);
            int upper = upperEnd(section);
            all.append("; held ").append(x.take(upper, section) != -1).append(' ').append(x.take(lower, section) != -1);
            x.plunge(upper, section, true);
            all.append(" whole ").append(x.take(lower, section) != -2);
        }
    }

    private void tellTrains(TabletLine x, StringBuilder all) {
        for (int train = 0; train < TRAINS; train++) {
            int it = train;
            all.append("; train ").append(train).append(' ').append(x.place(train)).append(' ')
                    .append(answer(() -> x.arrive(it))).append(' ').append(answer(() -> x.back(it)));
        }
    }

    private static String answer(java.util.function.IntSupplier made) {
        int[] got = new int[1];
        String thrown = Checks.thrownBy(() -> got[0] = made.getAsInt());
        return thrown.equals("nothing") ? String.valueOf(got[0]) : thrown;
    }

    private void tellPile(TabletLine x, int box, int section, StringBuilder all) {
        settle(x);
        if (section > 10) {
            x.switchOut(section - 10);
        }
        int other = otherEnd(box, section);
        for (int left = x.slide(box, section); left > 0; left -= 2) {
            tellTop(x, box, section, all);
            if (left >= 2) {
                x.carry(section, box, 2);
                tellTop(x, other, section, all);
            }
        }
    }

    private static void tellTop(TabletLine x, int box, int section, StringBuilder all) {
        int top = x.take(box, section);
        all.append(' ').append(top);
        if (top >= 0) {
            x.give(box, section, top);
        }
    }

    /** Brings all tablets into slides and all boxes in, so that any section can be unlocked. */
    private void settle(TabletLine x) {
        for (int train = 0; train < TRAINS; train++) {
            int it = train;
            answer(() -> x.arrive(it));
            answer(() -> x.back(it));
        }
        for (int section : sections()) {
            x.wire(section, true);
            x.plunge(lowerEnd(section), section, true);
            x.plunge(upperEnd(section), section, true);
            for (int i = 0; i < tablets; i++) {
                int place = x.where(100 * section + i);
                if (place >= 10) {
                    x.give(place - 10, section, 100 * section + i);
                }
            }
        }
        for (int box = 0; box < boxes; box++) {
            x.switchIn(box);
        }
    }
}
