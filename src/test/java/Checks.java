import java.util.NoSuchElementException;

/** Counts the answers that are not as due; a test ends with exit code 1 if there was one. */
final class Checks {
    interface Call {
        void make();
    }

    private int made = 0;
    private int wrong = 0;

    void due(String what, long got, long want) {
        made++;
        if (got != want) {
            wrong++;
            System.out.println(what + ": answered " + got + ", due is " + want);
        }
    }

    void due(String what, boolean got, boolean want) {
        due(what, got ? 1 : 0, want ? 1 : 0);
    }

    void due(String what, String got, String want) {
        made++;
        if (!got.equals(want)) {
            wrong++;
            System.out.println(what + ": answered " + got + ", due is " + want);
        }
    }

    void illegalArgument(String what, Call call) {
        due(what, thrownBy(call), "IllegalArgumentException");
    }

    void illegalState(String what, Call call) {
        due(what, thrownBy(call), "IllegalStateException");
    }

    void unsupported(String what, Call call) {
        due(what, thrownBy(call), "UnsupportedOperationException");
    }

    void noSuchElement(String what, Call call) {
        due(what, thrownBy(call), "NoSuchElementException");
    }

    /** The call throws this, and changes nothing, seen or hidden. */
    void refused(String what, Scene scene, Scene.Act call, String exception) {
        TabletLine x = scene.make();
        due(what, thrownBy(() -> call.on(x)), exception);
        unchanged(what, scene, call);
    }

    void illegalArgument(String what, Scene scene, Scene.Act call) {
        refused(what, scene, call, "IllegalArgumentException");
    }

    void illegalState(String what, Scene scene, Scene.Act call) {
        refused(what, scene, call, "IllegalStateException");
    }

    void unsupported(String what, Scene scene, Scene.Act call) {
        refused(what, scene, call, "UnsupportedOperationException");
    }

    void noSuchElement(String what, Scene scene, Scene.Act call) {
        refused(what, scene, call, "NoSuchElementException");
    }

    /** The call answers this, and changes nothing, seen or hidden. */
    void only(String what, Scene scene, Scene.Ask call, int want) {
        due(what, call.of(scene.make()), want);
        unchanged(what, scene, call::of);
    }

    private void unchanged(String what, Scene scene, Scene.Act call) {
        due(what + ", nothing has changed", scene.afterTrying(call).tell(), scene.tell());
    }

    void answers(String what, Scene scene, Scene.Ask call, int want) {
        due(what, call.of(scene.make()), want);
    }

    void end() {
        System.out.println(wrong == 0 ? made + " answers are as due" : wrong + " of " + made + " answers are not as due");
        if (made == 0 || wrong != 0) {
            System.exit(1);
        }
    }

    static String thrownBy(Call call) {
        try {
            call.make();
            return "nothing";
        } catch (IllegalArgumentException | IllegalStateException | UnsupportedOperationException
                | NoSuchElementException e) {
            return e.getClass().getSimpleName();
        }
    }
}
