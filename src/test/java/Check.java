import java.util.function.Supplier;

/** Compares answers with what is due, tells those that differ, and ends the test run by its exit code. */
final class Check {
    private final String name;
    private String sentence = "";
    private int sentences;
    private int answersBefore;
    private int answers;
    private int wrong;

    Check(String name) {
        this.name = name;
    }

    interface Call {
        Object on(FrostPane pane);
    }

    /** Names the sentence of the document that the answers from now on are a test of. */
    void sentence(String text) {
        endSentence();
        sentence = text;
        sentences++;
        answersBefore = answers;
    }

    void same(String call, long got, long due) {
        judge(call, String.valueOf(got), String.valueOf(due));
    }

    void same(String call, boolean got, boolean due) {
        judge(call, String.valueOf(got), String.valueOf(due));
    }

    void same(String call, double got, double due) {
        judge(call, String.valueOf(got), String.valueOf(due));
    }

    void same(String call, String got, String due) {
        judge(call, got, due);
    }

    void takes(String call, FrostPane pane, Call run) {
        judge(call, outcome(pane, run), "nothing");
    }

    void refuses(String call, Class<? extends RuntimeException> due, Supplier<FrostPane> maker, Call run) {
        FrostPane pane = maker.get();
        judge(call, outcome(pane, run), due.getName());
        same("all there is behind " + call, Panes.all(pane), Panes.all(maker.get()));
    }

    void changesNothing(String call, Supplier<FrostPane> maker, Call run) {
        FrostPane pane = maker.get();
        takes(call, pane, run);
        same("all there is behind " + call, Panes.all(pane), Panes.all(maker.get()));
    }

    void end() {
        endSentence();
        String of = sentences > 0 ? " of " + sentences + " sentences" : "";
        System.out.println(name + ": " + answers + " answers" + of + ", " + wrong + " wrong");
        if (wrong != 0 || answers == 0) {
            System.exit(1);
        }
    }

    /** The name of just this class: an exception that the machine throws is of a class below the document's. */
    private static String outcome(FrostPane pane, Call run) {
        try {
            run.on(pane);
        } catch (RuntimeException e) {
            return e.getClass().getName();
        }
        return "nothing";
    }

    private void judge(String call, String got, String due) {
        answers++;
        if (!got.equals(due)) {
            tell(call + ": " + got + ", due is " + due);
        }
    }

    private void endSentence() {
        if (sentences > 0 && answers == answersBefore) {
            tell("no answer is a test of it");
        }
    }

    private void tell(String text) {
        wrong++;
        if (wrong <= 20) {
            System.out.println(name + ": " + (sentence.isEmpty() ? "" : "[" + sentence + "] ") + text);
        }
    }
}
