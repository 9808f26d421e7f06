/** Counts and prints the calls whose answer is not the one that is due, and the sentences of the document they test. */
final class Check {
    private final String of;
    private String sentence = "";
    private int sentences;
    private int calls;
    private int callsBefore;
    private int wrong;

    Check(String of) {
        this.of = of;
    }

    /** What follows tests these words of the document; of a promise by its number, of the section 'Terms' by 0. */
    void sentence(int promise, String words) {
        endSentence();
        sentence = (promise == 0 ? "Terms" : "Promise " + promise) + ", '" + words + "': ";
        sentences++;
    }

    /** A sentence without a test is as wrong as one that fails. */
    private void endSentence() {
        if (sentences > 0 && calls == callsBefore) due("how many answers were looked at", calls - callsBefore, 1);
        callsBefore = calls;
    }

    void due(String call, long got, long want) {
        calls++;
        if (got == want) return;
        wrong++;
        System.out.println(of + ": " + sentence + call + " answered " + got + ", due is " + want);
    }

    void due(String call, boolean got, boolean want) {
        due(call, got ? 1L : 0L, want ? 1L : 0L);
    }

    boolean failed() {
        return wrong > 0;
    }

    void end() {
        endSentence();
        String what = sentences == 0 ? "" : sentences + " sentences, ";
        System.out.println(of + ": " + what + (wrong == 0 ? calls + " answers are as due" : wrong + " answers are not as due"));
        if (wrong > 0) System.exit(1);
    }
}
