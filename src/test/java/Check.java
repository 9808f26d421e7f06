/** Counts and prints the calls whose answer is not the one that is due. */
final class Check {
    private final String of;
    private int calls;
    private int wrong;

    Check(String of) {
        this.of = of;
    }

    void due(String call, long got, long want) {
        calls++;
        if (got == want) return;
        wrong++;
        System.out.println(of + ": " + call + " answered " + got + ", due is " + want);
    }

    void due(String call, boolean got, boolean want) {
        due(call, got ? 1L : 0L, want ? 1L : 0L);
    }

    boolean failed() {
        return wrong > 0;
    }

    void end() {
        System.out.println(of + ": " + (wrong == 0 ? calls + " answers are as due" : wrong + " answers are not as due"));
        if (wrong > 0) System.exit(1);
    }
}
