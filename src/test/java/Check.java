/** Counts the answers that are not as due; every test of the project ends with it. */
final class Check {
    private static int calls = 0;
    private static int wrong = 0;
    private static int callsBefore = 0;
    private static String sentence = "";

    private Check() {
    }

    /** Names the document's sentence that the answers from here on belong to. */
    static void sentence(String words) {
        closeSentence();
        sentence = words;
        callsBefore = calls;
    }

    static void due(String call, long got, long want) {
        calls++;
        if (got != want) {
            wrong++;
            String under = sentence.isEmpty() ? "" : "[" + sentence + "] ";
            System.out.println(under + call + " answered " + got + ", due is " + want);
        }
    }

    static void due(String call, boolean got, boolean want) {
        due(call, got ? 1L : 0L, want ? 1L : 0L);
    }

    static void end() {
        closeSentence();
        System.out.println(calls + " answers looked at, " + wrong + " not as due");
        if (wrong != 0 || calls == 0) {
            System.exit(1);
        }
    }

    /** A sentence that nothing was asked about has no test. */
    private static void closeSentence() {
        if (!sentence.isEmpty() && calls == callsBefore) {
            wrong++;
            System.out.println("[" + sentence + "] nothing was asked");
        }
    }
}
