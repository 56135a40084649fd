/** What came and what was due, for one test's main method. */
final class Report {
    private static int asked = 0;
    private static int wrong = 0;

    private Report() {
    }

    static void due(String sentence, long got, long want) {
        asked++;
        if (got != want) {
            wrong++;
            System.out.println(sentence + " answered " + got + ", due is " + want);
        }
    }

    static void end() {
        System.out.println(asked + " answers compared, " + wrong + " wrong");
        System.exit(wrong == 0 ? 0 : 1);
    }
}
