/** Counts and prints the answers that are not the ones due. */
final class Checks {
    private String sentence = "";
    private int made = 0;
    private int wrong = 0;

    /** Names the document's sentence that the checks from here on are about. */
    void about(String place, String words) {
        sentence = place + " (" + words + "): ";
    }

    void due(String what, int got, int want) {
        due(what, String.valueOf(got), String.valueOf(want));
    }

    void due(String what, boolean got, boolean want) {
        due(what, String.valueOf(got), String.valueOf(want));
    }

    void due(String what, String got, String want) {
        made++;
        if (!got.equals(want)) {
            wrong++;
            System.out.println(sentence + what + " answered " + got + ", due is " + want);
        }
    }

    void end() {
        System.out.println(made + " checks, " + wrong + " wrong");
        if (wrong != 0 || made == 0) {
            System.exit(1);
        }
    }
}
