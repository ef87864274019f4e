/** Counts and prints the answers that are not as due. */
final class Checks {
    private final String name;
    private String sentence = "";
    private int answers;
    private int wrong;

    Checks(String name) {
        this.name = name;
    }

    /** The sentence of the document that the next answers are about; it is printed with a wrong one. */
    void about(String newSentence) {
        sentence = newSentence.isEmpty() ? "" : "[" + newSentence + "] ";
    }

    void due(String call, int got, int want) {
        answers++;
        if (got != want) {
            wrong++;
            System.out.println(name + ": " + sentence + call + " answered " + got + ", due is " + want);
        }
    }

    void holds(String what, boolean so) {
        due(what, so ? 1 : 0, 1);
    }

    boolean hasWrong() {
        return wrong > 0;
    }

    void end() {
        System.out.println(name + ": " + answers + " answers, " + wrong + " wrong");
        if (wrong != 0) {
            System.exit(1);
        }
    }
}
