/** Counts the answers of one test and tells those that are not the ones due. */
final class Check {
    private final String name;
    private String sentence = "";
    private int sentences;
    private int asked;
    private int wrong;

    Check(String name) {
        this.name = name;
    }

    /** The words of the document that the next answers belong to. */
    void sentence(String... words) {
        sentence = " \"" + String.join("\" and \"", words) + "\"";
        sentences += words.length;
    }

    void due(String what, long got, long want) {
        asked++;
        if (got != want) {
            wrong++;
            System.out.println(name + ":" + sentence + " " + what + " answered " + got + ", due is " + want);
        }
    }

    void due(String what, boolean got, boolean want) {
        due(what, got ? 1 : 0, want ? 1 : 0);
    }

    /** Ends the program with exit code 1 if an answer was wrong. */
    void end() {
        String told = sentences == 0 ? "" : sentences + " sentences, ";
        System.out.println(name + ": " + told + asked + " answers, " + wrong + " wrong");
        System.exit(wrong == 0 && asked > 0 ? 0 : 1);
    }
}
