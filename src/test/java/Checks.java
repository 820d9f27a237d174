/** Compares answers with those that are due, and ends the program accordingly. */
final class Checks {
    private String sentence = "";
    private int done;
    private int wrong;

    /** The words of the document that the next answers are held against. */
    void sentence(String words) {
        sentence = words;
    }

    void due(String what, Object got, Object want) {
        done++;
        if (!want.equals(got)) {
            wrong++;
            System.out.println((sentence.isEmpty() ? "" : "\"" + sentence + "\": ")
                + what + ": answered " + got + ", due is " + want);
        }
    }

    void end(String test) {
        System.out.println(test + ": " + done + " answers looked at, " + wrong + " not as due");
        if (wrong != 0 || done == 0) {
            System.exit(1);
        }
    }
}
