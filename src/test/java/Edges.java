/** What the tests of single sentences share. */
final class Edges {
    static final Checks CHECKS = new Checks();
    static final Doc DOC = new Doc();

    private Edges() {
    }

    /** The answers behind it are due by this sentence of a promise. */
    static void promise(int number, String sentence) {
        quote(number, "promise " + number, sentence);
    }

    /** The answers behind it are due by this sentence of the Terms. */
    static void terms(String sentence) {
        quote(Doc.TERMS, "Terms", sentence);
    }

    private static void quote(int part, String name, String sentence) {
        CHECKS.about(name + ", '" + sentence + "'");
        CHECKS.due("the document says so", DOC.quote(part, sentence), true);
    }

    static Run run() {
        return new Run(CHECKS);
    }

    /** A run that begins with a SLIP of so many LINES. */
    static Run land(String slip, int lines) {
        return run().slip(slip, lines);
    }
}
