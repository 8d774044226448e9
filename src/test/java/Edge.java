/** Tests of one sentence of the document, each at one of its boundaries. */
final class Edge {
    private final Sentence sentence;

    private Edge(Sentence sentence) {
        this.sentence = sentence;
    }

    static Edge of(Sentence sentence) {
        return new Edge(sentence);
    }

    Edge at(String boundary, Runnable test) {
        int before = Check.wrong();
        try {
            test.run();
        } catch (RuntimeException | StackOverflowError thrown) {
            Check.due("a call threw " + thrown + ", and", true, false);
        }
        if (Check.wrong() > before) {
            System.out.println("  that was at: " + boundary + "\n  of " + sentence + ": " + sentence.words);
        }
        return this;
    }
}
