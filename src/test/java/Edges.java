/** The boundary cases: each test tells first of which sentence of the document it is. */
final class Edges {
    private final Check check = new Check();
    private final Document document = new Document();
    private String sentence = "";
    private int asked = 1;

    void terms(String quote) {
        promise(Document.TERMS, quote);
    }

    void promise(int promise, String quote) {
        check.holds("no answer is asked of: " + sentence, asked > 0);
        sentence = (promise == Document.TERMS ? "terms" : "promise " + promise) + " '" + quote + "'";
        asked = 0;
        check.holds("it stands in the document: " + sentence, document.quote(promise, quote));
    }

    void due(String call, long got, long want) {
        asked++;
        check.due(sentence + ": " + call, got, want);
    }

    /** Several answers in a row, the i-th of them for i. */
    void row(String call, int[] want, Twins.NumberedCall got) {
        for (int i = 0; i < want.length; i++) {
            due(call + " of " + i, got.of(i), want[i]);
        }
    }

    /** All of these are BAD. */
    void bad(String call, long... answers) {
        for (int i = 0; i < answers.length; i++) {
            due(call + ", wrong input " + i, answers[i], EveningPoach.BAD);
        }
    }

    void finish(String name) {
        check.holds("no answer is asked of: " + sentence, asked > 0);
        for (int p = 0; p <= Document.PROMISES; p++) {
            String left = document.unquoted(p);
            check.holds("promise " + p + " has words that no test bears: " + left, left.isEmpty());
        }
        check.finish(name);
    }
}
