/** Promises 1 to 33, and the Terms that they are told in: each sentence of the document with what is due by it. */
public final class SentencesTest {
    public static void main(String[] args) throws Exception {
        Sentences s = new Sentences();
        new TermsOfTexts(s).hold();
        new TermsOfDeals(s).hold();
        new TermsOfBundles(s).hold();
        new TermsOfLaws(s).hold();
        new PromisesOfTexts(s).hold();
        new PromisesOfBundles(s).hold();
        new PromisesOfSets(s).hold();
        s.end();
    }
}
