/** The whole document, sentence by sentence, each beside its own words; Says tells which words no test has quoted. */
public final class EdgeTest {
    private EdgeTest() {
    }

    public static void main(String[] args) throws java.io.IOException {
        Says.begin();
        EdgesOfText.all();
        EdgesOfRolls.all();
        EdgesOfOdds.all();
        EdgesOfStillness.all();
        EdgesOfCalls.all();
        EdgesOfQuestions.all();
        EdgesOfImages.all();
        EdgesOfFull.all();
        Says.finish();
        Check.finish("EdgeTest");
    }
}
