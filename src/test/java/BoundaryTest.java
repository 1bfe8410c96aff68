/** Each sentence of the document with what it says of a boundary: the last that is taken, the first that is not. */
public final class BoundaryTest {
    public static void main(String[] args) {
        Sentences s = new Sentences();
        new TextEdges(s).ask();
        new ActEdges(s).ask();
        new QuestionEdges(s).ask();
        new HearsayEdges(s).ask();
        s.close();
    }
}
