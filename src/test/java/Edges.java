/** The document sentence by sentence: each one's ordinary case, its edges and what it refuses; none is left out. */
public final class Edges {
    public static void main(String[] args) {
        TextEdges.check();
        LifeEdges.check();
        AnswerEdges.check();
        Check.finishQuoting("the document's sentences");
    }
}
