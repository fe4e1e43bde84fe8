/** Each sentence of the document that names a boundary case, in a run of calls of its own. */
public final class EdgeTests {
    public static void main(String[] args) {
        TextEdges.play();
        RoundEdges.play();
        QuestionEdges.play();
        System.out.println(Edges.wrong == 0 ? Edges.edges + " edges hold" : Edges.wrong + " answers at the edges are wrong");
        if (Edges.wrong != 0) {
            System.exit(1);
        }
    }
}
