/** Tests of edges: what they share, and the ranges of arguments for an object made by Whole.some(). */
abstract class Edges {
    static final int[] WORD = Edge.to(0, 3);
    static final int[] LAW = Edge.to(0, 1);
    static final int[] HISTORY = Edge.to(0, 1);
    static final int[] YEAR = Edge.to(0, 600);
    static final int[] PLACE = Edge.to(0, 5);
    static final int[] POET = Edge.to(0, 5);
    /** What 0 or 1: the least or the greatest. */
    static final int[] END = Edge.to(0, 1);

    final Edge edge;

    Edges(Edge edge) {
        this.edge = edge;
    }

    abstract void run();
}
