/** Every sentence of the document that names a boundary: the last that is taken, the first that is not. */
public final class EdgeTest {
    private EdgeTest() {
    }

    public static void main(String[] args) {
        TermsEdges.all();
        BeyondEdges.all();
        FullEdges.all();
        CallEdges.all();
        RowingEdges.all();
        SightEdges.all();
        SeatingEdges.all();
        WitnessEdges.all();
        Checks.finish();
    }
}
