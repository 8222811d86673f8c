/** Each sentence of the document that names a boundary, by a test of its own. */
public final class BoundariesTest {
    public static void main(String[] args) {
        BoundsOfKeys.all();
        BoundsOfPartings.all();
        BoundsOfRules.all();
        BoundsOfSignatures.all();
        BoundsOfFalls.all();
        if (!Bounds.allAsDue()) {
            System.exit(1);
        }
    }
}
