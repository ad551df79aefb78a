import java.io.IOException;
import java.nio.file.Path;

/** Every sentence of the document, from "What it is" to "Not promised", with a test of its own. */
public final class BoundsTest {
    public static void main(String[] args) throws IOException {
        Sentences told = new Sentences(Path.of("../shared/DOC.md"));
        TermsBounds.all(told);
        CollectionBounds.all(told);
        RoomBounds.all(told);
        MakingBounds.all(told);
        HoldingBounds.all(told);
        TellingBounds.all(told);
        LimitsBounds.all(told);
        told.end();
    }
}
