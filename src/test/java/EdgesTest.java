import java.io.IOException;
import java.nio.file.Path;

/** Each sentence of the document with its boundary cases; ../shared, or -Dshared, is where the document is. */
public final class EdgesTest {
    public static void main(String[] args) throws IOException {
        Edges.readDocument(Path.of(System.getProperty("shared", "../shared"), "DOC.md"));
        IslandEdges.run();
        VolumeEdges.run();
        TextEdges.run();
        WalkEdges.run();
        OverEdges.run();
        KnowingEdges.run();
        VoiceEdges.run();
        SheetEdges.run();
        ToldEdges.run();
        Edges.askAllWords();
        Script.end();
    }
}
