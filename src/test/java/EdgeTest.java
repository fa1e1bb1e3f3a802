import java.io.IOException;

/** Every sentence of the document that names a boundary case, by a test of its own; each is named by it. */
public final class EdgeTest {
    private EdgeTest() {
    }

    public static void main(String[] args) throws IOException {
        RoadEdges.run();
        SettingEdges.run();
        TextEdges.run();
        RunEdges.run();
        CoolEdges.run();
        PayEdges.run();
        AskedAgain.run();
        Sentences.check();
        Check.end("EdgeTest");
    }
}
