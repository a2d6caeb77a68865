import java.io.IOException;
import java.util.List;

/** Every sentence of the document has a test that names its words; run from the project's folder. */
public final class SentencesTest {
    private SentencesTest() {
    }

    public static void main(String[] args) throws IOException {
        Sentences sentences = new Sentences();
        List<SentenceGroup> groups = List.of(
            new Ordinary(sentences),
            new DepotEdges(sentences),
            new TextEdges(sentences),
            new DoneEdges(sentences),
            new ComingEdges(sentences),
            new SightEdges(sentences),
            new SleepEdges(sentences),
            new KindEdges(sentences));
        groups.forEach(SentenceGroup::all);
        sentences.end();
    }
}
