import java.nio.file.Path;

/** Each sentence of the document, those that name a boundary case promise by promise; the tests stand in src/test/boundary. */
public final class BoundaryTest {
    private static final Class<?>[] CHAPTERS = {TextBoundaries.class, ProgramBoundaries.class, ActionBoundaries.class, PartBoundaries.class,
        ReturnBoundaries.class, RunBoundaries.class, ShrinkBoundaries.class, ObservationBoundaries.class, ImageBoundaries.class, ErrorBoundaries.class,
        PlainSentences.class};

    public static void main(String[] args) throws Exception {
        for (Class<?> chapter : CHAPTERS) {
            Sentences.runAll(chapter);
        }
        Sentences.compareWithDocument(Path.of("../shared/DOC.md"));
        int faults = Sentences.faults();
        System.out.println(Sentences.quotes() + " sentences, " + Sentences.questions() + " answers, " + faults + " faults");
        if (faults != 0) {
            System.exit(1);
        }
    }
}
