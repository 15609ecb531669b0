import java.nio.file.Files;
import java.nio.file.Path;

/** Runs every test of the project: the document, the program's source and README.md are its arguments. */
public final class AllTests {
    private AllTests() {
    }

    public static void main(String[] args) throws Exception {
        Report report = new Report();
        FaceTests.runAll(report, Path.of(args[0]), Path.of(args[1]));
        ReadmeTests.runAll(report, Path.of(args[2]));
        NatTests.runAll(report);
        LawTests.runAll(report);
        PromiseTests.runAll(report);
        boundaries(report, new Sentences(Files.readString(Path.of(args[0]))));
        ModelTests.runAll(report, 1500, 1);
        report.close();
        if (report.failures() > 0) {
            System.exit(1);
        }
    }

    /** Every sentence of the document must be quoted by one of these tests. */
    private static void boundaries(Report report, Sentences sentences) {
        TermBoundaries.runAll(report, sentences);
        MoreTermBoundaries.runAll(report, sentences);
        PromiseBoundaries.runAll(report, sentences);
        MorePromiseBoundaries.runAll(report, sentences);
        report.check("sections of the document", sentences.count(), 60);
        for (String words : sentences.unquoted()) {
            report.check("a sentence without a test: " + words, false, true);
        }
    }
}
