import java.nio.file.Path;

/** Runs every test of the project: the document and the program's source are its arguments. */
public final class AllTests {
    private AllTests() {
    }

    public static void main(String[] args) throws Exception {
        Report report = new Report();
        FaceTests.runAll(report, Path.of(args[0]), Path.of(args[1]));
        NatTests.runAll(report);
        PromiseTests.runAll(report);
        ModelTests.runAll(report, 1500, 1);
        report.close();
        if (report.failures() > 0) {
            System.exit(1);
        }
    }
}
