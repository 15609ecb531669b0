/** Counts what passed and what failed, and tells the failures. */
final class Report {
    private int passed;
    private int failed;

    void check(String what, Object got, Object due) {
        if (due.equals(got)) {
            passed++;
        } else {
            failed++;
            System.out.println(what + ": got " + got + ", due is " + due);
        }
    }

    int failures() {
        return failed;
    }

    /** The closing line, which the workplace reads. */
    void close() {
        System.out.println(passed + " passed, " + failed + " failed");
    }
}
