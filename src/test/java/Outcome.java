/** What one test found: nothing, if it passed. */
final class Outcome {
    private final String title;
    private final StringBuilder faults = new StringBuilder();

    Outcome(String title) {
        this.title = title;
    }

    void fault(String text) {
        faults.append("  ").append(text).append('\n');
    }

    void same(String what, Object got, Object want) {
        if (!want.equals(got)) {
            fault(what + " is " + got + ", due is " + want);
        }
    }

    boolean isPassed() {
        return faults.length() == 0;
    }

    String report() {
        return isPassed() ? "passed: " + title : "FAILED: " + title + "\n" + faults;
    }
}
