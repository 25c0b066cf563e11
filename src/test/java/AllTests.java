import java.util.ArrayList;
import java.util.List;

/** Runs every test of the project; ends with exit code 1 if one failed. */
public final class AllTests {
    private AllTests() {
    }

    public static void main(String[] args) throws Exception {
        List<Outcome> outcomes = new ArrayList<>();
        outcomes.addAll(FaceTest.all());
        outcomes.addAll(ReadmeTest.all());
        outcomes.addAll(new Runs().all());
        outcomes.addAll(RangesTest.all());
        outcomes.addAll(ModelTest.all());
        outcomes.addAll(RoomTest.all());
        int failed = 0;
        for (Outcome outcome : outcomes) {
            if (!outcome.isPassed()) {
                failed++;
            }
            System.out.println(outcome.report());
        }
        System.out.println("own: " + (outcomes.size() - failed) + " passed, " + failed + " failed");
        if (failed > 0) {
            System.exit(1);
        }
    }
}
