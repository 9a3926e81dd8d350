/** All promises together: runs of 512 calls, each answer held against a log of writes. */
public final class LongRunsTest {
    private static final int RUNS = 100;
    private static final int CALLS = 512;

    public static void main(String[] args) {
        for (int run = 0; run < RUNS; run++) {
            HiddenCaches x = new HiddenCaches(run - 3);
            WriteLog log = new WriteLog();
            Numbers numbers = new Numbers(run);
            for (int i = 0; i < CALLS; i++) {
                Calls call = Calls.any(numbers);
                Due.is("run " + run + ", call " + i + ": " + call, call.on(x), call.on(log));
            }
        }
        Due.end();
    }
}
