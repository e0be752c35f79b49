/** The face stands. */
public final class SmokeTest {
    public static void main(String[] args) {
        Check check = new Check("smoke");
        check.due("NONE", -1, SleepWaves.NONE);
        check.due("count(0)", 0, new SleepWaves().count(0));
        check.end();
    }
}
