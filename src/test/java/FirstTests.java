/** Promise 1. */
public final class FirstTests {
    public static void main(String[] args) {
        Checks c = new Checks();
        BellPulls x = new BellPulls();
        for (int what = 0; what <= 14; what++) {
            c.due("count " + what, x.count(what), 0);
        }
        c.end("FirstTests");
    }
}
