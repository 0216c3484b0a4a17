import java.lang.management.ManagementFactory;
import java.util.Random;

/** A run's calls live in one room, where nothing is given back: what a long run makes has to stay small. */
public final class RoomTest {
    private static final com.sun.management.ThreadMXBean THREADS =
        (com.sun.management.ThreadMXBean) ManagementFactory.getThreadMXBean();

    public static void main(String[] args) {
        dearest(3);
        long made = dearest(4);
        Due.due("a run of 512 calls makes less than 2 MB (" + made + ")", made < 2_000_000, true);
        objects(10);
        long objects = objects(512);
        Due.due("512 objects take less than 16 MB (" + objects + ")", objects < 16_000_000, true);
        Due.end("RoomTest");
    }

    private static long allocated() {
        return THREADS.getThreadAllocatedBytes(Thread.currentThread().getId());
    }

    private static long objects(int n) {
        long before = allocated();
        for (int i = 0; i < n; i++) {
            new PlaneBench(16).begin();
        }
        return allocated() - before;
    }

    /** Words of the text, five for each feed, made ahead so that they do not count. */
    private static int[] words(String text) {
        int[] words = new int[(text.length() + 19) / 20 * 5];
        for (int i = 0; i < words.length * 4; i++) {
            words[i / 4] = words[i / 4] << 8 | (i < text.length() ? text.charAt(i) : ' ');
        }
        return words;
    }

    private static long dearest(int seed) {
        Random r = new Random(seed);
        StringBuilder text = new StringBuilder();
        for (int i = 0; i < 3; i++) {
            for (int n = 1; n <= 16; n++) {
                text.append(1000 + r.nextInt(9000)).append('x').append(n).append(' ');
            }
            text.append("= 40000 ;");
        }
        int[] problem = words(text.toString());
        int[] steps = words("p 1 99999999999999999999 * 3 d ;".repeat(60));
        long before = allocated();
        PlaneBench x = new PlaneBench(16);
        int calls = 0;
        while (calls < 512) {
            calls += feed(x, problem);
            x.load();
            calls += feed(x, steps);
            x.check();
            x.begin();
            x.run(500);
            x.run(500);
            calls += 5;
        }
        return allocated() - before;
    }

    private static int feed(PlaneBench x, int[] words) {
        for (int i = 0; i < words.length; i += 5) {
            x.feed(words[i], words[i + 1], words[i + 2], words[i + 3], words[i + 4]);
        }
        return words.length / 5;
    }
}
