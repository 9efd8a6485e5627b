import com.sun.management.ThreadMXBean;
import java.lang.management.ManagementFactory;
import java.util.Random;

/** The fullest drawer: its answers, and how much room a run of 512 calls on it takes. */
public final class RoomTest {
    // Far below the room of a run: 600,000 objects, 7.3 million fields and elements.
    private static final long BYTES_MOST = 4_000_000;

    public static void main(String[] args) {
        ThreadMXBean bean = (ThreadMXBean) ManagementFactory.getThreadMXBean();
        long before = bean.getCurrentThreadAllocatedBytes();
        SlipDrawer x = new SlipDrawer();
        int calls = fill(x);
        int most = 0;
        for (int i = 0; calls < 512; i++) {
            x.say(i % 12, i % 4, i);
            most = Math.max(most, x.takings(i % 12));
            x.note(i % 12);
            x.next();
            x.better(i % 4, (i + 1) % 4);
            x.lean(i % 12, i % 4, i % 9, true);
            x.image();
            if (i % 8 == 0) {
                x.feed(0x6e6f6e65, 0x2031206f, 0, 0, 0);
                x.end(6);
                x.ear();
                calls += 3;
            }
            calls += 7;
        }
        long bytes = bean.getCurrentThreadAllocatedBytes() - before;
        System.out.println("takings of a full row: " + most + "; bytes taken by a full run: " + bytes);
        boolean full = fullest();
        if (!full || bytes > BYTES_MOST || most < 300) {
            System.out.println("too much room, or a drawer that is not full");
            System.exit(1);
        }
    }

    private static int fill(SlipDrawer x) {
        int calls = 0;
        for (int i = 0; i < 30; i++) {
            // ba.. with two letters of which one or both differ: all near or akin
            x.feed('b' << 24 | 'a' << 16 | ('a' + i % 26) << 8 | 'a' + i / 26, 0, 0, 0, 0);
            x.end(4);
            x.word(0, 0, 1 + i);
            calls += 3;
        }
        for (int i = 0; i < 12; i++) {
            x.row(i, i + 1, i + 2, i + 3, i + 4, i + 5);
            calls++;
        }
        byte[] text = "none 9 when all; blend often * 2 - own when far < 3; near often when all; sense 5 when real;".getBytes();
        for (int k = 0; k < 4; k++) {
            for (int from = 0; from < text.length; from += 20) {
                int[] n = new int[5];
                for (int i = 0; i < 20; i++) {
                    n[i / 4] = n[i / 4] << 8 | (from + i < text.length ? text[from + i] : 32);
                }
                x.feed(n[0], n[1], n[2], n[3], n[4]);
                calls++;
            }
            x.making(k);
            calls++;
        }
        return calls;
    }

    /** 30 words with onsets unlike in the row, all of one sort and sense, all one sound apart. */
    private static boolean fullest() {
        Pair pair = new Pair();
        Random random = new Random(1);
        String vowels = "aeiou";
        for (int i = 0; i < 30; i++) {
            String onset = String.valueOf("bcdfgh".charAt(i % 6));
            pair.word(onset + vowels.charAt(i / 6), 3, 3, 1 + random.nextInt(99));
        }
        pair.row(0, 7, 14, 21, 28, 5);
        int many = pair.call("takings", 0);
        Texts texts = new Texts(random);
        pair.making(0, texts.sound(12));
        pair.making(1, "none 1 when all; early gap when all; swap 7 when all; trade 1 when all;"
            + "blend often when all; near own when all; sense 3 when sort = 1; lost 4 when all;");
        pair.call("apart", 0, 0, 1);
        pair.call("next");
        pair.call("weight", 0, -1, 1);
        for (int k = 0; k < many; k += 5) {
            pair.call("tell", 0, k);
            pair.call("ways", 0, -1);
            pair.call("odds", 0, 1, true);
        }
        System.out.println("takings of the fullest row: " + many);
        return pair.wrong == 0 && many > 400;
    }
}
