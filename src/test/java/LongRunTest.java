import com.sun.management.ThreadMXBean;
import java.lang.management.ManagementFactory;
import java.util.Random;

/**
 * Whatever is called, and however often: no call ends otherwise than by an answer or by one of
 * the exceptions of its throws clause.
 */
public final class LongRunTest {
    public static void main(String[] args) {
        fullQueues();
        linesAreUsedAgain();
        beyondTheLastCall();
        wildArguments();
        Check.end();
    }

    /** As many lines as 512 calls can make of joins and leaves in the midst of a star. */
    private static void fullQueues() {
        ChatRelay x = new ChatRelay();
        for (int s = 1; s < 6; s++) {
            x.link(0, s);
        }
        x.signOn(0, 'a');
        for (int n = 0; n < 252; n++) {
            x.join(0, 1);
            x.leave(0, 1);
        }
        Check.due("lines", 5 * 505, x.lines());
        Check.due("all come", 5 * 505, x.deliverAll());
        Check.due("all is quiet", 0, x.lines());
        Check.due("all is the same", true, x.areSame(0, 5));
    }

    /** Calls, once lines have been made, make nothing more: 10,000 lines cost less than 40 would. */
    private static void linesAreUsedAgain() {
        ChatRelay x = new ChatRelay();
        for (int s = 1; s < 6; s++) {
            x.link(s - 1, s);
        }
        x.signOn(0, 'a');
        x.join(0, 0);
        x.setModes(0, 0, 1, 1);
        x.deliverAll();
        ThreadMXBean memory = (ThreadMXBean) ManagementFactory.getThreadMXBean();
        int delivered = 0;
        memory.getCurrentThreadAllocatedBytes();
        long before = memory.getCurrentThreadAllocatedBytes();
        for (int n = 0; n < 1000; n++) {
            x.setModes(0, 0, n & 15, n);
            x.setModes(0, 0, n & 15, n);
            delivered += n % 2 == 0 ? x.deliverAll() : x.split(0, 1) + x.link(0, 1) + x.deliverAll();
        }
        long bytes = memory.getCurrentThreadAllocatedBytes() - before;
        Check.due("delivered and lost", 500 * 10 + 500 * (2 + 2 + 10), delivered);
        Check.due("bytes made: " + bytes, true, bytes < 40 * 48);
    }

    /** What it answers then is free, but it still ends. */
    private static void beyondTheLastCall() {
        ChatRelay x = new ChatRelay();
        for (int s = 1; s < 6; s++) {
            x.link(0, s);
        }
        x.signOn(0, 'a');
        for (int n = 0; n < 100000; n++) {
            x.join(0, 1);
            x.leave(0, 1);
        }
        x.split(0, 1);
        x.deliverAll();
        Check.due("all is quiet", 0, x.lines());
    }

    private static void wildArguments() {
        Random random = new Random(7);
        int[] wild = {0, 1, 2, 3, 4, 5, 6, 19, 20, 31, 32, 33, -1, -2, 63, 64, Integer.MAX_VALUE,
            Integer.MIN_VALUE, 67108863, 67108864};
        for (int run = 0; run < 40; run++) {
            ChatRelay x = new ChatRelay();
            for (int n = 0; n < 1000; n++) {
                int a = wild[random.nextInt(wild.length)];
                int b = wild[random.nextInt(wild.length)];
                int c = wild[random.nextInt(wild.length)];
                int d = wild[random.nextInt(wild.length)];
                try {
                    call(x, random.nextInt(20), a, b, c, d);
                } catch (RuntimeException e) {
                    Class<?> kind = e.getClass();
                    boolean ours = kind == Check.OUT || kind == Check.ARGUMENT || kind == Check.STATE;
                    Check.due(e + " is written by a throw of the class", true,
                            ours && e.getStackTrace()[0].getClassName().equals("ChatRelay"));
                }
            }
        }
    }

    private static void call(ChatRelay x, int which, int a, int b, int c, int d) {
        switch (which) {
            case 0 -> x.link(a, b);
            case 1 -> x.split(a, b);
            case 2, 3 -> x.deliver(a, b);
            case 4 -> x.deliverAll();
            case 5 -> x.tree(a);
            case 6, 7 -> x.signOn(a, (char) (b + 'A'));
            case 8 -> x.quit(a);
            case 9, 10 -> x.join(a, b);
            case 11 -> x.leave(a, b);
            case 12 -> x.setModes(a, b, c, d);
            case 13 -> x.say(a, b);
            case 14 -> x.known(a);
            case 15 -> x.members(a, b);
            case 16 -> x.age(a, b);
            case 17 -> x.modes(a, b);
            case 18 -> x.bans(a, b);
            default -> {
                x.areSame(a, b);
                x.joinedModes(a, b, c);
            }
        }
    }
}
