import java.util.ArrayList;
import java.util.List;
import java.util.Random;
import java.util.function.ToIntFunction;

/** Runs of 512 calls, the same ones at each start, on ChatRelay and on PlainRelay: all answers are compared. */
public final class RandomRunsTest {
    private static final int RUNS = 1500;
    private static final int CALLS = 512;

    /** One call, for both. */
    record Both(String text, ToIntFunction<ChatRelay> here, ToIntFunction<PlainRelay> there) {
    }

    private final Random random;
    private final int servers;
    private final int letters;
    private final int channels;
    private final int rush;

    private RandomRunsTest(int seed) {
        random = new Random(seed);
        servers = 2 + random.nextInt(5);
        letters = 1 + random.nextInt(seed % 3 == 0 ? 3 : 26);
        channels = 1 + random.nextInt(4);
        rush = random.nextInt(4);
    }

    public static void main(String[] args) {
        for (int seed = 1; seed <= RUNS && Check.wrongSoFar() == 0; seed++) {
            new RandomRunsTest(seed).run(seed);
        }
        Check.end();
    }

    private void run(int seed) {
        ChatRelay here = new ChatRelay();
        PlainRelay there = new PlainRelay();
        List<String> calls = new ArrayList<>();
        for (int n = 0; n < CALLS; n++) {
            Both call = next();
            calls.add(call.text);
            String got = answer(() -> call.here.applyAsInt(here));
            String want = answer(() -> call.there.applyAsInt(there));
            Check.due("same answer", true, got.equals(want));
            if (!got.equals(want) || !sameState(here, there)) {
                Check.report("seed " + seed + ": " + calls + " answered " + got + ", due is " + want);
                Check.report("state here:  " + Check.told(here));
                return;
            }
        }
    }

    private static String answer(java.util.function.IntSupplier call) {
        try {
            return "" + call.getAsInt();
        } catch (RuntimeException e) {
            return e.getClass().getName();
        }
    }

    /** Asked of the fields that calls change; each asking of both counts as no call here. */
    private static boolean sameState(ChatRelay here, PlainRelay there) {
        boolean same = here.clock() == there.clock() && here.lines() == there.lines() && here.users() == there.users();
        for (int s = 0; s < 6; s++) {
            same &= here.known(s) == there.known(s) && here.tree(s) == there.tree(s);
            for (int c = 0; c < 4; c++) {
                same &= here.members(s, c) == there.members(s, c) && here.age(s, c) == there.age(s, c)
                        && here.modes(s, c) == there.modes(s, c) && here.bans(s, c) == there.bans(s, c);
            }
        }
        return same;
    }

    private int odd(int usual, int bound) {
        int dice = random.nextInt(60);
        if (dice == 0) {
            return bound;
        }
        if (dice == 1) {
            return -1;
        }
        if (dice == 2) {
            return random.nextInt();
        }
        return random.nextInt(usual);
    }

    private int server() {
        return odd(servers, 6);
    }

    private int channel() {
        return odd(channels, 4);
    }

    private int user() {
        return odd(20, 20);
    }

    private char name() {
        if (random.nextInt(40) == 0) {
            return (char) random.nextInt(300);
        }
        return (char) ((random.nextBoolean() ? 'a' : 'A') + random.nextInt(letters));
    }

    private int bans() {
        int dice = random.nextInt(20);
        if (dice == 0) {
            return random.nextInt();
        }
        if (dice < 8) {
            return 0;
        }
        return random.nextInt(1 << 26) & random.nextInt(1 << 26) & (dice < 14 ? 7 : -1);
    }

    private Both next() {
        int a = server();
        int b = server();
        int u = user();
        int c = channel();
        int dice = random.nextInt(100);
        if (dice < 6) {
            return new Both("link " + a + ' ' + b, x -> x.link(a, b), y -> y.link(a, b));
        }
        if (dice < 8 || dice < 9 && rush == 0) {
            return new Both("split " + a + ' ' + b, x -> x.split(a, b), y -> y.split(a, b));
        }
        if (dice < 40) {
            return new Both("deliver " + a + ' ' + b, x -> x.deliver(a, b), y -> y.deliver(a, b));
        }
        if (dice < 40 + rush) {
            return new Both("deliverAll", x -> x.deliverAll(), y -> y.deliverAll());
        }
        if (dice < 48) {
            char name = name();
            return new Both("signOn " + a + ' ' + (int) name, x -> x.signOn(a, name), y -> y.signOn(a, name));
        }
        if (dice < 50) {
            return new Both("quit " + u, x -> {
                x.quit(u);
                return 0;
            }, y -> y.quit(u));
        }
        if (dice < 66) {
            return new Both("join " + u + ' ' + c, x -> x.join(u, c), y -> y.join(u, c));
        }
        if (dice < 71) {
            return new Both("leave " + u + ' ' + c, x -> {
                x.leave(u, c);
                return 0;
            }, y -> y.leave(u, c));
        }
        if (dice < 82) {
            int modes = random.nextInt(15) == 0 ? random.nextInt(40) - 20 : random.nextInt(16);
            int bans = bans();
            return new Both("setModes " + u + ' ' + c + ' ' + modes + ' ' + bans,
                    x -> x.setModes(u, c, modes, bans), y -> y.setModes(u, c, modes, bans));
        }
        return question(a, b, u, c);
    }

    private Both question(int a, int b, int u, int c) {
        switch (random.nextInt(6)) {
            case 0:
                return new Both("areSame " + a + ' ' + b, x -> x.areSame(a, b) ? 1 : 0, y -> y.areSame(a, b));
            case 1:
                return new Both("joinedModes " + a + ' ' + b + ' ' + c,
                        x -> x.joinedModes(a, b, c), y -> y.joinedModes(a, b, c));
            case 2:
                return new Both("members " + a + ' ' + c, x -> x.members(a, c), y -> y.members(a, c));
            default:
                return new Both("say " + u + ' ' + c, x -> x.say(u, c), y -> y.say(u, c));
        }
    }
}
