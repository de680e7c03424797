import java.util.Random;

/**
 * Sentences of the document that a reading from its first line to its last showed to have no test
 * of their own: what holds at any time, whatever has been called, and lines that outlive a split.
 */
public final class ReadingTest {
    private static final int NONE = ChatRelay.NONE;
    private static final int SERVERS = 6;
    private static final int CHANNELS = 4;
    private static final int MOST_MODES = 15;
    private static final int ALL_LETTERS = 67108863;

    /** So many trees of six servers there are: four digits from 0 to 5 tell each of them. */
    private static final int TREES = 1296;
    private static final int RUNS = 300;
    private static final int CALLS = 512;

    public static void main(String[] args) {
        askedAtAnyTime();
        whatHoldsAtAnyTime();
        ageIsThatOfSigningOn();
        ageStaysWithWhomComesBack();
        deliveredOneByOneOrUntilAllIsQuiet();
        quitOutlivesASplit();
        channelOutlivesASplit();
        leaveOutlivesASplit();
        modesOutliveASplit();
        clashOfThreeTrees();
        for (int code = 0; code < TREES; code++) {
            int[][] links = linksOfTree(code);
            sayInATree(links);
            splitOfATree(links);
        }
        Check.end();
    }

    // ---- "each server's view can be asked at any time"

    /** Of two relays that get the same calls one is asked everything between them, twice. */
    private static void askedAtAnyTime() {
        for (int seed = 0; seed < 30; seed++) {
            ChatRelay asked = new ChatRelay();
            ChatRelay quiet = new ChatRelay();
            Run one = new Run(seed);
            Run two = new Run(seed);
            for (int call = 0; call < 150; call++) {
                String first = allAnswers(asked);
                Check.due("asked again", true, first.equals(allAnswers(asked)));
                Check.due("the next call", two.next(quiet), one.next(asked));
            }
            Check.dueTwins("asked at any time, seed " + seed, asked, quiet);
        }
    }

    private static String allAnswers(ChatRelay x) {
        StringBuilder text = new StringBuilder(Check.told(x));
        for (int server = 0; server < SERVERS; server++) {
            for (int other = 0; other < SERVERS; other++) {
                text.append(' ').append(x.areSame(server, other));
                for (int channel = 0; channel < CHANNELS; channel++) {
                    text.append(' ').append(x.joinedModes(server, other, channel));
                }
            }
        }
        for (int user = 0; user < x.users(); user++) {
            for (int channel = 0; channel < CHANNELS; channel++) {
                text.append(' ').append(x.say(user, channel));
            }
        }
        return text.toString();
    }

    // ---- what the Terms say of trees, views and channels holds behind each call

    private static void whatHoldsAtAnyTime() {
        int met = 0;
        for (int seed = 0; seed < RUNS && Check.wrongSoFar() == 0; seed++) {
            ChatRelay x = new ChatRelay();
            Run run = new Run(1000 + seed);
            for (int call = 0; call < CALLS; call++) {
                run.next(x);
                treesHold(x);
                viewsHold(x, run);
                met |= answersHold(x, run);
            }
        }
        int due = (1 << 11) - 1 - (1 << NONE - ChatRelay.NOT_ELDEST);
        Check.due("13: all answers of say() were met, NONE is none of them", due, met);
    }

    /** "A tree is a server with all servers that can be reached from it over links." */
    private static void treesHold(ChatRelay x) {
        for (int server = 0; server < SERVERS; server++) {
            int tree = x.tree(server);
            Check.due("a server is in its tree", true, has(tree, server));
            for (int other = 0; other < SERVERS; other++) {
                Check.due("a tree is one for all in it", has(tree, other), x.tree(other) == tree);
            }
        }
    }

    private static void viewsHold(ChatRelay x, Run run) {
        for (int server = 0; server < SERVERS; server++) {
            int names = 0;
            for (int user = 0; user < 20; user++) {
                if (has(x.known(server), user)) {
                    Check.due("who is known has signed on", true, user < x.users());
                    Check.due("the home of who is known is in the tree", true, has(x.tree(server), run.homeOf[user]));
                    Check.due("no other user with that name is known", false, has(names, run.letterOf[user]));
                    names |= 1 << run.letterOf[user];
                }
            }
            Check.due("no other user is known", 0, x.known(server) >> 20);
            for (int channel = 0; channel < CHANNELS; channel++) {
                channelHolds(x, server, channel);
            }
        }
    }

    /** "for each channel nothing, or an age (a clock), a set of modes 0 to 15, a set of bans .." */
    private static void channelHolds(ChatRelay x, int server, int channel) {
        int members = x.members(server, channel);
        if (members == 0) {
            Check.dueNoChannel("a channel without members is gone", x, server, channel);
            return;
        }
        Check.due("a set of members, who are known users", 0, members & ~x.known(server));
        Check.due("an age (a clock)", true, x.age(server, channel) >= 0 && x.age(server, channel) < x.clock());
        Check.due("modes 0 to 15", 0, x.modes(server, channel) & ~MOST_MODES);
        Check.due("a set of letters", 0, x.bans(server, channel) & ~ALL_LETTERS);
    }

    /** Answers which answers of say() it met, as a set: the bit 0 for NOT_ELDEST. */
    private static int answersHold(ChatRelay x, Run run) {
        int met = 0;
        int server = run.random.nextInt(SERVERS);
        int other = run.random.nextInt(SERVERS);
        int channel = run.random.nextInt(CHANNELS);
        Check.due("21: the same, in all parts", sameParts(x, server, other), x.areSame(server, other));
        Check.due("22: joined", joined(x, server, other, channel), x.joinedModes(server, other, channel));
        for (int user = 0; user < x.users(); user++) {
            int home = run.homeOf[user];
            int said = x.say(user, channel);
            Check.due("13: gone is who its home does not know", !has(x.known(home), user), said == ChatRelay.IS_GONE);
            Check.due("13: not over more links than the tree has", true, said < Integer.bitCount(x.tree(home)));
            Check.due("13: a reason or a number", true, said >= ChatRelay.NOT_ELDEST && said != NONE);
            met |= 1 << said - ChatRelay.NOT_ELDEST;
            if (said >= 0 || said < ChatRelay.NO_MEMBER) {
                Check.due("13: is a member", true, has(x.members(home, channel), user));
                boolean banned = has(x.bans(home, channel), run.letterOf[user]);
                Check.due("13: banned by its name", banned, said == ChatRelay.BANNED);
            }
        }
        return met;
    }

    private static boolean sameParts(ChatRelay x, int server, int other) {
        boolean same = x.known(server) == x.known(other);
        for (int channel = 0; channel < CHANNELS; channel++) {
            same &= x.age(server, channel) == x.age(other, channel);
            same &= x.modes(server, channel) == x.modes(other, channel);
            same &= x.bans(server, channel) == x.bans(other, channel);
            same &= x.members(server, channel) == x.members(other, channel);
        }
        return same;
    }

    private static int joined(ChatRelay x, int server, int other, int channel) {
        int age = x.age(server, channel);
        int otherAge = x.age(other, channel);
        if (age == otherAge) {
            return x.modes(server, channel) | x.modes(other, channel);
        }
        boolean first = age != NONE && (otherAge == NONE || age < otherAge);
        return x.modes(first ? server : other, channel);
    }

    private static boolean has(int set, int bit) {
        return (set >> bit & 1) == 1;
    }

    // ---- "A user has a home server and an age, the clock at which it signed on"

    /** Neither when it joins, nor when it is heard of, nor its name, nor its home counts. */
    private static void ageIsThatOfSigningOn() {
        int[][] homes = {{0, 1}, {1, 0}};
        for (int[] home : homes) {
            ChatRelay x = new ChatRelay();
            int old = x.signOn(home[0], 'y');
            int young = x.signOn(home[1], 'x');
            x.join(young, 0);
            x.link(0, 1);
            x.deliverAll();
            x.join(old, 0);
            x.deliverAll();
            x.setModes(young, 0, 1, 0);
            x.deliverAll();
            Check.due("who signed on first is the eldest", 1, x.say(old, 0));
            Check.due("not who joined first", ChatRelay.NOT_ELDEST, x.say(young, 0));
        }
        ChatRelay y = new ChatRelay();
        y.signOn(0, 'n');
        y.link(2, 1);
        y.signOn(2, 'N');
        y.deliverAll();
        y.join(1, 0);
        y.deliverAll();
        y.link(0, 1);
        y.deliverAll();
        Check.due("who signed on first stays, though heard of last", 1, y.known(0) & y.known(1) & y.known(2));
        Check.due("and no other", 1, y.known(0) | y.known(1) | y.known(2));
    }

    private static void ageStaysWithWhomComesBack() {
        ChatRelay x = new ChatRelay();
        x.link(0, 1);
        x.link(1, 2);
        x.signOn(0, 'a');
        x.deliver(0, 1);
        x.split(0, 1);
        x.quit(0);
        x.signOn(3, 'A');
        x.link(0, 2);
        x.deliver(1, 2);
        x.deliver(2, 0);
        Check.due("its old USER comes to its home", 1, x.known(0));
        x.link(0, 3);
        x.deliver(0, 3);
        Check.due("its age is still that of signing on", 1, x.known(3));
        Check.due("the other one is the younger", ChatRelay.IS_GONE, x.say(1, 0));
    }

    // ---- "lines are delivered one by one or until all is quiet"

    /** Where nothing clashes, both come to the same views, but for the clock. */
    private static void deliveredOneByOneOrUntilAllIsQuiet() {
        ChatRelay one = story();
        ChatRelay all = story();
        int waiting = one.lines();
        int delivered = 0;
        for (int pass = 0; pass < 100 && waiting > 0; pass++) {
            for (int server = SERVERS - 1; server > 0; server--) {
                while (anyLine(one, server, server - 1)) {
                    delivered++;
                }
                while (anyLine(one, server - 1, server)) {
                    delivered++;
                }
            }
            waiting = one.lines();
        }
        Check.due("as many lines", all.deliverAll(), delivered);
        Check.due("one by one the clock grows by each", all.clock() - 1 + delivered, one.clock());
        for (int server = 0; server < SERVERS; server++) {
            Check.due("known", 63, one.known(server) & all.known(server));
            Check.due("the same in one tree", true, one.areSame(0, server) && all.areSame(0, server));
            for (int channel = 0; channel < CHANNELS; channel++) {
                Check.dueChannel("either way", one, server, channel, all.age(server, channel),
                        all.modes(server, channel), all.bans(server, channel), all.members(server, channel));
            }
        }
    }

    private static ChatRelay story() {
        ChatRelay x = new ChatRelay();
        for (int server = 0; server < SERVERS; server++) {
            x.signOn(server, (char) ('a' + server));
            x.join(server, server % 2);
        }
        for (int server = 1; server < SERVERS; server++) {
            x.link(server - 1, server);
        }
        return x;
    }

    private static boolean anyLine(ChatRelay x, int from, int to) {
        try {
            x.deliver(from, to);
            return true;
        } catch (IllegalStateException none) {
            return false;
        }
    }

    // ---- "When a link is split, the lines in its queues are gone": but not those that have passed it

    /** a and b of 0 in the channel 2 of the age 4, known on 0-1-2-3, where c of 3 is a member too. */
    private static ChatRelay path() {
        ChatRelay x = new ChatRelay();
        x.link(0, 1);
        x.link(1, 2);
        x.link(2, 3);
        x.signOn(0, 'a');
        x.join(0, 2);
        x.signOn(3, 'c');
        x.deliverAll();
        x.join(1, 2);
        x.deliverAll();
        return x;
    }

    private static void quitOutlivesASplit() {
        ChatRelay x = path();
        x.quit(0);
        x.deliver(0, 1);
        Check.due("QUIT from 1 to 2 stays", 0, x.split(0, 1));
        Check.due("6: it alone waits", 1, x.lines());
        Check.due("but 2 has forgotten the user", 2, x.known(2));
        Check.due("so that it does not go on", 0, x.deliver(1, 2));
    }

    private static void channelOutlivesASplit() {
        ChatRelay x = path();
        x.leave(1, 2);
        x.deliverAll();
        x.leave(0, 2);
        x.deliverAll();
        x.join(0, 2);
        x.deliver(0, 1);
        x.split(0, 1);
        x.join(1, 2);
        int age = x.age(3, 2);
        Check.due("CHANNEL from 1 to 2 stays, and that of c", 2, x.lines());
        Check.due("its age is the lesser one", true, x.age(0, 2) < age);
        Check.due("CHANNEL goes on, though nobody in it is known", 2, x.deliver(1, 2));
        Check.dueNoChannel("it makes no channel", x, 2, 2);
        Check.due("it ends at 3", 1, x.deliver(2, 3));
        Check.dueChannel("and leaves what is there", x, 3, 2, age, 0, 0, 2);
    }

    private static void leaveOutlivesASplit() {
        ChatRelay x = path();
        x.setModes(0, 2, 6, 64);
        x.deliverAll();
        x.leave(0, 2);
        x.deliver(0, 1);
        x.split(0, 1);
        Check.dueChannel("c is left by the split", x, 2, 2, 4, 6, 64, 2);
        Check.due("LEAVE goes on, though the user is not known", 1, x.deliver(1, 2));
        Check.dueChannel("and leaves what is there", x, 2, 2, 4, 6, 64, 2);
        Check.due("it ends at 3", 0, x.deliver(2, 3));
        Check.dueChannel("there too", x, 3, 2, 4, 6, 64, 2);
    }

    /** MODES tells of no user: that of one in another tree is done wherever the age is the same. */
    private static void modesOutliveASplit() {
        ChatRelay x = path();
        x.setModes(0, 2, 9, 1 << 25);
        x.deliver(0, 1);
        x.split(0, 1);
        Check.dueChannel("not done yet", x, 2, 2, 4, 0, 0, 2);
        Check.due("MODES goes on", 1, x.deliver(1, 2));
        Check.dueChannel("done at 2", x, 2, 2, 4, 9, 1 << 25, 2);
        Check.due("MODES ends", 0, x.deliver(2, 3));
        Check.dueChannel("done at 3", x, 3, 2, 4, 9, 1 << 25, 2);
        Check.due("c alone is the eldest then", 0, x.say(1, 2));
    }

    // ---- "names that clash and channels that differ are settled by their ages"

    /** Three trees, each with an n of its own and a channel 3 of its own; joined in each order. */
    private static void clashOfThreeTrees() {
        int[][] orders = {{0, 2, 2, 4}, {2, 4, 0, 2}, {0, 4, 2, 4}, {4, 2, 4, 0}, {0, 2, 0, 4}, {1, 3, 3, 5},
            {5, 1, 1, 3}};
        for (int[] order : orders) {
            ChatRelay x = new ChatRelay();
            for (int tree = 0; tree < 3; tree++) {
                x.link(2 * tree, 2 * tree + 1);
                x.signOn(2 * tree, tree % 2 == 0 ? 'n' : 'N');
                x.signOn(2 * tree + 1, (char) ('p' + tree));
                x.deliverAll();
                x.join(2 * tree, 3);
                x.deliverAll();
                x.join(2 * tree + 1, 3);
                x.setModes(2 * tree + 1, 3, 2 + 4 * tree, 1 << tree);
                x.deliverAll();
            }
            int age = x.age(0, 3);
            x.link(order[0], order[1]);
            x.link(order[2], order[3]);
            x.deliverAll();
            for (int server = 0; server < SERVERS; server++) {
                Check.due("the eldest n and all others", 1 | 2 | 8 | 32, x.known(server));
                Check.dueChannel("the channel of the least age", x, server, 3, age, 2, 1, 1 | 2 | 8 | 32);
            }
        }
    }

    // ---- each tree that six servers can be

    /** The tree of four digits: the least end is linked to the server of the first digit, and cut off. */
    private static int[][] linksOfTree(int code) {
        int[] digits = {code % 6, code / 6 % 6, code / 36 % 6, code / 216};
        int[] degree = {1, 1, 1, 1, 1, 1};
        for (int digit : digits) {
            degree[digit]++;
        }
        int[][] links = new int[SERVERS - 1][];
        for (int n = 0; n < digits.length; n++) {
            int end = nextEnd(degree, 0);
            links[n] = new int[] {end, digits[n]};
            degree[end]--;
            degree[digits[n]]--;
        }
        int end = nextEnd(degree, 0);
        links[SERVERS - 2] = new int[] {end, nextEnd(degree, end + 1)};
        return links;
    }

    private static int nextEnd(int[] degree, int from) {
        int end = from;
        while (degree[end] != 1) {
            end++;
        }
        return end;
    }

    private static ChatRelay oneUserEach(int[][] links) {
        ChatRelay x = new ChatRelay();
        for (int[] link : links) {
            x.link(link[0], link[1]);
        }
        for (int server = 0; server < SERVERS; server++) {
            x.signOn(server, (char) ('a' + server));
        }
        x.deliverAll();
        return x;
    }

    /** The servers on the side of one end of a link. */
    private static int side(int[][] links, int without, int end) {
        int side = 1 << end;
        for (int pass = 0; pass < SERVERS; pass++) {
            for (int n = 0; n < links.length; n++) {
                int both = 1 << links[n][0] | 1 << links[n][1];
                side |= n != without && (side & both) != 0 ? both : 0;
            }
        }
        return side;
    }

    /**
     * "towards each server in its tree at which some other member of the channel is at home .. over
     * each link once": each set of members, one joining or leaving from each to the next. A link
     * is on the way from one member to the others when it has members on both sides.
     */
    private static void sayInATree(int[][] links) {
        ChatRelay x = oneUserEach(links);
        int members = 0;
        for (int step = 1; step < 1 << SERVERS; step++) {
            int user = Integer.numberOfTrailingZeros(step);
            members ^= 1 << user;
            if (has(members, user)) {
                x.join(user, 1);
            } else {
                x.leave(user, 1);
            }
            x.deliverAll();
            int due = 0;
            for (int n = 0; n < links.length; n++) {
                int side = side(links, n, links[n][0]);
                due += (members & side) != 0 && (members & ~side) != 0 ? 1 : 0;
            }
            int first = Integer.numberOfTrailingZeros(members);
            int last = 31 - Integer.numberOfLeadingZeros(members);
            Check.due("13: by the first member", due, x.say(first, 1));
            Check.due("13: by the last member", due, x.say(last, 1));
        }
    }

    /** Each link of the tree is split, and made again. */
    private static void splitOfATree(int[][] links) {
        ChatRelay x = oneUserEach(links);
        for (int n = 0; n < links.length; n++) {
            Check.due("3: all is quiet", 0, x.split(links[n][1], links[n][0]));
            for (int server = 0; server < SERVERS; server++) {
                int side = side(links, n, server);
                Check.due("7: the tree", side, x.tree(server));
                Check.due("16: the users of the tree are known", side, x.known(server));
            }
            Check.due("2: one line for each user", SERVERS, x.link(links[n][0], links[n][1]));
            x.deliverAll();
            for (int server = 0; server < SERVERS; server++) {
                Check.due("16: all are known again", 63, x.known(server));
                Check.due("7: one tree again", 63, x.tree(server));
            }
        }
    }

    /** Calls that change things, the same ones for the same seed; the taken ones are most of them. */
    private static final class Run {
        final Random random;
        final int[] homeOf = new int[20];
        final int[] letterOf = new int[20];
        private final int letters;

        Run(int seed) {
            random = new Random(seed);
            letters = 2 + random.nextInt(12);
        }

        /** What the next call answers, or -9 for one that is refused. */
        int next(ChatRelay x) {
            try {
                return call(x, random.nextInt(40), random.nextInt(SERVERS), random.nextInt(SERVERS),
                        random.nextInt(20), random.nextInt(CHANNELS));
            } catch (IllegalStateException | IndexOutOfBoundsException refused) {
                return -9;
            }
        }

        private int call(ChatRelay x, int which, int server, int other, int user, int channel) {
            if (which < 4) {
                return x.link(server, other);
            }
            if (which < 5) {
                return x.split(server, other);
            }
            if (which < 20) {
                return x.deliver(server, other);
            }
            if (which < 21) {
                return x.deliverAll();
            }
            if (which < 24) {
                return signOn(x, server, random.nextInt(letters));
            }
            if (which < 25) {
                x.quit(user);
                return 0;
            }
            if (which < 33) {
                return x.join(user, channel);
            }
            if (which < 35) {
                x.leave(user, channel);
                return 0;
            }
            return x.setModes(user, channel, random.nextInt(16), random.nextInt(1 << letters) & random.nextInt());
        }

        private int signOn(ChatRelay x, int server, int letter) {
            int user = x.signOn(server, (char) ((random.nextBoolean() ? 'a' : 'A') + letter));
            homeOf[user] = server;
            letterOf[user] = letter;
            return user;
        }
    }
}
