/**
 * A chat relay of six linked servers. Every server has a view of its own of the users and
 * channels; what happens in one view travels to the others as lines in the queues of the links.
 */
public final class ChatRelay {
    public static final int NONE = -1;
    public static final int IS_GONE = -2, NO_MEMBER = -3, BANNED = -4, NOT_ELDEST = -5;

    private static final int SERVERS = 6;
    private static final int CHANNELS = 4;
    private static final int MOST_USERS = 20;
    private static final int MOST_MODES = 15;
    private static final int MOST_BANS = 67108863;
    /** The bit of the modes that leaves a channel to its eldest member. */
    private static final int ELDEST_ALONE = 0;

    /**
     * Above what 512 calls can leave in the queues: a call adds 8 lines at the most, the bursts
     * of five links 240, and delivering makes at most 30 lines of one: (512 * 8 + 240) * 30.
     */
    private static final int MOST_LINES = 150000;
    private static final int MOST_ROUNDS = 1000000;

    private static final int USER = 0;
    private static final int QUIT = 1;
    private static final int CHANNEL = 2;
    private static final int LEAVE = 3;
    private static final int MODES = 4;

    private final View[] views = new View[SERVERS];
    private final Wires wires = new Wires();
    private final int[] homeOf = new int[MOST_USERS];
    private final int[] letterOf = new int[MOST_USERS];
    private final int[] ageOf = new int[MOST_USERS];
    /** The line that is told next; a queue takes a copy, so that one is enough for all calls. */
    private final Line draft = new Line();
    private int signedOn = 0;
    private int now = 0;

    public ChatRelay() {
        for (int server = 0; server < SERVERS; server++) {
            views[server] = new View();
        }
    }

    // ---- links

    public int link(int server, int other) throws IndexOutOfBoundsException, IllegalStateException {
        checkServer(server);
        checkServer(other);
        if (has(wires.treeOf(server), other)) {
            throw new IllegalStateException("both are in one tree");
        }
        int before = wires.waiting;
        wires.connect(server, other);
        burst(server, other);
        burst(other, server);
        now++;
        return wires.waiting - before;
    }

    public int split(int server, int other) throws IndexOutOfBoundsException, IllegalStateException {
        checkServer(server);
        checkServer(other);
        if (!wires.haveLink(server, other)) {
            throw new IllegalStateException("they have no link");
        }
        int before = wires.waiting;
        wires.cut(server, other);
        for (int each = 0; each < SERVERS; each++) {
            forgetUnreached(each);
        }
        now++;
        return before - wires.waiting;
    }

    public int deliver(int server, int other) throws IndexOutOfBoundsException, IllegalStateException {
        checkServer(server);
        checkServer(other);
        if (!wires.haveLink(server, other)) {
            throw new IllegalStateException("they have no link");
        }
        if (!deliverFirst(server, other)) {
            throw new IllegalStateException("there is no line");
        }
        now++;
        return wires.waiting;
    }

    public int deliverAll() {
        int delivered = 0;
        for (int round = 0; round < MOST_ROUNDS && wires.waiting > 0; round++) {
            delivered += deliverRound();
        }
        now++;
        return delivered;
    }

    public int lines() {
        return wires.waiting;
    }

    public int tree(int server) throws IndexOutOfBoundsException {
        checkServer(server);
        return wires.treeOf(server);
    }

    // ---- users

    public int signOn(int server, char name)
            throws IndexOutOfBoundsException, IllegalArgumentException, IllegalStateException {
        checkServer(server);
        int letter = letterIn(name);
        if (letter == NONE) {
            throw new IllegalArgumentException("the name is no letter");
        }
        View view = views[server];
        if (signedOn >= MOST_USERS || namesake(view, letter, NONE) != NONE) {
            throw new IllegalStateException("the name is known there, or 20 users have signed on");
        }
        int user = signedOn;
        homeOf[user] = server;
        letterOf[user] = letter;
        ageOf[user] = now;
        signedOn++;
        view.learn(user);
        wires.spread(server, NONE, draft.ofUser(USER, user));
        now++;
        return user;
    }

    public void quit(int user) throws IndexOutOfBoundsException, IllegalStateException {
        checkUser(user);
        checkNotGone(user);
        int home = homeOf[user];
        views[home].forget(user);
        wires.spread(home, NONE, draft.ofUser(QUIT, user));
        now++;
    }

    public int join(int user, int channel) throws IndexOutOfBoundsException, IllegalStateException {
        checkUser(user);
        checkChannel(channel);
        checkNotGone(user);
        int home = homeOf[user];
        Channel there = views[home].channels[channel];
        if (has(there.members, user)) {
            throw new IllegalStateException("the user is a member there");
        }
        if (there.isThere() && has(there.bans, letterOf[user])) {
            throw new IllegalStateException("the name is banned there");
        }
        there.enter(user, now);
        wires.spread(home, NONE, draft.ofChannel(CHANNEL, channel, there, 1 << user));
        now++;
        return Integer.bitCount(there.members);
    }

    public void leave(int user, int channel) throws IndexOutOfBoundsException, IllegalStateException {
        checkUser(user);
        checkChannel(channel);
        checkNotGone(user);
        checkMember(user, channel);
        int home = homeOf[user];
        views[home].channels[channel].drop(user);
        wires.spread(home, NONE, draft.ofLeave(channel, user));
        now++;
    }

    public int setModes(int user, int channel, int modes, int bans)
            throws IndexOutOfBoundsException, IllegalArgumentException, IllegalStateException {
        checkUser(user);
        checkChannel(channel);
        if (modes < 0 || modes > MOST_MODES || bans < 0 || bans > MOST_BANS) {
            throw new IllegalArgumentException("the modes or bans are out of range");
        }
        checkNotGone(user);
        checkMember(user, channel);
        int home = homeOf[user];
        Channel there = views[home].channels[channel];
        int before = there.modes;
        there.modes = modes;
        there.bans = bans;
        wires.spread(home, NONE, draft.ofChannel(MODES, channel, there, 0));
        now++;
        return before;
    }

    public int say(int user, int channel) throws IndexOutOfBoundsException {
        checkUser(user);
        checkChannel(channel);
        if (isGone(user)) {
            return IS_GONE;
        }
        Channel there = views[homeOf[user]].channels[channel];
        if (!has(there.members, user)) {
            return NO_MEMBER;
        }
        if (has(there.bans, letterOf[user])) {
            return BANNED;
        }
        if (has(there.modes, ELDEST_ALONE) && eldestOf(there.members) != user) {
            return NOT_ELDEST;
        }
        return wires.linksTowards(homeOf[user], homesOf(there.members & ~(1 << user)));
    }

    // ---- views

    public int users() {
        return signedOn;
    }

    public int clock() {
        return now;
    }

    public int known(int server) throws IndexOutOfBoundsException {
        checkServer(server);
        return views[server].knownUsers;
    }

    public int members(int server, int channel) throws IndexOutOfBoundsException {
        checkServer(server);
        checkChannel(channel);
        return views[server].channels[channel].members;
    }

    public int age(int server, int channel) throws IndexOutOfBoundsException {
        checkServer(server);
        checkChannel(channel);
        return views[server].channels[channel].age;
    }

    public int modes(int server, int channel) throws IndexOutOfBoundsException {
        checkServer(server);
        checkChannel(channel);
        return views[server].channels[channel].modes;
    }

    public int bans(int server, int channel) throws IndexOutOfBoundsException {
        checkServer(server);
        checkChannel(channel);
        return views[server].channels[channel].bans;
    }

    public boolean areSame(int server, int other) throws IndexOutOfBoundsException {
        checkServer(server);
        checkServer(other);
        return views[server].looksLike(views[other]);
    }

    public int joinedModes(int server, int other, int channel) throws IndexOutOfBoundsException {
        checkServer(server);
        checkServer(other);
        checkChannel(channel);
        Channel one = views[server].channels[channel];
        Channel two = views[other].channels[channel];
        return settledSet(one.age, one.modes, two.age, two.modes);
    }

    // ---- what may be asked

    private static void checkServer(int server) {
        if (server < 0 || server >= SERVERS) {
            throw new IndexOutOfBoundsException("there is no such server");
        }
    }

    private static void checkChannel(int channel) {
        if (channel < 0 || channel >= CHANNELS) {
            throw new IndexOutOfBoundsException("there is no such channel");
        }
    }

    private void checkUser(int user) {
        if (user < 0 || user >= signedOn) {
            throw new IndexOutOfBoundsException("there is no such user");
        }
    }

    private void checkNotGone(int user) {
        if (isGone(user)) {
            throw new IllegalStateException("the user is gone");
        }
    }

    private void checkMember(int user, int channel) {
        if (!has(views[homeOf[user]].channels[channel].members, user)) {
            throw new IllegalStateException("the user is no member");
        }
    }

    // ---- what servers do with lines

    private void burst(int from, int to) {
        View view = views[from];
        for (int user = 0; user < signedOn; user++) {
            if (view.knows(user)) {
                wires.put(from, to, draft.ofUser(USER, user));
            }
        }
        for (int channel = 0; channel < CHANNELS; channel++) {
            Channel there = view.channels[channel];
            if (there.isThere()) {
                wires.put(from, to, draft.ofChannel(CHANNEL, channel, there, there.members));
            }
        }
    }

    private void forgetUnreached(int server) {
        View view = views[server];
        int reached = wires.treeOf(server);
        for (int user = 0; user < signedOn; user++) {
            if (view.knows(user) && !has(reached, homeOf[user])) {
                view.forget(user);
            }
        }
    }

    private int deliverRound() {
        int delivered = 0;
        for (int server = 0; server < SERVERS; server++) {
            for (int other = 0; other < SERVERS; other++) {
                if (deliverFirst(server, other)) {
                    delivered++;
                }
            }
        }
        return delivered;
    }

    /** Answers whether there was a line. */
    private boolean deliverFirst(int from, int server) {
        Line line = wires.take(from, server);
        if (line == null) {
            return false;
        }
        switch (line.kind) {
            case USER:
                receiveUser(line, from, server);
                break;
            case QUIT:
                receiveQuit(line, from, server);
                break;
            case CHANNEL:
                receiveChannel(line, from, server);
                break;
            case LEAVE:
                views[server].channels[line.channel].drop(line.user);
                wires.spread(server, from, line);
                break;
            default:
                receiveModes(line, from, server);
                break;
        }
        wires.keepSpare(line);
        return true;
    }

    private void receiveUser(Line line, int from, int server) {
        int user = line.user;
        if (!has(wires.treeOf(server), homeOf[user])) {
            return;
        }
        View view = views[server];
        int rival = namesake(view, letterOf[user], user);
        if (rival != NONE && ageOf[rival] < ageOf[user]) {
            wires.put(server, from, draft.ofUser(QUIT, user));
            return;
        }
        if (rival != NONE) {
            view.forget(rival);
            wires.spread(server, NONE, draft.ofUser(QUIT, rival));
        }
        view.learn(user);
        wires.spread(server, from, line);
    }

    private void receiveQuit(Line line, int from, int server) {
        View view = views[server];
        if (view.knows(line.user)) {
            view.forget(line.user);
            wires.spread(server, from, line);
        }
    }

    private void receiveChannel(Line line, int from, int server) {
        View view = views[server];
        int present = line.members & view.knownUsers;
        if (present != 0) {
            view.channels[line.channel].takeIn(line, present);
        }
        wires.spread(server, from, line);
    }

    private void receiveModes(Line line, int from, int server) {
        Channel there = views[server].channels[line.channel];
        if (there.isThere() && there.age == line.age) {
            there.modes = line.modes;
            there.bans = line.bans;
        }
        wires.spread(server, from, line);
    }

    // ---- what is asked about users

    private boolean isGone(int user) {
        return !views[homeOf[user]].knows(user);
    }

    /** The user with that name, beside one, that a view knows, or NONE; there is one at the most. */
    private int namesake(View view, int letter, int beside) {
        for (int user = 0; user < signedOn; user++) {
            if (user != beside && letterOf[user] == letter && view.knows(user)) {
                return user;
            }
        }
        return NONE;
    }

    private int eldestOf(int members) {
        int eldest = NONE;
        for (int user = 0; user < signedOn; user++) {
            if (has(members, user) && (eldest == NONE || ageOf[user] < ageOf[eldest])) {
                eldest = user;
            }
        }
        return eldest;
    }

    private int homesOf(int members) {
        int homes = 0;
        for (int user = 0; user < signedOn; user++) {
            if (has(members, user)) {
                homes |= 1 << homeOf[user];
            }
        }
        return homes;
    }

    // ---- small helpers

    private static boolean has(int set, int bit) {
        return (set >> bit & 1) != 0;
    }

    private static int letterIn(char name) {
        if (name >= 'a' && name <= 'z') {
            return name - 'a';
        }
        if (name >= 'A' && name <= 'Z') {
            return name - 'A';
        }
        return NONE;
    }

    /** What becomes of the modes, or the bans, of a channel of two ages; the age NONE is no channel. */
    private static int settledSet(int age, int set, int otherAge, int otherSet) {
        if (age == NONE) {
            return otherSet;
        }
        if (otherAge == NONE) {
            return set;
        }
        if (age == otherAge) {
            return set | otherSet;
        }
        return age < otherAge ? set : otherSet;
    }

    /** A channel in one view. All is NONE as long as there is no member. */
    private static final class Channel {
        int age = NONE;
        int modes = NONE;
        int bans = NONE;
        int members = 0;

        boolean isThere() {
            return members != 0;
        }

        void enter(int user, int clock) {
            if (members == 0) {
                age = clock;
                modes = 0;
                bans = 0;
            }
            members |= 1 << user;
        }

        void drop(int user) {
            members &= ~(1 << user);
            if (members == 0) {
                age = NONE;
                modes = NONE;
                bans = NONE;
            }
        }

        void takeIn(Line line, int present) {
            modes = settledSet(age, modes, line.age, line.modes);
            bans = settledSet(age, bans, line.age, line.bans);
            age = age == NONE ? line.age : Math.min(age, line.age);
            members |= present;
        }

        boolean looksLike(Channel other) {
            return age == other.age && modes == other.modes && bans == other.bans && members == other.members;
        }
    }

    /** What one server knows. */
    private static final class View {
        int knownUsers = 0;
        final Channel[] channels = new Channel[CHANNELS];

        View() {
            for (int channel = 0; channel < CHANNELS; channel++) {
                channels[channel] = new Channel();
            }
        }

        boolean knows(int user) {
            return has(knownUsers, user);
        }

        void learn(int user) {
            knownUsers |= 1 << user;
        }

        void forget(int user) {
            knownUsers &= ~(1 << user);
            for (int channel = 0; channel < CHANNELS; channel++) {
                channels[channel].drop(user);
            }
        }

        boolean looksLike(View other) {
            if (knownUsers != other.knownUsers) {
                return false;
            }
            for (int channel = 0; channel < CHANNELS; channel++) {
                if (!channels[channel].looksLike(other.channels[channel])) {
                    return false;
                }
            }
            return true;
        }
    }

    /** One line; which of its fields tell something hangs on its kind. */
    private static final class Line {
        int kind = QUIT;
        int user = 0;
        int channel = 0;
        int age = 0;
        int modes = 0;
        int bans = 0;
        int members = 0;
        Line next = null;

        Line ofUser(int newKind, int newUser) {
            kind = newKind;
            user = newUser;
            return this;
        }

        Line ofLeave(int newChannel, int newUser) {
            kind = LEAVE;
            channel = newChannel;
            user = newUser;
            return this;
        }

        Line ofChannel(int newKind, int newChannel, Channel there, int newMembers) {
            kind = newKind;
            channel = newChannel;
            age = there.age;
            modes = there.modes;
            bans = there.bans;
            members = newMembers;
            return this;
        }

        void copyFrom(Line model) {
            kind = model.kind;
            user = model.user;
            channel = model.channel;
            age = model.age;
            modes = model.modes;
            bans = model.bans;
            members = model.members;
        }
    }

    /** The lines on their way from one server to another one, the first one in front. */
    private static final class LineQueue {
        Line first = null;
        Line last = null;

        void append(Line line) {
            line.next = null;
            if (last == null) {
                first = line;
            } else {
                last.next = line;
            }
            last = line;
        }

        Line takeFirst() {
            Line line = first;
            if (line != null) {
                first = line.next;
                if (first == null) {
                    last = null;
                }
                line.next = null;
            }
            return line;
        }
    }

    /** The links with their queues. Lines that have been delivered are used again. */
    private static final class Wires {
        final int[] linked = new int[SERVERS];
        final LineQueue[] queues = new LineQueue[SERVERS * SERVERS];
        int waiting = 0;
        Line spares = null;
        int made = 0;

        Wires() {
            for (int pair = 0; pair < SERVERS * SERVERS; pair++) {
                queues[pair] = new LineQueue();
            }
        }

        boolean haveLink(int server, int other) {
            return has(linked[server], other);
        }

        int treeOf(int server) {
            int reached = 1 << server;
            for (int pass = 1; pass < SERVERS; pass++) {
                for (int each = 0; each < SERVERS; each++) {
                    if (has(reached, each)) {
                        reached |= linked[each];
                    }
                }
            }
            return reached;
        }

        /** How many links lie on the ways from a server to those of a set in its tree. */
        int linksTowards(int server, int targets) {
            int needed = targets | 1 << server;
            int kept = treeOf(server);
            // Cutting off end servers that nobody needs, again and again, leaves just the ways.
            for (int pass = 1; pass < SERVERS; pass++) {
                for (int each = 0; each < SERVERS; each++) {
                    if (has(kept & ~needed, each) && Integer.bitCount(linked[each] & kept) == 1) {
                        kept &= ~(1 << each);
                    }
                }
            }
            return Integer.bitCount(kept) - 1;
        }

        void connect(int server, int other) {
            linked[server] |= 1 << other;
            linked[other] |= 1 << server;
        }

        void cut(int server, int other) {
            linked[server] &= ~(1 << other);
            linked[other] &= ~(1 << server);
            loseLines(server, other);
            loseLines(other, server);
        }

        void loseLines(int from, int to) {
            Line line = take(from, to);
            for (int lost = 0; lost < MOST_LINES && line != null; lost++) {
                keepSpare(line);
                line = take(from, to);
            }
        }

        /** Puts a line into the queues of all links of a server, away from it and from one other. */
        void spread(int server, int from, Line model) {
            for (int other = 0; other < SERVERS; other++) {
                if (other != from && haveLink(server, other)) {
                    put(server, other, model);
                }
            }
        }

        void put(int from, int to, Line model) {
            Line line = spares;
            if (line != null) {
                spares = line.next;
            } else if (made < MOST_LINES) {
                made++;
                line = new Line();
            } else {
                return;
            }
            line.copyFrom(model);
            queues[from * SERVERS + to].append(line);
            waiting++;
        }

        /** The first line from a server to another one, or null. */
        Line take(int from, int to) {
            Line line = queues[from * SERVERS + to].takeFirst();
            if (line != null) {
                waiting--;
            }
            return line;
        }

        void keepSpare(Line line) {
            line.next = spares;
            spares = line;
        }
    }
}
