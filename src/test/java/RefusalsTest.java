import java.util.ArrayList;
import java.util.List;
import java.util.function.Consumer;

/**
 * "A call that throws an exception changes nothing; if several exceptions apply, the one that its
 * throws clause names first is thrown": each reason of each throws clause, each two and three that
 * can apply at once, on a relay in the midst of things. Beside it a twin, of which nothing is
 * asked that is refused, tells whether views, clock, and what waits in the queues stay.
 */
public final class RefusalsTest {
    private static final int LEAST = Integer.MIN_VALUE;
    private static final int GREATEST = Integer.MAX_VALUE;

    record Refused(String what, Class<?> due, Consumer<ChatRelay> call) {
    }

    private static final List<Refused> CALLS = new ArrayList<>();

    public static void main(String[] args) {
        ofLink();
        ofSplit();
        ofDeliver();
        ofSignOn();
        ofQuit();
        ofJoin();
        ofLeave();
        ofSetModes();
        ofSayAndViews();
        Check.due("lines that wait in the midst of things", 7, midst().lines());
        for (Refused refused : CALLS) {
            refusedOnce(refused);
        }
        allAtOnce();
        takenAgain();
        ofSignOnWithTwenty();
        Check.end();
    }

    private static void add(String what, Class<?> due, Consumer<ChatRelay> call) {
        CALLS.add(new Refused(what, due, call));
    }

    /**
     * Linked are 0-1, 1-2 and 3-4; 5 is alone. The users: 0 (a) at 0 in the channels 0 and 1,
     * 1 (b) at 1, banned in 0, 2 (C) at 2 in 0, 3 (d) at 3 in 0, 4 (e) of 0, which is gone,
     * 5 (a) at 5, 6 (f) at 1 whose USER waits. Lines wait from 0 to 1 (CHANNEL, MODES), from 1 to
     * 0 and 2 (USER), from 2 to 1 (LEAVE, CHANNEL) and from 3 to 4 (CHANNEL); none from 4 to 3.
     */
    private static ChatRelay midst() {
        ChatRelay x = new ChatRelay();
        x.link(0, 1);
        x.link(1, 2);
        x.link(3, 4);
        x.signOn(0, 'a');
        x.signOn(1, 'b');
        x.signOn(2, 'C');
        x.signOn(3, 'd');
        x.signOn(0, 'e');
        x.signOn(5, 'a');
        x.deliverAll();
        x.join(0, 0);
        x.setModes(0, 0, 5, 2);
        x.deliverAll();
        x.join(2, 0);
        x.join(4, 2);
        x.quit(4);
        x.deliverAll();
        x.join(0, 1);
        x.setModes(0, 0, 6, 10);
        x.signOn(1, 'f');
        x.leave(2, 0);
        x.join(2, 0);
        x.join(3, 0);
        return x;
    }

    private static void refusedOnce(Refused refused) {
        ChatRelay x = midst();
        Check.dueRefusal(x, refused.what, refused.due, () -> refused.call.accept(x));
        Check.dueTwins("behind " + refused.what, x, midst());
    }

    /** Nor does it change anything to be refused again and again. */
    private static void allAtOnce() {
        ChatRelay x = midst();
        ChatRelay twin = midst();
        for (Refused refused : CALLS) {
            Check.dueRefusal(x, "all at once, " + refused.what, refused.due, () -> refused.call.accept(x));
        }
        Check.dueTwins("behind all that is refused", x, twin);
    }

    /** What was refused for the state alone is done when the state allows it. */
    private static void takenAgain() {
        ChatRelay x = new ChatRelay();
        Check.dueRefusal(x, "9: not there yet", Check.OUT, () -> x.quit(0));
        Check.dueRefusal(x, "3: not linked yet", Check.STATE, () -> x.split(0, 1));
        Check.dueRefusal(x, "4: not linked yet", Check.STATE, () -> x.deliver(0, 1));
        Check.due("2: the clock is at its beginning", 0, x.clock());
        Check.due("2: now linked", 0, x.link(0, 1));
        Check.dueRefusal(x, "4: no line yet", Check.STATE, () -> x.deliver(0, 1));
        Check.due("8: a user", 0, x.signOn(0, 'a'));
        Check.dueRefusal(x, "11: no member yet", Check.STATE, () -> x.leave(0, 0));
        Check.due("4: now a line", 0, x.deliver(0, 1));
        Check.due("10: joins", 1, x.join(0, 0));
        x.leave(0, 0);
        x.quit(0);
        Check.due("3: its CHANNEL, LEAVE and QUIT", 3, x.split(0, 1));
        Check.due("15: seven calls were taken", 7, x.clock());
    }

    private static void ofLink() {
        int[] none = {-1, 6, LEAST, GREATEST};
        for (int no : none) {
            add("2: no server " + no, Check.OUT, x -> x.link(no, 5));
            add("2: no other " + no, Check.OUT, x -> x.link(5, no));
            add("2: neither " + no, Check.OUT, x -> x.link(no, no));
        }
        add("2: linked already", Check.STATE, x -> x.link(0, 1));
        add("2: linked already, the other way", Check.STATE, x -> x.link(1, 0));
        add("2: a ring", Check.STATE, x -> x.link(0, 2));
        add("2: a ring, the other way", Check.STATE, x -> x.link(2, 0));
        add("2: a server with links and itself", Check.STATE, x -> x.link(1, 1));
        add("2: a server alone and itself", Check.STATE, x -> x.link(5, 5));
    }

    private static void ofSplit() {
        int[] none = {-1, 6, LEAST, GREATEST};
        for (int no : none) {
            add("3: no server " + no, Check.OUT, x -> x.split(no, 1));
            add("3: no other " + no, Check.OUT, x -> x.split(1, no));
            add("3: neither " + no, Check.OUT, x -> x.split(no, no));
        }
        add("3: in one tree without a link", Check.STATE, x -> x.split(0, 2));
        add("3: in one tree without a link, the other way", Check.STATE, x -> x.split(2, 0));
        add("3: in two trees", Check.STATE, x -> x.split(2, 3));
        add("3: one alone", Check.STATE, x -> x.split(5, 0));
        add("3: a server and itself", Check.STATE, x -> x.split(1, 1));
    }

    private static void ofDeliver() {
        int[] none = {-1, 6, LEAST, GREATEST};
        for (int no : none) {
            add("4: no server " + no, Check.OUT, x -> x.deliver(no, 1));
            add("4: no other " + no, Check.OUT, x -> x.deliver(1, no));
            add("4: neither " + no, Check.OUT, x -> x.deliver(no, no));
        }
        add("4: no line that way, though the other way", Check.STATE, x -> x.deliver(4, 3));
        add("4: in one tree without a link", Check.STATE, x -> x.deliver(0, 2));
        add("4: in two trees", Check.STATE, x -> x.deliver(0, 4));
        add("4: one alone", Check.STATE, x -> x.deliver(5, 0));
        add("4: a server and itself", Check.STATE, x -> x.deliver(0, 0));
    }

    private static void ofSignOn() {
        int[] none = {-1, 6, LEAST, GREATEST};
        for (int no : none) {
            add("8: no server " + no, Check.OUT, x -> x.signOn(no, 'x'));
            add("8: no server " + no + " before no letter", Check.OUT, x -> x.signOn(no, '!'));
            add("8: no server " + no + ", a name known elsewhere", Check.OUT, x -> x.signOn(no, 'a'));
        }
        add("8: no letter", Check.ARGUMENT, x -> x.signOn(0, '{'));
        add("8: no letter, one alone", Check.ARGUMENT, x -> x.signOn(5, '`'));
        add("8: its own user", Check.STATE, x -> x.signOn(0, 'a'));
        add("8: its own user, capital", Check.STATE, x -> x.signOn(0, 'A'));
        add("8: one from elsewhere", Check.STATE, x -> x.signOn(0, 'c'));
        add("8: one from elsewhere, capital", Check.STATE, x -> x.signOn(0, 'C'));
        add("8: at the end of the tree", Check.STATE, x -> x.signOn(2, 'A'));
    }

    private static void ofQuit() {
        int[] none = {-1, 7, 20, LEAST, GREATEST};
        for (int no : none) {
            add("9: no user " + no, Check.OUT, x -> x.quit(no));
        }
        add("9: gone", Check.STATE, x -> x.quit(4));
    }

    private static void ofJoin() {
        int[] none = {-1, 7, 20, LEAST, GREATEST};
        for (int no : none) {
            add("10: no user " + no, Check.OUT, x -> x.join(no, 3));
            int channel = no == 7 ? 4 : no;
            add("10: no channel " + channel, Check.OUT, x -> x.join(0, channel));
            add("10: neither " + no, Check.OUT, x -> x.join(no, channel));
            add("10: no channel " + channel + " before gone", Check.OUT, x -> x.join(4, channel));
        }
        add("10: gone", Check.STATE, x -> x.join(4, 3));
        add("10: gone, into the channel where it was", Check.STATE, x -> x.join(4, 2));
        add("10: a member", Check.STATE, x -> x.join(0, 0));
        add("10: the only member", Check.STATE, x -> x.join(0, 1));
        add("10: banned by a line that came", Check.STATE, x -> x.join(1, 0));
    }

    private static void ofLeave() {
        int[] none = {-1, 7, 20, LEAST, GREATEST};
        for (int no : none) {
            add("11: no user " + no, Check.OUT, x -> x.leave(no, 0));
            int channel = no == 7 ? 4 : no;
            add("11: no channel " + channel, Check.OUT, x -> x.leave(0, channel));
            add("11: neither " + no, Check.OUT, x -> x.leave(no, channel));
            add("11: no channel " + channel + " before gone", Check.OUT, x -> x.leave(4, channel));
        }
        add("11: gone", Check.STATE, x -> x.leave(4, 2));
        add("11: no member of what is there", Check.STATE, x -> x.leave(1, 0));
        add("11: a channel that is not there", Check.STATE, x -> x.leave(0, 3));
        add("11: a channel of another tree", Check.STATE, x -> x.leave(5, 0));
    }

    private static void ofSetModes() {
        int[] none = {-1, 7, 20, LEAST, GREATEST};
        for (int no : none) {
            int channel = no == 7 ? 4 : no;
            add("12: no user " + no, Check.OUT, x -> x.setModes(no, 0, 0, 0));
            add("12: no user " + no + " before modes", Check.OUT, x -> x.setModes(no, 0, 16, 0));
            add("12: no user " + no + " before bans", Check.OUT, x -> x.setModes(no, 0, 0, -1));
            add("12: no channel " + channel, Check.OUT, x -> x.setModes(0, channel, 0, 0));
            add("12: no channel " + channel + " before modes", Check.OUT, x -> x.setModes(0, channel, -1, 0));
            add("12: no channel " + channel + " before bans", Check.OUT, x -> x.setModes(0, channel, 0, 67108864));
            add("12: no channel " + channel + " before gone", Check.OUT, x -> x.setModes(4, channel, 0, 0));
            add("12: no channel " + channel + " before all", Check.OUT, x -> x.setModes(4, channel, 16, -1));
        }
        int[] modes = {-1, 16, LEAST, GREATEST};
        for (int wrong : modes) {
            add("12: modes " + wrong, Check.ARGUMENT, x -> x.setModes(0, 0, wrong, 0));
            add("12: modes " + wrong + " before gone", Check.ARGUMENT, x -> x.setModes(4, 0, wrong, 0));
            add("12: modes " + wrong + " before no member", Check.ARGUMENT, x -> x.setModes(1, 0, wrong, 0));
        }
        int[] bans = {-1, 67108864, LEAST, GREATEST};
        for (int wrong : bans) {
            add("12: bans " + wrong, Check.ARGUMENT, x -> x.setModes(0, 0, 0, wrong));
            add("12: bans " + wrong + " before gone", Check.ARGUMENT, x -> x.setModes(4, 0, 0, wrong));
            add("12: bans " + wrong + " before no member", Check.ARGUMENT, x -> x.setModes(1, 0, 0, wrong));
        }
        add("12: gone", Check.STATE, x -> x.setModes(4, 2, 1, 1));
        add("12: no member of what is there", Check.STATE, x -> x.setModes(1, 0, 1, 1));
        add("12: a channel that is not there", Check.STATE, x -> x.setModes(0, 3, 1, 1));
        add("12: a channel of another tree", Check.STATE, x -> x.setModes(5, 0, 1, 1));
    }

    private static void ofSayAndViews() {
        int[] none = {-1, 7, 20, LEAST, GREATEST};
        for (int no : none) {
            int server = no == 7 ? 6 : no;
            int channel = no == 7 ? 4 : no;
            add("13: no user " + no, Check.OUT, x -> x.say(no, 0));
            add("13: no channel " + channel, Check.OUT, x -> x.say(0, channel));
            add("13: neither " + no, Check.OUT, x -> x.say(no, channel));
            add("13: no channel " + channel + " before gone", Check.OUT, x -> x.say(4, channel));
            add("7: no server " + server, Check.OUT, x -> x.tree(server));
            add("16: no server " + server, Check.OUT, x -> x.known(server));
            add("17: no server " + server, Check.OUT, x -> x.members(server, 0));
            add("17: no channel " + channel, Check.OUT, x -> x.members(0, channel));
            add("18: no server " + server, Check.OUT, x -> x.age(server, 0));
            add("18: no channel " + channel, Check.OUT, x -> x.age(0, channel));
            add("19: no server " + server, Check.OUT, x -> x.modes(server, 0));
            add("19: no channel " + channel, Check.OUT, x -> x.modes(0, channel));
            add("20: no server " + server, Check.OUT, x -> x.bans(server, 0));
            add("20: no channel " + channel, Check.OUT, x -> x.bans(0, channel));
            add("21: no server " + server, Check.OUT, x -> x.areSame(server, 0));
            add("21: no other " + server, Check.OUT, x -> x.areSame(0, server));
            add("22: no server " + server, Check.OUT, x -> x.joinedModes(server, 0, 0));
            add("22: no other " + server, Check.OUT, x -> x.joinedModes(0, server, 0));
            add("22: no channel " + channel, Check.OUT, x -> x.joinedModes(0, 1, channel));
        }
    }

    /** With 20 users nobody can sign on; then what comes first is still first. */
    private static void ofSignOnWithTwenty() {
        ChatRelay x = new ChatRelay();
        x.link(0, 1);
        for (int user = 0; user < 20; user++) {
            x.signOn(0, (char) ('A' + user));
        }
        Check.dueRefusal(x, "8: 20 users, another name", Check.STATE, () -> x.signOn(0, 'z'));
        Check.dueRefusal(x, "8: 20 users, a server that knows nobody", Check.STATE, () -> x.signOn(5, 'z'));
        Check.dueRefusal(x, "8: 20 users, a name known", Check.STATE, () -> x.signOn(0, 'a'));
        Check.dueRefusal(x, "8: no letter before 20 users", Check.ARGUMENT, () -> x.signOn(0, '@'));
        Check.dueRefusal(x, "8: no server before 20 users", Check.OUT, () -> x.signOn(6, 'z'));
        Check.dueRefusal(x, "8: no server before all", Check.OUT, () -> x.signOn(-1, '['));
        Check.due("8: 20 users", 20, x.users());
        Check.due("8: 20 lines", 20, x.lines());
        x.quit(19);
        Check.dueRefusal(x, "8: 20 users have signed on, one is gone", Check.STATE, () -> x.signOn(0, 'T'));
    }
}
