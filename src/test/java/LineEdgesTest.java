/**
 * The sentences of 'Terms' on lines: both sides of each 'if' of what a server does that gets a
 * line. It is mostly the server 1 that gets it, from 0, and has the links to 2 and 3 beside.
 */
public final class LineEdgesTest {
    private static final int ALL_LETTERS = 67108863;

    public static void main(String[] args) {
        userFromOutsideIsNothing();
        userHomeByAnotherWay();
        userUnknownGoesOn();
        userYoungerQuits();
        userOlderStays();
        userOneClockApart();
        userIsNoOtherThanItself();
        quitOfOneKnown();
        quitOfOneUnknown();
        channelSomeLeftOut();
        channelNoneLeftAndNone();
        channelNoneLeftAndSome();
        channelGoesOnWithAllItsMembers();
        channelGoesOnNotAsItBecame();
        channelNotInTheView();
        channelAgesOneApart();
        channelOfTheSameAge();
        channelMembersOfBoth();
        channelEndsAtAnEnd();
        leaveOfAMember();
        leaveOfNoMember();
        leaveOfNoChannel();
        modesOfThatAge();
        modesOfOtherAges();
        modesOfNoChannel();
        quitMeansNoChannel();
        Check.end();
    }

    private static void star(ChatRelay x) {
        x.link(1, 2);
        x.link(1, 3);
    }

    // ---- USER

    /** "if the home server of the user is not in the tree of this server, nothing": whoever is known. */
    private static void userFromOutsideIsNothing() {
        ChatRelay x = new ChatRelay();
        x.link(0, 1);
        star(x);
        x.signOn(0, 'a');
        x.deliver(0, 1);
        x.split(0, 1);
        Check.due("USER of nobody's name, at an end", 1, x.deliver(1, 2));
        Check.due("is not known", 0, x.known(2));
        x.link(2, 4);
        x.link(3, 5);
        Check.due("USER of nobody's name, on the way", 0, x.deliver(1, 3));
        Check.due("is not known on the way", 0, x.known(3));

        ChatRelay y = new ChatRelay();
        y.link(0, 1);
        star(y);
        y.signOn(0, 'a');
        y.signOn(2, 'A');
        y.deliver(0, 1);
        y.split(0, 1);
        Check.due("USER, USER and USER wait", 3, y.lines());
        Check.due("no QUIT of the younger one", 2, y.deliver(1, 2));
        Check.due("the younger one stays", 2, y.known(2));

        ChatRelay z = new ChatRelay();
        z.link(0, 1);
        star(z);
        z.signOn(2, 'A');
        z.signOn(0, 'a');
        z.deliver(0, 1);
        z.split(0, 1);
        Check.due("no QUIT back by the older one", 2, z.deliver(1, 2));
        Check.due("the older one stays", 1, z.known(2));
    }

    /** The home need not be on the side that the line comes from. */
    private static void userHomeByAnotherWay() {
        ChatRelay x = new ChatRelay();
        x.link(0, 1);
        star(x);
        x.signOn(0, 'a');
        x.deliver(0, 1);
        x.split(0, 1);
        x.link(0, 3);
        Check.due("USER from 1 goes to an end", 2, x.deliver(1, 2));
        Check.due("known, as its home is in the tree", 1, x.known(2));
        Check.due("USER from 1 goes on to its home", 2, x.deliver(1, 3));
        Check.due("known on the way", 1, x.known(3));
    }

    /** "the user is known, and the line goes on: .. of all other links of the server, away from it" */
    private static void userUnknownGoesOn() {
        ChatRelay x = new ChatRelay();
        x.link(0, 1);
        star(x);
        x.signOn(1, 'b');
        x.deliverAll();
        x.signOn(0, 'a');
        Check.due("USER goes on to two links", 2, x.deliver(0, 1));
        Check.due("it is known", 3, x.known(1));
        Check.dueNoLine("USER does not go back", x, 1, 0);
        Check.due("USER ends at an end", 1, x.deliver(1, 2));
        Check.due("USER ends at the other end", 0, x.deliver(1, 3));
        Check.due("known at the ends", 3, x.known(2) & x.known(3));
    }

    private static void userYoungerQuits() {
        ChatRelay x = new ChatRelay();
        star(x);
        x.signOn(0, 'a');
        x.signOn(1, 'A');
        x.signOn(1, 'b');
        for (int channel = 0; channel < 4; channel++) {
            x.join(1, channel);
        }
        x.join(2, 3);
        x.deliverAll();
        Check.due("1 burst line from 0, 6 from 1", 7, x.link(0, 1));
        Check.due("QUIT to all three links, USER to two", 7 - 1 + 5, x.deliver(0, 1));
        Check.due("the older one is known instead", 1 | 4, x.known(1));
        for (int channel = 0; channel < 3; channel++) {
            Check.dueNoChannel("the younger one was alone there", x, 1, channel);
        }
        Check.due("and with another one there", 4, x.members(1, 3));
        for (int end = 2; end < 4; end++) {
            x.deliver(1, end);
            Check.due("first the QUIT", 4, x.known(end));
            x.deliver(1, end);
            Check.due("then the USER", 5, x.known(end));
            Check.dueNoLine("no more", x, 1, end);
        }
        for (int line = 0; line < 6; line++) {
            x.deliver(1, 0);
        }
        Check.due("the burst came", 5, x.known(0));
        int before = x.lines();
        Check.due("the QUIT to this link is the last", before - 1, x.deliver(1, 0));
        Check.dueNoLine("no USER back", x, 1, 0);
    }

    /** "a line QUIT for the one in the line is put into the queue of this link, back, and nothing else" */
    private static void userOlderStays() {
        ChatRelay x = new ChatRelay();
        star(x);
        x.signOn(1, 'A');
        x.join(0, 1);
        x.deliverAll();
        x.signOn(0, 'a');
        x.link(0, 1);
        Check.due("USER of 0, USER and CHANNEL of 1", 3, x.lines());
        Check.due("QUIT back alone", 3, x.deliver(0, 1));
        Check.due("the older one stays known", 1, x.known(1));
        Check.due("and a member", 1, x.members(1, 1));
        Check.dueNoLine("nothing goes on", x, 1, 2);
        Check.dueNoLine("nothing goes on", x, 1, 3);
        Check.due("not gone yet", ChatRelay.NO_MEMBER, x.say(1, 1));
        x.deliver(1, 0);
        Check.due("USER of the older one comes first", 1, x.known(0));
        x.deliver(1, 0);
        Check.due("its CHANNEL then", 1, x.members(0, 1));
        x.deliver(1, 0);
        Check.dueNoLine("QUIT was the last", x, 1, 0);
    }

    /** "younger (has the greater age)": by the least that ages can differ, from the age 0 on. */
    private static void userOneClockApart() {
        for (int waits = 0; waits < 3; waits++) {
            ChatRelay x = new ChatRelay();
            for (int call = 0; call < waits; call++) {
                x.deliverAll();
            }
            x.signOn(0, 'k');
            x.signOn(1, 'K');
            x.link(0, 1);
            x.deliver(0, 1);
            Check.due("the younger one quits at its home", 1, x.known(1));
            ChatRelay y = new ChatRelay();
            for (int call = 0; call < waits; call++) {
                y.deliverAll();
            }
            y.signOn(0, 'K');
            y.signOn(1, 'k');
            y.link(0, 1);
            y.deliver(1, 0);
            Check.due("the older one stays at its home", 1, y.known(0));
            x.deliverAll();
            y.deliverAll();
            for (int server = 0; server < 2; server++) {
                Check.due("the older one alone is known", 1, x.known(server));
                Check.due("the older one alone is known there too", 1, y.known(server));
            }
            Check.due("the younger one is gone", ChatRelay.IS_GONE, x.say(1, 0));
            Check.due("the younger one is gone there too", ChatRelay.IS_GONE, y.say(1, 0));
        }
    }

    /** "no other user with that name": one that is known already is none, and loses nothing. */
    private static void userIsNoOtherThanItself() {
        ChatRelay x = new ChatRelay();
        x.link(0, 1);
        x.link(1, 2);
        x.signOn(0, 'a');
        x.deliver(0, 1);
        x.join(0, 0);
        x.split(0, 1);
        Check.due("USER and CHANNEL", 2, x.link(0, 2));
        x.deliver(0, 2);
        x.deliver(0, 2);
        Check.due("known and a member by the new link", 1, x.members(2, 0));
        Check.due("two to 1, one from 1", 3, x.lines());
        Check.due("the old USER goes on to 0", 3, x.deliver(1, 2));
        Check.due("it stays known", 1, x.known(2));
        Check.due("it stays a member", 1, x.members(2, 0));
        Check.due("and comes to its home as nothing new", 2, x.deliver(2, 0));
        Check.due("known at its home", 1, x.members(0, 0));
    }

    // ---- QUIT

    private static void quitOfOneKnown() {
        ChatRelay x = new ChatRelay();
        x.link(0, 1);
        star(x);
        x.signOn(0, 'a');
        x.signOn(1, 'b');
        x.join(0, 0);
        x.join(0, 3);
        x.deliverAll();
        x.join(1, 3);
        x.deliverAll();
        x.quit(0);
        Check.due("QUIT goes on to two links", 2, x.deliver(0, 1));
        Check.dueNoLine("QUIT does not go back", x, 1, 0);
        Check.due("known no more", 2, x.known(1));
        Check.dueNoChannel("a member no more, alone", x, 1, 0);
        Check.due("a member no more, with another one", 2, x.members(1, 3));
        Check.due("QUIT ends at an end", 1, x.deliver(1, 2));
    }

    private static void quitOfOneUnknown() {
        ChatRelay x = new ChatRelay();
        star(x);
        x.signOn(1, 'a');
        x.join(0, 2);
        x.deliverAll();
        x.signOn(0, 'A');
        x.link(0, 1);
        x.quit(1);
        x.deliver(0, 1);
        Check.due("QUIT waits, and three the other way", 4, x.lines());
        Check.due("QUIT of one unknown is nothing", 3, x.deliver(0, 1));
        Check.dueNoLine("it does not go on", x, 1, 2);
        Check.dueNoLine("it does not go on", x, 1, 3);
        Check.due("its namesake stays", 1, x.known(1));
        Check.due("and a member", 1, x.members(1, 2));
    }

    // ---- CHANNEL

    /** 0 has b, unknown at 1 by an older b, and c, both in the channel 0, with modes 4 and bans 2. */
    private static ChatRelay oneLeftOut() {
        ChatRelay x = new ChatRelay();
        x.signOn(1, 'b');
        x.signOn(0, 'B');
        x.signOn(0, 'c');
        x.join(1, 0);
        x.join(2, 0);
        x.setModes(1, 0, 4, 2);
        star(x);
        x.deliverAll();
        x.link(0, 1);
        x.deliver(0, 1);
        x.deliver(0, 1);
        return x;
    }

    private static void channelSomeLeftOut() {
        ChatRelay x = oneLeftOut();
        Check.due("the older b and c are known", 1 | 4, x.known(1));
        x.deliver(0, 1);
        Check.dueChannel("without the one that is not known", x, 1, 0, 3, 4, 2, 4);
        ChatRelay y = oneLeftOut();
        y.join(0, 0);
        y.deliver(0, 1);
        Check.dueChannel("the others join what is there", y, 1, 0, 3, 4, 2, 1 | 4);
    }

    /** B at 0, unknown at 1 by an older b, is alone in the channel 0 of the age 2, modes 9, bans 512. */
    private static ChatRelay allLeftOut() {
        ChatRelay x = new ChatRelay();
        x.signOn(1, 'b');
        x.signOn(0, 'B');
        x.join(1, 0);
        x.setModes(1, 0, 9, 512);
        star(x);
        x.deliverAll();
        return x;
    }

    /** "if none is left, the view stays as it is", "also if no member is left, the line goes on" */
    private static void channelNoneLeftAndNone() {
        ChatRelay x = allLeftOut();
        x.link(0, 1);
        x.deliver(0, 1);
        int before = x.lines();
        Check.due("CHANNEL goes on to two links", before - 1 + 2, x.deliver(0, 1));
        Check.dueNoChannel("no channel comes to be", x, 1, 0);
        Check.due("it comes to the end", before, x.deliver(1, 2));
        Check.dueNoChannel("nor there", x, 2, 0);
    }

    private static void channelNoneLeftAndSome() {
        ChatRelay x = allLeftOut();
        x.join(0, 0);
        x.setModes(0, 0, 2, 8);
        int age = x.age(1, 0);
        x.deliverAll();
        x.link(0, 1);
        x.deliver(0, 1);
        int before = x.lines();
        Check.due("CHANNEL goes on to two links", before - 1 + 2, x.deliver(0, 1));
        Check.due("the line is of the lesser age", true, x.age(0, 0) < age);
        Check.dueChannel("the view stays as it is", x, 1, 0, age, 2, 8, 1);
        x.deliver(1, 2);
        Check.dueChannel("there too", x, 2, 0, age, 2, 8, 1);
    }

    /**
     * "the line goes on as it came": also with members that this server leaves out. A line waits
     * from 5 to 1, while its members' home goes over to 2, which so knows more of them than 1.
     */
    private static void channelGoesOnWithAllItsMembers() {
        for (int knownBy1 = 0; knownBy1 <= 2; knownBy1++) {
            ChatRelay x = new ChatRelay();
            x.link(5, 1);
            x.link(1, 2);
            x.signOn(0, 'a');
            x.signOn(0, 'b');
            x.join(0, 0);
            x.join(1, 0);
            x.setModes(1, 0, 6, 4);
            x.link(0, 5);
            for (int line = 0; line < 3; line++) {
                x.deliver(0, 5);
            }
            x.deliver(5, 1);
            x.deliver(5, 1);
            x.deliver(1, 2);
            x.deliver(1, 2);
            x.split(0, 5);
            Check.due("CHANNEL alone waits, from 5 to 1", 1, x.lines());
            Check.due("1 knows nobody any more", 0, x.known(1));
            x.link(0, 2);
            x.deliver(0, 2);
            x.deliver(0, 2);
            Check.due("2 knows both", 3, x.known(2));
            for (int line = 0; line < knownBy1; line++) {
                x.deliver(2, 1);
            }
            x.deliver(5, 1);
            Check.due("members at 1, which knows " + knownBy1, (1 << knownBy1) - 1, x.members(1, 0));
            Check.dueNoChannel("not at 2 yet", x, 2, 0);
            x.deliver(1, 2);
            Check.dueChannel("members at 2, which knows both", x, 2, 0, 4, 6, 4, 3);
        }
    }

    /** "the line goes on as it came": not as the channel of this server has become by it. */
    private static void channelGoesOnNotAsItBecame() {
        ChatRelay x = new ChatRelay();
        x.signOn(2, 'c');
        x.signOn(1, 'C');
        x.join(1, 0);
        x.setModes(1, 0, 8, 16);
        x.signOn(0, 'a');
        x.join(2, 0);
        x.setModes(2, 0, 3, 32);
        x.link(1, 2);
        x.deliver(1, 2);
        x.deliver(1, 2);
        Check.dueNoChannel("the channel of 1 has no known member at 2", x, 2, 0);
        x.link(0, 1);
        x.deliver(0, 1);
        x.deliver(1, 2);
        x.deliver(0, 1);
        Check.dueChannel("the lesser age at 1", x, 1, 0, 2, 8, 16, 2 | 4);
        x.deliver(1, 2);
        Check.dueChannel("the line itself at 2", x, 2, 0, 5, 3, 32, 4);
    }

    /** "If the channel is not in the view, it becomes what the line tells": the least and the most of it. */
    private static void channelNotInTheView() {
        int[][] told = {{0, 0}, {15, 0}, {0, ALL_LETTERS}, {15, ALL_LETTERS}, {1, 1}, {8, 1 << 25}};
        for (int[] set : told) {
            ChatRelay x = new ChatRelay();
            x.signOn(0, 'a');
            x.join(0, 3);
            x.setModes(0, 3, set[0], set[1]);
            x.link(0, 1);
            x.deliver(0, 1);
            Check.dueNoChannel("not there yet", x, 1, 3);
            x.deliver(0, 1);
            Check.dueChannel("what the line tells", x, 1, 3, 1, set[0], set[1], 1);
        }
    }

    /** x at 0 and y at 1, each alone in the channel 2, of the age 2 at 0 and 3 at 1. */
    private static ChatRelay oneApart(int modes, int bans, int otherModes, int otherBans) {
        ChatRelay x = new ChatRelay();
        x.signOn(0, 'x');
        x.signOn(1, 'y');
        x.join(0, 2);
        x.join(1, 2);
        x.setModes(0, 2, modes, bans);
        x.setModes(1, 2, otherModes, otherBans);
        x.link(0, 1);
        return x;
    }

    /** "the age is the lesser one .. otherwise they are those of the one with the lesser age" */
    private static void channelAgesOneApart() {
        int[][] sets = {{0, 0, 15, ALL_LETTERS}, {15, ALL_LETTERS, 0, 0}, {5, 3, 10, 12}, {1, 1, 1, 1}, {0, 0, 0, 0}};
        for (int[] s : sets) {
            ChatRelay x = oneApart(s[0], s[1], s[2], s[3]);
            Check.due("what they would join to", s[0], x.joinedModes(1, 0, 2));
            x.deliver(0, 1);
            x.deliver(0, 1);
            Check.dueChannel("the line is of the lesser age", x, 1, 2, 2, s[0], s[1], 3);
            x.deliver(1, 0);
            x.deliver(1, 0);
            Check.dueChannel("the view is of the lesser age", x, 0, 2, 2, s[0], s[1], 3);
        }
    }

    /** "if the ages are the same, the modes are the union of both .. and so are the bans" */
    private static void channelOfTheSameAge() {
        int[][] sets = {{0, 0, 15, ALL_LETTERS}, {15, ALL_LETTERS, 0, 0}, {5, 3, 10, 12}, {9, 1, 9, 1}, {0, 0, 0, 0},
            {1, 1, 8, 1 << 25}, {6, 7, 3, 14}};
        for (int[] s : sets) {
            ChatRelay x = oneApart(0, 0, 0, 0);
            x.deliverAll();
            x.split(0, 1);
            x.setModes(0, 2, s[0], s[1]);
            x.setModes(1, 2, s[2], s[3]);
            Check.due("what they would join to", s[0] | s[2], x.joinedModes(0, 1, 2));
            x.link(0, 1);
            x.deliver(0, 1);
            x.deliver(0, 1);
            Check.dueChannel("the union at 1", x, 1, 2, 2, s[0] | s[2], s[1] | s[3], 3);
            Check.dueChannel("0 has got no line", x, 0, 2, 2, s[0], s[1], 1);
            x.deliver(1, 0);
            x.deliver(1, 0);
            Check.dueChannel("the union at 0", x, 0, 2, 2, s[0] | s[2], s[1] | s[3], 3);
        }
    }

    /** "the members are the union of both": none in both, some in both, the same in both. */
    private static void channelMembersOfBoth() {
        ChatRelay x = new ChatRelay();
        x.link(0, 1);
        x.signOn(0, 'a');
        x.signOn(1, 'b');
        x.signOn(1, 'c');
        x.deliverAll();
        x.join(0, 0);
        x.join(1, 0);
        x.deliver(0, 1);
        Check.due("none was in both", 3, x.members(1, 0));
        x.deliver(1, 0);
        Check.due("none was in both, the other way", 3, x.members(0, 0));
        x.leave(0, 0);
        x.join(0, 0);
        x.join(2, 0);
        x.deliver(1, 0);
        Check.due("all are at 0", 7, x.members(0, 0));
        x.leave(0, 0);
        x.join(0, 0);
        x.deliver(0, 1);
        Check.due("LEAVE came", 6, x.members(1, 0));
        x.deliver(0, 1);
        Check.due("the one that joined again", 7, x.members(1, 0));
        x.deliver(0, 1);
        x.deliver(0, 1);
        Check.due("once more", 7, x.members(1, 0));
        Check.due("the same at both", true, x.areSame(0, 1));
    }

    private static void channelEndsAtAnEnd() {
        ChatRelay x = new ChatRelay();
        x.link(0, 1);
        star(x);
        x.signOn(0, 'a');
        x.deliverAll();
        x.join(0, 0);
        Check.due("CHANNEL goes on to two links", 2, x.deliver(0, 1));
        Check.dueNoLine("CHANNEL does not go back", x, 1, 0);
        Check.due("CHANNEL ends at an end", 1, x.deliver(1, 2));
        Check.due("CHANNEL ends at the other end", 0, x.deliver(1, 3));
    }

    // ---- LEAVE

    private static void leaveOfAMember() {
        ChatRelay x = new ChatRelay();
        x.link(0, 1);
        star(x);
        x.signOn(0, 'a');
        x.signOn(0, 'b');
        x.join(0, 0);
        x.join(1, 0);
        x.join(0, 1);
        x.setModes(0, 0, 6, 8);
        x.deliverAll();
        x.leave(0, 0);
        Check.due("LEAVE goes on to two links", 2, x.deliver(0, 1));
        Check.dueNoLine("LEAVE does not go back", x, 1, 0);
        Check.dueChannel("one member less", x, 1, 0, x.age(0, 0), 6, 8, 2);
        Check.due("not in another channel", 1, x.members(1, 1));
        Check.due("still known", 3, x.known(1));
        x.leave(1, 0);
        Check.due("LEAVE of the last one goes on", 4, x.deliver(0, 1));
        Check.dueNoChannel("no member, no channel", x, 1, 0);
    }

    private static void leaveOfNoMember() {
        ChatRelay x = allLeftOut();
        x.join(0, 0);
        x.setModes(0, 0, 2, 8);
        int age = x.age(1, 0);
        x.deliverAll();
        x.link(0, 1);
        x.leave(1, 0);
        x.deliver(0, 1);
        x.deliver(0, 1);
        int before = x.lines();
        Check.due("LEAVE of no member goes on to two links", before - 1 + 2, x.deliver(0, 1));
        Check.dueChannel("the view stays as it is", x, 1, 0, age, 2, 8, 1);
    }

    private static void leaveOfNoChannel() {
        ChatRelay x = allLeftOut();
        x.link(0, 1);
        x.leave(1, 0);
        x.deliver(0, 1);
        x.deliver(0, 1);
        int before = x.lines();
        Check.due("LEAVE of no channel goes on to two links", before - 1 + 2, x.deliver(0, 1));
        Check.dueNoChannel("the view stays as it is", x, 1, 0);
    }

    // ---- MODES

    /** "if the channel is in the view with that age, its modes and bans become those of the line" */
    private static void modesOfThatAge() {
        int[][] sets = {{15, ALL_LETTERS}, {0, 0}, {10, 5}, {5, 10}, {5, 0}, {0, 10}, {0, 0}};
        ChatRelay x = new ChatRelay();
        x.link(0, 1);
        star(x);
        x.signOn(0, 'a');
        x.join(0, 1);
        x.deliverAll();
        for (int[] s : sets) {
            x.setModes(0, 1, s[0], s[1]);
            Check.due("MODES goes on to two links", 2, x.deliver(0, 1));
            Check.dueNoLine("MODES does not go back", x, 1, 0);
            Check.dueChannel("those of the line, not of both", x, 1, 1, 4, s[0], s[1], 1);
            Check.due("MODES ends at an end", 1, x.deliver(1, 2));
            x.deliverAll();
        }
        x.join(0, 0);
        x.deliverAll();
        x.setModes(0, 1, 3, 6);
        x.deliverAll();
        Check.dueChannel("another channel stays", x, 1, 0, x.age(0, 0), 0, 0, 1);
    }

    /** The age of the line is one greater, and one lesser, than that in the view. */
    private static void modesOfOtherAges() {
        ChatRelay x = oneApart(4, 16, 12, 48);
        x.link(0, 2);
        x.link(0, 3);
        x.setModes(1, 2, 7, 9);
        x.deliver(1, 0);
        x.deliver(1, 0);
        int before = x.lines();
        Check.due("MODES of a greater age goes on to two links", before - 1 + 2, x.deliver(1, 0));
        Check.dueChannel("it leaves modes and bans", x, 0, 2, 2, 4, 16, 3);

        ChatRelay y = new ChatRelay();
        y.signOn(1, 'b');
        y.signOn(0, 'B');
        y.join(1, 0);
        y.join(0, 0);
        y.setModes(0, 0, 2, 8);
        star(y);
        y.deliverAll();
        y.link(0, 1);
        y.setModes(1, 0, 7, 9);
        y.deliver(0, 1);
        y.deliver(0, 1);
        before = y.lines();
        Check.due("the ages", true, y.age(0, 0) == 2 && y.age(1, 0) == 3);
        Check.due("MODES of a lesser age goes on to two links", before - 1 + 2, y.deliver(0, 1));
        Check.dueChannel("it leaves modes and bans too", y, 1, 0, 3, 2, 8, 1);
    }

    private static void modesOfNoChannel() {
        ChatRelay x = allLeftOut();
        x.link(0, 1);
        x.setModes(1, 0, 3, 3);
        x.deliver(0, 1);
        x.deliver(0, 1);
        int before = x.lines();
        Check.due("MODES of no channel goes on to two links", before - 1 + 2, x.deliver(0, 1));
        Check.dueNoChannel("and makes none", x, 1, 0);
    }

    // ---- "To quit means: the user is known no more, and a member of no channel"

    private static void quitMeansNoChannel() {
        ChatRelay x = new ChatRelay();
        x.link(0, 1);
        x.signOn(0, 'a');
        x.signOn(1, 'b');
        x.deliverAll();
        for (int channel = 0; channel < 4; channel++) {
            x.join(0, channel);
            x.join(1, channel);
        }
        x.deliverAll();
        x.quit(0);
        for (int channel = 0; channel < 4; channel++) {
            Check.due("a member of no channel at home", 2, x.members(0, channel));
            Check.due("still one elsewhere", 3, x.members(1, channel));
        }
        x.deliver(0, 1);
        for (int channel = 0; channel < 4; channel++) {
            Check.due("a member of no channel elsewhere", 2, x.members(1, channel));
        }
        x.split(0, 1);
        for (int channel = 0; channel < 4; channel++) {
            Check.dueNoChannel("nor one that is forgotten", x, 0, channel);
            Check.due("who stays at its home", 2, x.members(1, channel));
        }
    }
}
