/** The sentences of 'Terms' on the clock, links, users and views: where they begin, end, and are empty. */
public final class TermsTest {
    private static final int NONE = ChatRelay.NONE;
    private static final int ALL_LETTERS = 67108863;
    private static final int ALL_USERS = 1048575;

    public static void main(String[] args) {
        clockBeginsWithNought();
        clockGrowsByEachCall();
        clockStaysWhenAsked();
        clockCountsTheCallBehindIt();
        linksNeverMakeARing();
        treeOfOneAlone();
        twoQueuesOneForEachWay();
        numbersInTheOrderOfSigningOn();
        twentyUsersAreTheMost();
        namesAreKnownByTheView();
        goneByEachWay();
        notGone();
        setsOfUsersAndLetters();
        channelWithoutMembersAtHome();
        channelWithoutMembersByLines();
        channelWithoutMembersBySplit();
        channelComesBackNew();
        doneInTheViewOfTheHome();
        linesToAllLinksOfTheHome();
        lastOf512Calls();
        Check.end();
    }

    // ---- "The clock begins with 0 and grows by 1 behind each call of .. that does not throw"

    private static void clockBeginsWithNought() {
        ChatRelay x = new ChatRelay();
        Check.due("the clock begins with 0", 0, x.clock());
        x.signOn(0, 'a');
        Check.due("other objects have clocks of their own", 0, new ChatRelay().clock());
    }

    private static void clockGrowsByEachCall() {
        ChatRelay x = new ChatRelay();
        x.deliverAll();
        Check.due("deliverAll() without links grows the clock", 1, x.clock());
        x.link(0, 1);
        Check.due("link() grows the clock", 2, x.clock());
        x.signOn(0, 'a');
        Check.due("signOn() grows the clock", 3, x.clock());
        x.join(0, 0);
        Check.due("join() grows the clock", 4, x.clock());
        x.setModes(0, 0, 0, 0);
        Check.due("setModes() to what was before grows the clock", 5, x.clock());
        x.deliver(0, 1);
        Check.due("deliver() grows the clock", 6, x.clock());
        x.leave(0, 0);
        Check.due("leave() grows the clock", 7, x.clock());
        x.quit(0);
        Check.due("quit() grows the clock", 8, x.clock());
        Check.due("four lines wait", 4, x.deliverAll());
        Check.due("deliverAll() of four lines grows the clock by 1", 9, x.clock());
        x.deliverAll();
        Check.due("deliverAll() of no line grows the clock", 10, x.clock());
        x.split(0, 1);
        Check.due("split() of a quiet link grows the clock", 11, x.clock());
    }

    private static void clockStaysWhenAsked() {
        ChatRelay x = new ChatRelay();
        x.link(0, 1);
        x.signOn(0, 'a');
        x.signOn(0, 'b');
        x.join(0, 0);
        x.join(1, 0);
        x.setModes(0, 0, 1, 0);
        int clock = x.clock();
        Check.due("say() is taken", 0, x.say(0, 0));
        Check.due("say() is not taken", ChatRelay.NOT_ELDEST, x.say(1, 0));
        Check.due("say() of no member", ChatRelay.NO_MEMBER, x.say(1, 1));
        x.lines();
        x.tree(0);
        x.users();
        x.known(0);
        x.members(0, 0);
        x.age(0, 0);
        x.modes(0, 0);
        x.bans(0, 0);
        x.areSame(0, 1);
        x.joinedModes(0, 1, 0);
        Check.due("to ask does not grow the clock", clock, x.clock());
        Check.due("nor puts it lines", 6 - 1, x.lines());
    }

    /** "behind each call": what a call makes has the clock that was before it as its age. */
    private static void clockCountsTheCallBehindIt() {
        ChatRelay x = new ChatRelay();
        x.signOn(0, 'a');
        Check.due("the first channel that can be", 1, x.join(0, 0));
        Check.due("has the age 1", 1, x.age(0, 0));
        x.deliverAll();
        x.join(0, 3);
        Check.due("the clock before join()", 3, x.age(0, 3));
        Check.due("the clock behind join()", 4, x.clock());
        Check.dueRefusal(x, "a refused join()", Check.STATE, () -> x.join(0, 3));
        x.join(0, 2);
        Check.due("a refused call has not grown it", 4, x.age(0, 2));
    }

    // ---- "links never make a ring. A tree is a server with all servers that can be reached from it"

    private static void linksNeverMakeARing() {
        ChatRelay x = new ChatRelay();
        int[][] links = {{2, 4}, {0, 5}, {4, 5}, {1, 3}, {3, 0}};
        for (int[] link : links) {
            Check.due("a link between two trees", 0, x.link(link[0], link[1]));
        }
        for (int server = 0; server < 6; server++) {
            Check.due("all are in one tree", 63, x.tree(server));
            for (int other = 0; other < 6; other++) {
                int one = server;
                int two = other;
                Check.dueRefusal(x, "a ring of " + one + " and " + two, Check.STATE, () -> x.link(one, two));
            }
        }
        x.split(4, 5);
        Check.dueRefusal(x, "still a ring", Check.STATE, () -> x.link(1, 5));
        Check.due("no ring any more", 0, x.link(2, 1));
        Check.due("all are in one tree again", 63, x.tree(5));
    }

    private static void treeOfOneAlone() {
        ChatRelay x = new ChatRelay();
        x.link(0, 1);
        Check.due("a server without links is a tree", 4, x.tree(2));
        Check.due("a link is a tree of two", 3, x.tree(1));
        x.split(1, 0);
        Check.due("alone again", 1, x.tree(0));
        Check.due("both are", 2, x.tree(1));
    }

    private static void twoQueuesOneForEachWay() {
        ChatRelay x = new ChatRelay();
        x.link(0, 1);
        x.signOn(0, 'a');
        x.signOn(1, 'b');
        x.signOn(0, 'c');
        Check.due("three lines", 3, x.lines());
        Check.due("the one way", 2, x.deliver(1, 0));
        Check.due("b came", 7, x.known(0));
        Check.dueRefusal(x, "no more that way", Check.STATE, () -> x.deliver(1, 0));
        Check.due("the other way, the first", 1, x.deliver(0, 1));
        Check.due("a came", 3, x.known(1));
        Check.due("the other way, the second", 0, x.deliver(0, 1));
        Check.due("c came", 7, x.known(1));
        Check.dueRefusal(x, "no more either way", Check.STATE, () -> x.deliver(0, 1));
    }

    // ---- "up to 20 users, numbered from 0 in the order in which they sign on"

    private static void numbersInTheOrderOfSigningOn() {
        ChatRelay x = new ChatRelay();
        Check.due("no user", 0, x.users());
        Check.due("from 0", 0, x.signOn(3, 'z'));
        Check.dueRefusal(x, "a refused one", Check.STATE, () -> x.signOn(3, 'Z'));
        Check.dueRefusal(x, "another refused one", Check.ARGUMENT, () -> x.signOn(3, '_'));
        Check.due("takes no number", 1, x.signOn(3, 'a'));
        x.quit(0);
        Check.due("one that is gone has its number still", 2, x.signOn(3, 'z'));
        Check.due("one that is gone has signed on", 3, x.users());
    }

    private static void twentyUsersAreTheMost() {
        ChatRelay x = new ChatRelay();
        for (int user = 0; user < 19; user++) {
            x.signOn(0, 'q');
            x.quit(user);
        }
        Check.due("19 have signed on", 19, x.users());
        Check.due("the 20th", 19, x.signOn(0, 'q'));
        Check.due("20 have signed on", 20, x.users());
        Check.dueRefusal(x, "the 21st, of another name", Check.STATE, () -> x.signOn(0, 'r'));
        x.quit(19);
        Check.dueRefusal(x, "the 21st, though all are gone", Check.STATE, () -> x.signOn(0, 'r'));
        Check.due("nobody is known", 0, x.known(0));
    }

    /** "the server knows a user with that name": that server, not one elsewhere, and only as long. */
    private static void namesAreKnownByTheView() {
        ChatRelay x = new ChatRelay();
        x.link(0, 1);
        x.signOn(0, 'n');
        Check.dueRefusal(x, "known at home", Check.STATE, () -> x.signOn(0, 'N'));
        Check.due("not known yet at the other", 1, x.signOn(1, 'N'));
        ChatRelay y = new ChatRelay();
        y.link(0, 1);
        y.signOn(0, 'n');
        y.deliver(0, 1);
        Check.dueRefusal(y, "known at the other", Check.STATE, () -> y.signOn(1, 'N'));
        y.quit(0);
        Check.dueRefusal(y, "known at the other until the line comes", Check.STATE, () -> y.signOn(1, 'n'));
        y.deliver(0, 1);
        Check.due("known no more at the other", 1, y.signOn(1, 'n'));
        ChatRelay z = new ChatRelay();
        z.link(0, 1);
        z.signOn(0, 'n');
        z.deliver(0, 1);
        z.split(0, 1);
        Check.due("forgotten by the split", 1, z.signOn(1, 'n'));
    }

    // ---- "A user is gone when its home server does not know it any more"

    private static void goneByEachWay() {
        ChatRelay x = new ChatRelay();
        x.link(0, 1);
        x.signOn(0, 'a');
        x.deliverAll();
        x.quit(0);
        Check.due("gone by quit(), though 1 knows it", 1, x.known(1));
        allRefuseTheGone(x, 0);
        ChatRelay y = new ChatRelay();
        y.signOn(0, 'a');
        y.signOn(1, 'A');
        y.link(0, 1);
        y.deliver(0, 1);
        Check.due("gone by a line USER at its home", 1, y.known(1));
        allRefuseTheGone(y, 1);
        ChatRelay z = new ChatRelay();
        z.link(1, 2);
        z.signOn(0, 'a');
        z.signOn(2, 'A');
        z.deliverAll();
        z.link(0, 1);
        z.deliver(0, 1);
        Check.due("not gone as long as its home knows it", ChatRelay.NO_MEMBER, z.say(1, 0));
        z.deliver(1, 2);
        Check.due("gone by a line QUIT at its home", 0, z.known(2));
        allRefuseTheGone(z, 1);
    }

    private static void allRefuseTheGone(ChatRelay x, int user) {
        Check.dueRefusal(x, "9: gone", Check.STATE, () -> x.quit(user));
        Check.dueRefusal(x, "10: gone", Check.STATE, () -> x.join(user, 0));
        Check.dueRefusal(x, "11: gone", Check.STATE, () -> x.leave(user, 0));
        Check.dueRefusal(x, "12: gone", Check.STATE, () -> x.setModes(user, 0, 0, 0));
        Check.due("13: gone", ChatRelay.IS_GONE, x.say(user, 0));
    }

    private static void notGone() {
        ChatRelay x = new ChatRelay();
        x.link(0, 1);
        x.signOn(0, 'a');
        Check.due("not known elsewhere yet", ChatRelay.NO_MEMBER, x.say(0, 0));
        x.deliverAll();
        x.split(0, 1);
        Check.due("not known elsewhere any more", 0, x.known(1));
        Check.due("a split leaves it at its home", 1, x.known(0));
        Check.due("it can join", 1, x.join(0, 0));
    }

    // ---- "Sets of users are numbers with the bit u for the user u; sets of letters .. up to 25 for z"

    private static void setsOfUsersAndLetters() {
        ChatRelay x = new ChatRelay();
        for (int user = 0; user < 20; user++) {
            x.signOn(4, (char) ((user % 2 == 0 ? 'G' : 'g') + user));
            Check.due("users that have joined", user + 1, x.join(user, 1));
            Check.due("known up to " + user, (1 << user + 1) - 1, x.known(4));
            Check.due("members up to " + user, (1 << user + 1) - 1, x.members(4, 1));
        }
        Check.due("all 20 users", ALL_USERS, x.known(4));
        for (int user = 0; user < 20; user++) {
            x.setModes(0, 1, 0, 1 << user + 6);
            Check.due("banned is the letter of " + user, ChatRelay.BANNED, x.say(user, 1));
            Check.due("not the one before", user == 0 ? ChatRelay.BANNED : 0, x.say(user == 0 ? 0 : user - 1, 1));
            x.setModes(0, 1, 0, ALL_LETTERS - (1 << user + 6));
            Check.due("banned is not the letter of " + user, 0, x.say(user, 1));
            Check.due("but all others", ChatRelay.BANNED, x.say((user + 1) % 20, 1));
        }
        ChatRelay y = new ChatRelay();
        y.signOn(0, 'a');
        y.signOn(0, 'b');
        y.signOn(0, 'Z');
        y.signOn(0, 'y');
        y.join(1, 0);
        y.setModes(1, 0, 0, 1);
        Check.dueRefusal(y, "the bit 0 is a", Check.STATE, () -> y.join(0, 0));
        Check.due("and not z", 2, y.join(2, 0));
        y.leave(2, 0);
        y.setModes(1, 0, 0, 1 << 25);
        Check.dueRefusal(y, "the bit 25 is z", Check.STATE, () -> y.join(2, 0));
        Check.due("and not y", 2, y.join(3, 0));
        Check.due("nor a", 3, y.join(0, 0));
    }

    // ---- "A channel without members is gone from the view at once"

    private static ChatRelay oneInAll() {
        ChatRelay x = new ChatRelay();
        x.link(0, 1);
        x.signOn(0, 'a');
        for (int channel = 0; channel < 4; channel++) {
            x.join(0, channel);
            x.setModes(0, channel, 15, ALL_LETTERS);
        }
        x.deliverAll();
        return x;
    }

    private static void channelWithoutMembersAtHome() {
        ChatRelay x = oneInAll();
        x.leave(0, 2);
        Check.dueNoChannel("gone at home by leave()", x, 0, 2);
        Check.dueChannel("still elsewhere", x, 1, 2, 6, 15, ALL_LETTERS, 1);
        Check.dueChannel("another one at home", x, 0, 3, 8, 15, ALL_LETTERS, 1);
        x.quit(0);
        for (int channel = 0; channel < 4; channel++) {
            Check.dueNoChannel("gone at home by quit()", x, 0, channel);
            Check.due("not gone elsewhere", 1, x.members(1, channel));
        }
        Check.due("gone from the burst too", 0, x.link(0, 2));
        ChatRelay y = oneInAll();
        y.signOn(0, 'b');
        y.setModes(0, 2, 15, 0);
        y.join(1, 2);
        y.leave(0, 2);
        Check.dueChannel("one member is left", y, 0, 2, 6, 15, 0, 2);
        y.quit(0);
        Check.dueChannel("and stays behind quit()", y, 0, 2, 6, 15, 0, 2);
    }

    private static void channelWithoutMembersByLines() {
        ChatRelay x = oneInAll();
        x.leave(0, 0);
        x.deliver(0, 1);
        Check.dueNoChannel("gone by LEAVE", x, 1, 0);
        x.quit(0);
        x.deliver(0, 1);
        for (int channel = 0; channel < 4; channel++) {
            Check.dueNoChannel("gone by QUIT", x, 1, channel);
        }
        ChatRelay y = new ChatRelay();
        y.signOn(0, 'a');
        y.signOn(1, 'A');
        for (int channel = 0; channel < 4; channel++) {
            y.join(1, channel);
        }
        y.link(0, 1);
        y.deliver(0, 1);
        for (int channel = 0; channel < 4; channel++) {
            Check.dueNoChannel("gone by USER of an older one", y, 1, channel);
        }
    }

    private static void channelWithoutMembersBySplit() {
        ChatRelay x = oneInAll();
        x.signOn(1, 'b');
        x.setModes(0, 3, 7, 9);
        x.deliverAll();
        x.join(1, 3);
        x.deliverAll();
        x.split(0, 1);
        for (int channel = 0; channel < 3; channel++) {
            Check.dueNoChannel("gone by a split", x, 1, channel);
            Check.due("not gone at home", 1, x.members(0, channel));
        }
        Check.dueChannel("one member is left there", x, 1, 3, 8, 7, 9, 2);
        Check.dueChannel("one member is left at home", x, 0, 3, 8, 7, 9, 1);
        Check.due("a burst tells the one channel alone", 2, x.link(1, 2));
    }

    /** What is gone leaves nothing behind: no age, modes, bans, nor what was banned. */
    private static void channelComesBackNew() {
        ChatRelay x = oneInAll();
        int clock = x.clock();
        x.leave(0, 1);
        Check.due("not banned where no channel is", 1, x.join(0, 1));
        Check.dueChannel("a new channel", x, 0, 1, clock + 1, 0, 0, 1);
        x.deliver(0, 1);
        Check.dueNoChannel("LEAVE came", x, 1, 1);
        x.deliver(0, 1);
        Check.dueChannel("the new one came", x, 1, 1, clock + 1, 0, 0, 1);
        ChatRelay y = new ChatRelay();
        y.link(0, 1);
        y.signOn(0, 'a');
        y.join(0, 1);
        y.setModes(0, 1, 15, 8);
        y.leave(0, 1);
        y.join(0, 1);
        y.deliver(0, 1);
        y.deliver(0, 1);
        y.deliver(0, 1);
        y.deliver(0, 1);
        Check.due("left there", NONE, y.age(1, 1));
        y.deliver(0, 1);
        Check.dueChannel("come back there", y, 1, 1, 5, 0, 0, 1);
    }

    // ---- "What is done by a user is done in the view of its home server, and lines are then put
    // into the queues of all links of that server"

    private static void doneInTheViewOfTheHome() {
        ChatRelay x = new ChatRelay();
        x.link(0, 1);
        x.signOn(0, 'a');
        Check.due("signOn() at home", 1, x.known(0));
        Check.due("signOn() not elsewhere", 0, x.known(1));
        x.deliverAll();
        x.join(0, 2);
        Check.dueChannel("join() at home", x, 0, 2, 3, 0, 0, 1);
        Check.dueNoChannel("join() not elsewhere", x, 1, 2);
        x.deliverAll();
        x.setModes(0, 2, 1, 2);
        Check.dueChannel("setModes() at home", x, 0, 2, 3, 1, 2, 1);
        Check.dueChannel("setModes() not elsewhere", x, 1, 2, 3, 0, 0, 1);
        x.deliverAll();
        x.leave(0, 2);
        Check.dueNoChannel("leave() at home", x, 0, 2);
        Check.dueChannel("leave() not elsewhere", x, 1, 2, 3, 1, 2, 1);
        x.quit(0);
        Check.due("quit() at home", 0, x.known(0));
        Check.due("quit() not elsewhere", 1, x.known(1));
    }

    /** From no link at all to five. */
    private static void linesToAllLinksOfTheHome() {
        for (int links = 0; links <= 5; links++) {
            String at = " with " + links + " links";
            ChatRelay x = new ChatRelay();
            for (int other = 1; other <= links; other++) {
                x.link(0, other);
            }
            x.signOn(0, 'a');
            Check.due("signOn()" + at, links, x.lines());
            x.join(0, 0);
            Check.due("join()" + at, 2 * links, x.lines());
            x.setModes(0, 0, 0, 0);
            Check.due("setModes()" + at, 3 * links, x.lines());
            x.leave(0, 0);
            Check.due("leave()" + at, 4 * links, x.lines());
            x.quit(0);
            Check.due("quit()" + at, 5 * links, x.lines());
            Check.due("all come" + at, 5 * links, x.deliverAll());
        }
    }

    // ---- "An object is used for at most 512 calls"

    private static void lastOf512Calls() {
        ChatRelay x = new ChatRelay();
        for (int other = 1; other < 6; other++) {
            x.link(0, other);
        }
        x.signOn(0, 'a');
        for (int pair = 0; pair < 252; pair++) {
            x.join(0, 3);
            x.leave(0, 3);
        }
        Check.due("the 511th call", 1, x.join(0, 3));
        x.setModes(0, 3, 15, ALL_LETTERS);
        Check.due("the clock behind 512 calls", 512, x.clock());
        Check.dueChannel("what they have led to", x, 0, 3, 510, 15, ALL_LETTERS, 1);
        Check.due("all their lines wait", 5 * 507, x.lines());
        ChatRelay y = new ChatRelay();
        for (int call = 0; call < 511; call++) {
            y.deliverAll();
        }
        Check.due("the 512th call", 0, y.signOn(5, 'Z'));
        Check.due("its clock", 512, y.clock());
    }
}
