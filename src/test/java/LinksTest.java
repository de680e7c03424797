/** Promises 1 to 7: a new object, link, split, deliver, deliverAll, lines, tree. */
public final class LinksTest {
    public static void main(String[] args) {
        newObject();
        linkCountsBothBursts();
        linkIsRefused();
        burstOrder();
        splitLosesLines();
        splitForgets();
        splitIsRefused();
        deliverOneByOne();
        deliverIsRefused();
        deliverAllTakesTurns();
        deliverAllSeesLinesOfTheSameRound();
        linesCountsAllQueues();
        trees();
        Check.end();
    }

    private static void newObject() {
        ChatRelay x = new ChatRelay();
        Check.due("1: users", 0, x.users());
        Check.due("1: clock", 0, x.clock());
        Check.due("1: lines", 0, x.lines());
        for (int s = 0; s < 6; s++) {
            Check.due("1: tree " + s, 1 << s, x.tree(s));
            Check.due("1: known " + s, 0, x.known(s));
            for (int c = 0; c < 4; c++) {
                Check.due("1: members", 0, x.members(s, c));
                Check.due("1: age", ChatRelay.NONE, x.age(s, c));
                Check.due("1: modes", ChatRelay.NONE, x.modes(s, c));
                Check.due("1: bans", ChatRelay.NONE, x.bans(s, c));
            }
        }
        ChatRelay other = new ChatRelay();
        other.signOn(0, 'a');
        Check.due("1: objects share nothing", 0, x.users());
    }

    private static void linkCountsBothBursts() {
        ChatRelay x = new ChatRelay();
        Check.due("2: empty link", 0, x.link(4, 5));
        x.signOn(0, 'a');
        x.signOn(0, 'b');
        x.signOn(1, 'c');
        x.join(0, 0);
        x.join(1, 3);
        x.join(2, 3);
        Check.due("2: 2 users and 2 channels, 1 user and 1 channel", 6, x.link(1, 0));
        Check.due("2: lines then", 6, x.lines());
        Check.due("2: tree of one", 3, x.tree(0));
        Check.due("2: tree of the other", 3, x.tree(1));
        Check.due("2: the clock grows", 8, x.clock());
        Check.due("2: a view stays until lines come", 3, x.known(0));
        Check.due("2: lines that wait elsewhere do not count", 4, x.link(2, 0));
        Check.due("2: they wait on", 10, x.lines());
    }

    private static void linkIsRefused() {
        ChatRelay x = new ChatRelay();
        x.signOn(0, 'a');
        x.link(0, 1);
        x.link(1, 2);
        Check.dueRefusal(x, "2: server -1", Check.OUT, () -> x.link(-1, 0));
        Check.dueRefusal(x, "2: server 6", Check.OUT, () -> x.link(6, 0));
        Check.dueRefusal(x, "2: other -1", Check.OUT, () -> x.link(0, -1));
        Check.dueRefusal(x, "2: other 6", Check.OUT, () -> x.link(0, 6));
        Check.dueRefusal(x, "2: twice 6", Check.OUT, () -> x.link(6, 6));
        Check.dueRefusal(x, "2: least int", Check.OUT, () -> x.link(Integer.MIN_VALUE, 0));
        Check.dueRefusal(x, "2: greatest int", Check.OUT, () -> x.link(0, Integer.MAX_VALUE));
        Check.dueRefusal(x, "2: itself", Check.STATE, () -> x.link(3, 3));
        Check.dueRefusal(x, "2: linked already", Check.STATE, () -> x.link(1, 0));
        Check.dueRefusal(x, "2: a ring", Check.STATE, () -> x.link(2, 0));
        Check.due("2: the clock stays", 3, x.clock());
    }

    /** Users by rising numbers, then channels by rising numbers. */
    private static void burstOrder() {
        ChatRelay x = new ChatRelay();
        x.signOn(0, 'a');
        x.signOn(0, 'b');
        x.join(1, 2);
        x.join(0, 1);
        x.setModes(0, 1, 9, 4);
        Check.due("2: burst", 4, x.link(0, 1));
        x.deliver(0, 1);
        Check.due("2: first the user 0", 1, x.known(1));
        x.deliver(0, 1);
        Check.due("2: then the user 1", 3, x.known(1));
        x.deliver(0, 1);
        Check.due("2: then the channel 1", 1, x.members(1, 1));
        Check.due("2: as it is, age", 3, x.age(1, 1));
        Check.due("2: as it is, modes", 9, x.modes(1, 1));
        Check.due("2: as it is, bans", 4, x.bans(1, 1));
        Check.due("2: not yet the channel 2", 0, x.members(1, 2));
        x.deliver(0, 1);
        Check.due("2: last the channel 2", 2, x.members(1, 2));
    }

    private static void splitLosesLines() {
        ChatRelay x = new ChatRelay();
        x.signOn(0, 'a');
        x.signOn(1, 'b');
        x.signOn(2, 'c');
        x.link(1, 2);
        x.link(0, 1);
        Check.due("3: lines before", 4, x.lines());
        Check.due("3: lines of both ways are gone", 2, x.split(1, 0));
        Check.due("3: those of other links stay", 2, x.lines());
        Check.due("3: tree", 1, x.tree(0));
        Check.due("3: tree of the rest", 6, x.tree(2));
        Check.due("3: clock", 6, x.clock());
        Check.due("3: the rest comes", 2, x.deliverAll());
        Check.due("3: known", 6, x.known(1));
        Check.due("3: split of a quiet link", 0, x.split(1, 2));
        Check.due("3: link again bursts again", 2, x.link(0, 1));
    }

    /** Both sides forget, wherever they stand, and channels left without members are gone. */
    private static void splitForgets() {
        ChatRelay x = new ChatRelay();
        for (int s = 0; s < 3; s++) {
            x.link(s, s + 1);
        }
        for (int s = 0; s < 4; s++) {
            x.signOn(s, (char) ('a' + s));
            x.join(s, 0);
        }
        x.join(3, 1);
        x.deliverAll();
        Check.due("3: all are known", 15, x.known(0));
        x.split(1, 2);
        Check.due("3: 0 forgets 2 and 3", 3, x.known(0));
        Check.due("3: 1 forgets 2 and 3", 3, x.known(1));
        Check.due("3: 2 forgets 0 and 1", 12, x.known(2));
        Check.due("3: 3 forgets 0 and 1", 12, x.known(3));
        Check.due("3: members of 0", 3, x.members(0, 0));
        Check.due("3: members of 3", 12, x.members(3, 0));
        Check.due("3: no member, no channel", ChatRelay.NONE, x.age(0, 1));
        Check.due("3: the age stays", x.age(0, 0), x.age(3, 0));
        Check.due("3: without lines", 0, x.lines());
    }

    private static void splitIsRefused() {
        ChatRelay x = new ChatRelay();
        x.link(0, 1);
        x.link(1, 2);
        x.signOn(1, 'a');
        Check.dueRefusal(x, "3: server -1", Check.OUT, () -> x.split(-1, 1));
        Check.dueRefusal(x, "3: server 6", Check.OUT, () -> x.split(6, 1));
        Check.dueRefusal(x, "3: other -1", Check.OUT, () -> x.split(1, -1));
        Check.dueRefusal(x, "3: other 6", Check.OUT, () -> x.split(1, 6));
        Check.dueRefusal(x, "3: in one tree but no link", Check.STATE, () -> x.split(0, 2));
        Check.dueRefusal(x, "3: itself", Check.STATE, () -> x.split(1, 1));
        Check.dueRefusal(x, "3: in two trees", Check.STATE, () -> x.split(4, 5));
    }

    private static void deliverOneByOne() {
        ChatRelay x = new ChatRelay();
        x.link(0, 1);
        x.link(1, 2);
        x.link(1, 3);
        x.signOn(0, 'a');
        x.signOn(0, 'b');
        Check.due("4: one goes, two come", 3, x.deliver(0, 1));
        Check.due("4: the first came", 1, x.known(1));
        Check.due("4: clock", 6, x.clock());
        Check.due("4: an end of the tree", 2, x.deliver(1, 2));
        Check.due("4: there", 1, x.known(2));
        Check.due("4: not elsewhere", 0, x.known(3));
        Check.due("4: second", 3, x.deliver(0, 1));
        Check.due("4: both came", 3, x.known(1));
    }

    private static void deliverIsRefused() {
        ChatRelay x = new ChatRelay();
        x.link(0, 1);
        x.signOn(0, 'a');
        Check.dueRefusal(x, "4: server -1", Check.OUT, () -> x.deliver(-1, 1));
        Check.dueRefusal(x, "4: server 6", Check.OUT, () -> x.deliver(6, 1));
        Check.dueRefusal(x, "4: other -1", Check.OUT, () -> x.deliver(0, -1));
        Check.dueRefusal(x, "4: other 6", Check.OUT, () -> x.deliver(0, 6));
        Check.dueRefusal(x, "4: no line that way", Check.STATE, () -> x.deliver(1, 0));
        Check.dueRefusal(x, "4: no link", Check.STATE, () -> x.deliver(0, 2));
        Check.dueRefusal(x, "4: itself", Check.STATE, () -> x.deliver(0, 0));
        x.split(0, 1);
        Check.dueRefusal(x, "4: the link is split", Check.STATE, () -> x.deliver(0, 1));
    }

    private static void deliverAllTakesTurns() {
        ChatRelay x = new ChatRelay();
        Check.due("5: nothing to do", 0, x.deliverAll());
        Check.due("5: the clock grows all the same", 1, x.clock());
        x.link(0, 1);
        x.link(1, 2);
        x.signOn(0, 'a');
        x.join(0, 0);
        x.signOn(2, 'b');
        Check.due("5: 2 users and a channel over 2 links", 6, x.deliverAll());
        Check.due("5: lines then", 0, x.lines());
        Check.due("5: known", 3, x.known(0));
        Check.due("5: same", true, x.areSame(0, 2));
        Check.due("5: clock", 7, x.clock());
    }

    /**
     * A clash whose end hangs on the order: the line of 0 to 1 comes before that of 2 to 1, and
     * what 1 puts towards 2 comes in the same round, before 2 gets to send its own.
     */
    private static void deliverAllSeesLinesOfTheSameRound() {
        ChatRelay x = new ChatRelay();
        x.link(0, 1);
        x.link(1, 2);
        x.signOn(0, 'a');
        x.signOn(2, 'A');
        // USER 0->1, 1->2 (2 drops its own, QUIT 2->1), USER and QUIT 2->1: 1 answers the
        // younger USER by QUIT 1->2, which nobody knows any more, like the QUIT at 1.
        Check.due("5: count of a clash", 5, x.deliverAll());
        Check.due("5: the older one stays", 1, x.known(2));
        ChatRelay y = new ChatRelay();
        y.link(0, 1);
        y.link(1, 2);
        y.signOn(2, 'a');
        y.signOn(0, 'A');
        // USER 0->1 (the younger one, known), 1->2 (QUIT back 2->1), USER 2->1 drops the younger
        // one: QUIT to 0 and 2, USER to 0; QUIT 1->2, QUIT 2->1 find nobody.
        Check.due("5: count of the other clash", 7, y.deliverAll());
        Check.due("5: the older one stays there too", 1, y.known(0));
    }

    private static void linesCountsAllQueues() {
        ChatRelay x = new ChatRelay();
        x.link(0, 1);
        x.link(0, 2);
        x.link(3, 4);
        x.signOn(0, 'a');
        Check.due("6: one a link", 2, x.lines());
        x.signOn(4, 'b');
        x.join(1, 2);
        Check.due("6: in another tree too", 4, x.lines());
        x.signOn(5, 'c');
        Check.due("6: no link, no line", 4, x.lines());
        x.deliver(4, 3);
        Check.due("6: one less", 3, x.lines());
        Check.due("6: asking does not move the clock", 8, x.clock());
    }

    private static void trees() {
        ChatRelay x = new ChatRelay();
        x.link(5, 4);
        x.link(3, 2);
        Check.due("7: tree of 2", 12, x.tree(2));
        x.link(4, 3);
        x.link(0, 2);
        x.link(1, 0);
        for (int s = 0; s < 6; s++) {
            Check.due("7: a path of all", 63, x.tree(s));
        }
        x.split(3, 4);
        Check.due("7: one half", 15, x.tree(1));
        Check.due("7: the other half", 48, x.tree(5));
        Check.dueRefusal(x, "7: server -1", Check.OUT, () -> x.tree(-1));
        Check.dueRefusal(x, "7: server 6", Check.OUT, () -> x.tree(6));
    }
}
