/** The sentences on bursts and splits, and promises 2 to 7: empty, one, and all that there can be. */
public final class BurstsAndSplitsTest {
    private static final int ALL_LETTERS = 67108863;
    private static final int ALL_USERS = 1048575;

    public static void main(String[] args) {
        burstOfEmptyViews();
        burstOfOneSide();
        burstOfAll();
        burstOfAllBothWays();
        burstByRisingNumbers();
        burstAsItIs();
        burstOfWhatIsKnown();
        burstIntoThatLinkAlone();
        splitOfNoLines();
        splitOfBothQueues();
        splitLeavesOtherQueues();
        splitLinesNeverCome();
        splitForgetsByTree();
        splitInEachOrder();
        deliverDownToNone();
        deliverOnlyTheFirst();
        deliverAllOfNone();
        deliverAllOfOne();
        deliverAllByRisingServers();
        deliverAllByTurns();
        deliverAllByTheServerThatSends();
        deliverAllOneOfEachQueue();
        deliverAllSameRound();
        linesOfAllQueues();
        Check.end();
    }

    // ---- "each of them puts into the queue of the link, towards the other one, a line USER .."

    private static void burstOfEmptyViews() {
        ChatRelay x = new ChatRelay();
        Check.due("2: nobody is known", 0, x.link(0, 1));
        Check.due("6: no line", 0, x.lines());
        Check.dueNoLine("an empty burst", x, 0, 1);
        Check.dueNoLine("an empty burst", x, 1, 0);
        x.signOn(2, 'a');
        x.quit(0);
        Check.due("2: nobody is known any more", 0, x.link(1, 2));
    }

    private static void burstOfOneSide() {
        ChatRelay x = new ChatRelay();
        x.signOn(1, 'a');
        Check.due("2: one user of the other", 1, x.link(0, 1));
        Check.dueNoLine("the empty side", x, 0, 1);
        Check.due("4: the other side", 0, x.deliver(1, 0));
        ChatRelay y = new ChatRelay();
        y.signOn(0, 'a');
        y.join(0, 0);
        Check.due("2: one user and one channel of the server", 2, y.link(0, 1));
        Check.dueNoLine("the empty side", y, 1, 0);
        Check.due("5: both come", 2, y.deliverAll());
    }

    /** 20 users at one server, all in all four channels. */
    private static ChatRelay full() {
        ChatRelay x = new ChatRelay();
        for (int user = 0; user < 20; user++) {
            x.signOn(3, (char) ('a' + user));
            for (int channel = 0; channel < 4; channel++) {
                Check.due("10: members then", user + 1, x.join(user, channel));
            }
        }
        return x;
    }

    private static void burstOfAll() {
        ChatRelay x = full();
        for (int channel = 0; channel < 4; channel++) {
            x.setModes(19, channel, 15, ALL_LETTERS);
        }
        Check.due("2: 20 users and 4 channels", 24, x.link(2, 3));
        Check.due("6: 24 lines", 24, x.lines());
        Check.due("5: 24 lines come", 24, x.deliverAll());
        Check.due("16: all are known", ALL_USERS, x.known(2));
        for (int channel = 0; channel < 4; channel++) {
            Check.dueChannel("17 to 20: all of all", x, 2, channel, channel + 1, 15, ALL_LETTERS, ALL_USERS);
        }
        Check.due("21: the same", true, x.areSame(2, 3));
        Check.due("2: from the other end", 24, x.link(2, 0));
        Check.due("3: all are lost", 24, x.split(0, 2));
        Check.due("3: a full view is split away", 0, x.split(2, 3));
        Check.due("3: all are forgotten", 0, x.known(2));
        Check.due("16: none at home", ALL_USERS, x.known(3));
    }

    private static void burstOfAllBothWays() {
        ChatRelay x = new ChatRelay();
        for (int user = 0; user < 20; user++) {
            x.signOn(user % 2, (char) ('a' + user));
            for (int channel = 0; channel < 4; channel++) {
                x.join(user, channel);
            }
        }
        Check.due("2: 10 users and 4 channels each way", 28, x.link(1, 0));
        Check.due("3: all are lost", 28, x.split(0, 1));
        Check.due("2: and come again", 28, x.link(0, 1));
        Check.due("5: all come", 28, x.deliverAll());
        Check.due("17: all are members", ALL_USERS, x.members(0, 3) & x.members(1, 0));
        Check.due("21: the same", true, x.areSame(0, 1));
    }

    private static void burstByRisingNumbers() {
        ChatRelay x = full();
        x.link(3, 4);
        for (int user = 0; user < 20; user++) {
            Check.due("4: lines left", 23 - user, x.deliver(3, 4));
            Check.due("16: users by rising numbers", (1 << user + 1) - 1, x.known(4));
        }
        for (int channel = 0; channel < 4; channel++) {
            Check.dueNoChannel("channels come behind users", x, 4, channel);
        }
        for (int channel = 0; channel < 4; channel++) {
            Check.due("4: lines left", 3 - channel, x.deliver(3, 4));
            for (int each = 0; each < 4; each++) {
                Check.due("17: channels by rising numbers", each <= channel ? ALL_USERS : 0, x.members(4, each));
            }
        }
    }

    /** "as it is": when the link is made, not when the line comes. */
    private static void burstAsItIs() {
        ChatRelay x = new ChatRelay();
        x.signOn(0, 'a');
        x.signOn(0, 'b');
        x.join(0, 1);
        x.setModes(0, 1, 15, 8);
        x.link(0, 1);
        x.join(1, 1);
        x.setModes(0, 1, 0, 0);
        x.leave(0, 1);
        x.deliver(0, 1);
        x.deliver(0, 1);
        x.deliver(0, 1);
        Check.dueChannel("CHANNEL of the burst", x, 1, 1, 2, 15, 8, 1);
        x.deliver(0, 1);
        Check.dueChannel("CHANNEL of join()", x, 1, 1, 2, 15, 8, 3);
        x.deliver(0, 1);
        Check.dueChannel("MODES", x, 1, 1, 2, 0, 0, 3);
        x.deliver(0, 1);
        Check.dueChannel("LEAVE", x, 1, 1, 2, 0, 0, 2);
        Check.due("the same at the end", true, x.areSame(0, 1));
    }

    /** "for each user that it knows", of whatever home. */
    private static void burstOfWhatIsKnown() {
        ChatRelay x = new ChatRelay();
        x.link(0, 1);
        x.signOn(0, 'a');
        x.signOn(0, 'b');
        x.deliver(0, 1);
        Check.due("2: 1 knows one, the other waits", 1, x.link(1, 2));
        Check.due("4: the other goes on as a line", 2, x.deliver(0, 1));
        Check.due("4: the first", 1, x.deliver(1, 2));
        Check.due("16: of the burst", 1, x.known(2));
        Check.due("4: the second", 0, x.deliver(1, 2));
        Check.due("16: of the line", 3, x.known(2));
    }

    private static void burstIntoThatLinkAlone() {
        ChatRelay x = new ChatRelay();
        x.link(0, 1);
        x.link(2, 3);
        x.signOn(0, 'a');
        x.signOn(2, 'b');
        x.deliverAll();
        Check.due("2: one line each way", 2, x.link(1, 2));
        Check.dueNoLine("burst", x, 1, 0);
        Check.dueNoLine("burst", x, 2, 3);
        Check.due("5: each of them over two links", 4, x.deliverAll());
        Check.due("21: the same", true, x.areSame(0, 3));
    }

    // ---- "When a link is split, the lines in its queues are gone"

    private static void splitOfNoLines() {
        ChatRelay x = new ChatRelay();
        x.link(0, 1);
        Check.due("3: no line was ever there", 0, x.split(0, 1));
        x.link(1, 0);
        x.signOn(0, 'a');
        x.deliverAll();
        Check.due("3: all lines have come", 0, x.split(0, 1));
        Check.dueRefusal(x, "3: split already", Check.STATE, () -> x.split(0, 1));
        Check.dueRefusal(x, "3: split already, the other way", Check.STATE, () -> x.split(1, 0));
    }

    private static void splitOfBothQueues() {
        for (int turned = 0; turned < 2; turned++) {
            ChatRelay x = new ChatRelay();
            x.link(0, 1);
            x.signOn(0, 'a');
            Check.due("3: one line of the one way", 1, x.split(turned, 1 - turned));
            x.link(0, 1);
            x.signOn(1, 'b');
            x.join(1, 0);
            Check.due("3: one line and two", 3, x.split(turned, 1 - turned));
            Check.due("6: none are left", 0, x.lines());
        }
    }

    private static void splitLeavesOtherQueues() {
        ChatRelay x = new ChatRelay();
        x.link(0, 1);
        x.link(1, 2);
        x.link(2, 3);
        x.link(4, 5);
        x.signOn(1, 'a');
        x.signOn(2, 'b');
        x.signOn(4, 'c');
        Check.due("6: 2, 2 and 1", 5, x.lines());
        Check.due("3: those of the link alone", 2, x.split(2, 1));
        Check.due("6: the others stay", 3, x.lines());
        Check.due("4: at the one side", 2, x.deliver(1, 0));
        Check.due("4: at the other side", 1, x.deliver(2, 3));
        Check.due("4: far off", 0, x.deliver(4, 5));
        Check.due("16: a came", 1, x.known(0));
        Check.due("16: b came", 2, x.known(3));
        Check.due("16: c came", 4, x.known(5));
    }

    private static void splitLinesNeverCome() {
        ChatRelay x = new ChatRelay();
        x.link(0, 1);
        x.signOn(0, 'a');
        x.join(0, 0);
        x.quit(0);
        Check.due("3: USER, CHANNEL and QUIT", 3, x.split(0, 1));
        Check.due("2: a new link begins empty", 0, x.link(0, 1));
        Check.dueNoLine("a new link", x, 0, 1);
        Check.due("5: nothing comes", 0, x.deliverAll());
        x.signOn(0, 'b');
        Check.due("4: but what is put there then", 0, x.deliver(0, 1));
        Check.due("16: which is b", 2, x.known(1));
    }

    // ---- "each server forgets all users whose home server is not in its tree any more"

    private static void splitForgetsByTree() {
        ChatRelay x = new ChatRelay();
        for (int server = 1; server < 6; server++) {
            x.link(server - 1, server);
        }
        for (int server = 0; server < 6; server++) {
            x.signOn(server, (char) ('u' + server));
            x.join(server, 0);
            x.join(server, server % 2 + 1);
        }
        x.deliverAll();
        int age = x.age(0, 0);
        Check.due("16: all are known", 63, x.known(5));
        Check.due("3: no line waits", 0, x.split(2, 3));
        for (int server = 0; server < 6; server++) {
            int stay = server < 3 ? 7 : 56;
            Check.due("16: those of the tree are known", stay, x.known(server));
            Check.due("17: and members of 0", stay, x.members(server, 0));
            Check.due("17: and members of 1", stay & 21, x.members(server, 1));
            Check.due("17: and members of 2", stay & 42, x.members(server, 2));
            Check.due("18: the age stays", age, x.age(server, 0));
        }
        Check.due("6: without lines", 0, x.lines());
        x.split(4, 5);
        Check.due("16: one alone", 32, x.known(5));
        Check.due("16: two are left", 24, x.known(3));
        Check.due("16: the other tree stays", 7, x.known(0));
        Check.dueNoChannel("who was of one tree alone", x, 5, 1);
    }

    private static void splitInEachOrder() {
        for (int turned = 0; turned < 2; turned++) {
            ChatRelay x = new ChatRelay();
            x.link(3, 1);
            x.signOn(3, 'a');
            x.signOn(1, 'b');
            x.deliverAll();
            Check.due("3: whichever is named first", 0, turned == 0 ? x.split(3, 1) : x.split(1, 3));
            Check.due("16: 3 knows its own", 1, x.known(3));
            Check.due("16: 1 knows its own", 2, x.known(1));
            Check.due("7: the trees", 8 | 2, x.tree(3) | x.tree(1));
        }
    }

    // ---- promises 4 to 6

    /** "how many lines are in all queues then", down to 0. */
    private static void deliverDownToNone() {
        ChatRelay x = new ChatRelay();
        x.link(0, 1);
        x.link(2, 3);
        x.signOn(2, 'z');
        for (int user = 1; user <= 5; user++) {
            x.signOn(0, (char) ('a' + user));
        }
        for (int left = 5; left >= 1; left--) {
            Check.due("4: with the one far off", left, x.deliver(0, 1));
        }
        Check.dueNoLine("the last has gone", x, 0, 1);
        Check.due("4: the one far off", 0, x.deliver(2, 3));
        Check.dueNoLine("the last has gone", x, 2, 3);
        x.quit(0);
        Check.due("4: another one comes", 0, x.deliver(2, 3));
    }

    private static void deliverOnlyTheFirst() {
        ChatRelay x = new ChatRelay();
        x.link(0, 1);
        x.signOn(0, 'a');
        x.join(0, 0);
        x.leave(0, 0);
        x.deliver(0, 1);
        Check.due("4: USER alone", 1, x.known(1));
        Check.dueNoChannel("4: CHANNEL not yet", x, 1, 0);
        x.deliver(0, 1);
        Check.due("4: CHANNEL, LEAVE not yet", 1, x.members(1, 0));
        x.deliver(0, 1);
        Check.dueNoChannel("4: LEAVE", x, 1, 0);
    }

    private static void deliverAllOfNone() {
        ChatRelay x = new ChatRelay();
        Check.due("5: no link", 0, x.deliverAll());
        x.link(0, 1);
        Check.due("5: no line", 0, x.deliverAll());
        x.signOn(0, 'a');
        x.deliverAll();
        Check.due("5: no line any more", 0, x.deliverAll());
        Check.due("15: the clock grows all the same", 6, x.clock());
    }

    private static void deliverAllOfOne() {
        ChatRelay x = new ChatRelay();
        x.link(4, 5);
        x.signOn(5, 'a');
        Check.due("5: from the last server", 1, x.deliverAll());
        Check.due("16: it came", 1, x.known(4));
        for (int server = 4; server > 0; server--) {
            x.link(server, server - 1);
        }
        Check.due("5: from one end to the other", 4, x.deliverAll());
        Check.due("6: none is left", 0, x.lines());
        Check.due("16: it came to the end", 1, x.known(0));
    }

    /**
     * "for each server, by rising numbers": a comes from 0 to 1 before A does from 2. Were it the
     * other way round, 7 lines would go instead of 5, as they do with the ages turned.
     */
    private static void deliverAllByRisingServers() {
        ChatRelay x = new ChatRelay();
        x.link(0, 1);
        x.link(1, 2);
        x.signOn(0, 'a');
        x.signOn(2, 'A');
        Check.due("5: the older one from the lower server", 5, x.deliverAll());
        Check.due("16: the older one", 1, x.known(0) & x.known(1) & x.known(2));
        ChatRelay y = new ChatRelay();
        y.link(0, 1);
        y.link(1, 2);
        y.signOn(2, 'A');
        y.signOn(0, 'a');
        Check.due("5: the older one from the higher server", 7, y.deliverAll());
        Check.due("16: the older one there", 1, y.known(0) & y.known(1) & y.known(2));
    }

    /**
     * "for each server, by rising numbers, and each other one that it has a link with, by rising
     * numbers, the first line from that server to the other one, if there is one then": the same
     * as to call deliver() in that order. (The order of the others alone shows nowhere: what one
     * server sends to two of them meets in no queue and no view before its turn is over.)
     */
    private static void deliverAllByTurns() {
        int[][][] trees = {{{0, 1}, {1, 2}, {2, 3}, {3, 4}, {4, 5}}, {{3, 0}, {3, 1}, {3, 2}, {3, 4}, {3, 5}},
            {{5, 0}, {0, 4}, {4, 1}, {1, 3}, {3, 2}}, {{2, 5}, {5, 1}, {0, 2}, {4, 2}}, {{0, 5}, {1, 4}, {2, 3}}};
        for (int[][] tree : trees) {
            for (int first = 0; first < 6; first++) {
                ChatRelay x = clashes(tree, first);
                ChatRelay y = clashes(tree, first);
                int due = byTurns(y);
                int clock = x.clock();
                Check.due("5: lines delivered", due, x.deliverAll());
                Check.due("6: none is left", 0, x.lines());
                Check.due("15: the clock grows by 1", clock + 1, x.clock());
                for (int server = 0; server < 6; server++) {
                    Check.due("16: known at " + server, y.known(server), x.known(server));
                    Check.due("17: members at " + server, y.members(server, 0), x.members(server, 0));
                }
            }
        }
    }

    private static ChatRelay clashes(int[][] tree, int first) {
        ChatRelay x = new ChatRelay();
        for (int[] link : tree) {
            x.link(link[0], link[1]);
        }
        for (int user = 0; user < 18; user++) {
            x.signOn((first + user * 5) % 6, (char) ('a' + user / 6 * 2 + user % 2));
            x.join(user, 0);
        }
        return x;
    }

    private static int byTurns(ChatRelay x) {
        int delivered = 0;
        for (int round = 0; round < 1000 && x.lines() > 0; round++) {
            for (int server = 0; server < 6; server++) {
                for (int other = 0; other < 6; other++) {
                    try {
                        x.deliver(server, other);
                        delivered++;
                    } catch (IllegalStateException none) {
                        continue;
                    }
                }
            }
        }
        return delivered;
    }

    /**
     * "for each server .. the first line from that server": turns go by the server that sends.
     * On 1-0-3-2 the older b of 2 passes 3 before that of 1, which has got to 0, goes on to 3.
     * Went the turns by the server that gets, it would pass 3 behind it, and 10 lines would go.
     */
    private static void deliverAllByTheServerThatSends() {
        ChatRelay x = new ChatRelay();
        x.link(0, 1);
        x.signOn(2, 'b');
        x.link(0, 3);
        x.signOn(1, 'B');
        x.link(3, 2);
        Check.due("5: by the server that sends", 8, x.deliverAll());
        Check.due("16: the older one", 1, x.known(0) & x.known(1) & x.known(2) & x.known(3));
    }

    /** "the first line from that server to the other one": one of each queue in a going through. */
    private static void deliverAllOneOfEachQueue() {
        ChatRelay x = new ChatRelay();
        x.link(0, 1);
        x.link(1, 2);
        x.signOn(0, 'b');
        x.signOn(0, 'a');
        x.signOn(2, 'A');
        // One each: b comes to 1 and 2, then A to 1 before a does. Were all lines of 0 to go at
        // once, a would be first at 1, and seven lines go.
        Check.due("5: b over two links, then the clash", 2 + 7, x.deliverAll());
        Check.due("16: the older one", 3, x.known(0) & x.known(1) & x.known(2));
    }

    /** "(also one that was put there since this going through began)" */
    private static void deliverAllSameRound() {
        ChatRelay x = new ChatRelay();
        x.link(0, 1);
        x.link(1, 2);
        x.link(2, 3);
        x.signOn(0, 'a');
        x.signOn(3, 'A');
        // a comes to 1, 2 and 3 before 3 gets to send A, which comes to 2, where a is known:
        // three lines for a, one for A, and two QUIT between 2 and 3.
        Check.due("5: all in the first going through, but for QUIT", 6, x.deliverAll());
        Check.due("16: the older one", 1, x.known(0) & x.known(1) & x.known(2) & x.known(3));
    }

    private static void linesOfAllQueues() {
        ChatRelay x = new ChatRelay();
        Check.due("6: no queue", 0, x.lines());
        for (int server = 1; server < 6; server++) {
            x.link(server - 1, server);
        }
        Check.due("6: ten empty queues", 0, x.lines());
        for (int server = 0; server < 6; server++) {
            x.signOn(server, (char) ('a' + server));
        }
        Check.due("6: one in each of ten queues", 10, x.lines());
        Check.due("3: two of one link", 2, x.split(0, 1));
        Check.due("6: one in each of eight queues", 8, x.lines());
        x.deliverAll();
        Check.due("6: none in eight queues", 0, x.lines());
    }
}
