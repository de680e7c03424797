/** What each line does to the server that gets it (the Terms), as promises 2 to 13 tell it. */
public final class LinesTest {
    public static void main(String[] args) {
        userFromOutsideTheTree();
        userOlderOneStays();
        userYoungerOneQuits();
        userKnownAlreadyGoesOn();
        userComesBackToItsHome();
        quitOfUnknownStops();
        channelLeavesOutUnknown();
        channelGoesOnAsItCame();
        channelOfLesserAge();
        channelOfGreaterAge();
        channelOfSameAge();
        leaveGoesOnInAnyCase();
        modesOfAnotherAge();
        modesGoOnInAnyCase();
        linesGoAwayFromTheLink();
        Check.end();
    }

    private static void userFromOutsideTheTree() {
        ChatRelay x = new ChatRelay();
        x.link(0, 1);
        x.link(1, 2);
        x.link(2, 3);
        x.signOn(0, 'a');
        x.deliver(0, 1);
        x.split(0, 1);
        Check.due("USER is still on its way", 1, x.lines());
        Check.due("USER of another tree does not go on", 0, x.deliver(1, 2));
        Check.due("USER of another tree is not known", 0, x.known(2));
    }

    private static void userOlderOneStays() {
        ChatRelay x = new ChatRelay();
        x.link(0, 1);
        x.link(1, 2);
        x.link(1, 3);
        x.signOn(1, 'a');
        x.deliverAll();
        x.split(0, 1);
        x.signOn(0, 'A');
        x.link(0, 1);
        Check.due("QUIT goes back alone", 2, x.deliver(0, 1));
        Check.due("the older one stays", 1, x.known(1));
        x.deliver(1, 0);
        Check.due("USER of the older one makes the younger one quit", 1, x.known(0));
        Check.due("its QUIT goes to that link too", 2, x.lines());
        Check.due("the younger one is gone", ChatRelay.IS_GONE, x.say(1, 0));
        Check.due("the QUIT that goes back comes behind it", 1, x.deliver(1, 0));
        x.deliverAll();
        Check.due("all is the same", true, x.areSame(0, 3));
    }

    private static void userYoungerOneQuits() {
        ChatRelay x = new ChatRelay();
        x.link(1, 2);
        x.link(1, 3);
        x.signOn(0, 'q');
        x.signOn(1, 'Q');
        x.join(1, 0);
        x.deliverAll();
        x.link(0, 1);
        Check.due("lines of the bursts", 3, x.lines());
        Check.due("QUIT over 3 links, USER over 2", 3 - 1 + 5, x.deliver(0, 1));
        Check.due("the older one is known instead", 1, x.known(1));
        Check.due("the younger one's channel is gone", ChatRelay.NONE, x.age(1, 0));
        x.deliver(1, 2);
        Check.due("first the QUIT", 0, x.known(2));
        x.deliver(1, 2);
        Check.due("then the USER", 1, x.known(2));
    }

    /** A user known already is no other user with that name: its line goes on once more. */
    private static void userKnownAlreadyGoesOn() {
        ChatRelay x = new ChatRelay();
        x.link(0, 1);
        x.link(1, 2);
        x.link(2, 3);
        x.signOn(0, 'a');
        x.deliver(0, 1);
        x.split(0, 1);
        x.link(0, 2);
        Check.due("the burst of 0 goes on to 1 and 3", 3, x.deliver(0, 2));
        Check.due("known by the burst", 1, x.known(2));
        Check.due("the old line goes on to 0 and 3", 4, x.deliver(1, 2));
        Check.due("still known", 1, x.known(2));
        Check.due("all come", 4, x.deliverAll());
        Check.due("all is the same", true, x.areSame(0, 3));
    }

    /** A line that is on its way may reach the home of its user from the other side. */
    private static void userComesBackToItsHome() {
        ChatRelay x = new ChatRelay();
        x.link(0, 1);
        x.link(1, 2);
        x.signOn(0, 'a');
        x.deliver(0, 1);
        x.split(0, 1);
        x.quit(0);
        x.link(0, 2);
        Check.due("gone", ChatRelay.IS_GONE, x.say(0, 0));
        x.deliver(1, 2);
        Check.due("its old USER comes", 1, x.known(2));
        x.deliver(2, 0);
        Check.due("its home knows it again", 1, x.known(0));
        Check.due("it is not gone", ChatRelay.NO_MEMBER, x.say(0, 0));
        Check.due("it can join", 1, x.join(0, 1));
    }

    private static void quitOfUnknownStops() {
        ChatRelay x = new ChatRelay();
        x.link(0, 1);
        x.link(1, 2);
        x.signOn(0, 'a');
        x.deliverAll();
        x.quit(0);
        Check.due("QUIT goes on", 1, x.deliver(0, 1));
        Check.due("QUIT ends", 0, x.deliver(1, 2));
        ChatRelay y = new ChatRelay();
        y.link(0, 1);
        y.link(1, 2);
        y.signOn(1, 'a');
        y.signOn(0, 'a');
        y.deliver(0, 1);
        y.quit(1);
        // in 0->1 waits the QUIT of a user that 1 never knew
        Check.due("before", 4, y.lines());
        Check.due("QUIT of one unknown does not go on", 3, y.deliver(0, 1));
    }

    private static void channelLeavesOutUnknown() {
        ChatRelay x = new ChatRelay();
        x.signOn(0, 'a');
        x.signOn(0, 'b');
        x.join(0, 0);
        x.join(1, 0);
        x.setModes(0, 0, 4, 2);
        x.signOn(1, 'B');
        x.signOn(1, 'c');
        x.join(3, 0);
        x.link(0, 1);
        x.quit(1);
        x.deliver(0, 1);
        x.deliver(0, 1);
        Check.due("b made B quit", 1 | 2 | 8, x.known(1));
        ChatRelay y = new ChatRelay();
        y.signOn(1, 'b');
        y.signOn(0, 'a');
        y.signOn(0, 'B');
        y.join(1, 0);
        y.join(2, 0);
        y.setModes(1, 0, 4, 2);
        y.link(0, 1);
        y.deliver(0, 1);
        y.deliver(0, 1);
        y.deliver(0, 1);
        Check.due("B is left out", 2, y.members(1, 0));
        Check.due("the age is told", y.age(0, 0), y.age(1, 0));
        Check.due("the modes are told", 4, y.modes(1, 0));
        Check.due("the bans are told", 2, y.bans(1, 0));
        ChatRelay z = new ChatRelay();
        z.signOn(1, 'b');
        z.signOn(0, 'B');
        z.join(1, 0);
        z.link(0, 1);
        z.deliver(0, 1);
        z.deliver(0, 1);
        Check.due("none is left, no channel", ChatRelay.NONE, z.age(1, 0));
        z.signOn(1, 'd');
        z.join(2, 0);
        int age = z.age(1, 0);
        z.split(0, 1);
        z.link(0, 1);
        z.deliver(0, 1);
        z.deliver(0, 1);
        Check.due("none is left, the channel stays as it is", age, z.age(1, 0));
        Check.due("with its member", 4, z.members(1, 0));
    }

    /** A server that leaves members out, or all of them, sends them on all the same. */
    private static void channelGoesOnAsItCame() {
        ChatRelay x = new ChatRelay();
        x.link(0, 1);
        x.link(1, 2);
        x.signOn(0, 'a');
        x.signOn(0, 'c');
        x.join(0, 0);
        x.join(1, 0);
        x.setModes(0, 0, 7, 3);
        x.deliverAll();
        x.split(0, 1);
        x.signOn(1, 'd');
        x.deliverAll();
        x.quit(2);
        x.link(0, 1);
        // USER a, USER c, CHANNEL in 0->1; a is known at 2, and quits at 1 on its way.
        x.deliver(0, 1);
        x.deliver(0, 1);
        x.quit(0);
        x.quit(1);
        Check.due("QUIT d, USER a and c towards 2; CHANNEL and 2 QUIT towards 1", 6, x.lines());
        x.deliver(0, 1);
        for (int line = 0; line < 3; line++) {
            x.deliver(1, 2);
        }
        x.deliver(0, 1);
        x.deliver(0, 1);
        x.deliver(1, 2);
        Check.due("CHANNEL came whole", 3, x.members(2, 0));
        Check.due("with its modes", 7, x.modes(2, 0));
        x.deliverAll();
        Check.due("all quit", 0, x.known(2));

        ChatRelay y = new ChatRelay();
        y.link(1, 2);
        y.signOn(1, 'b');
        y.signOn(0, 'B');
        y.join(1, 0);
        y.link(0, 1);
        y.deliver(0, 1);
        int before = y.lines();
        Check.due("no member is left: the line goes on", before, y.deliver(0, 1));
        Check.due("and the view stays", ChatRelay.NONE, y.age(1, 0));
    }

    /** Two channels that differ, with the one of 0 older: modes 1 and bans 2 of it win. */
    private static ChatRelay differing() {
        ChatRelay x = new ChatRelay();
        x.signOn(0, 'x');
        x.signOn(1, 'y');
        x.join(0, 2);
        x.join(1, 2);
        x.setModes(0, 2, 1, 2);
        x.setModes(1, 2, 12, 48);
        x.link(0, 1);
        return x;
    }

    private static void channelOfLesserAge() {
        ChatRelay x = differing();
        x.deliver(0, 1);
        x.deliver(0, 1);
        Check.due("the lesser age", 2, x.age(1, 2));
        Check.due("its modes", 1, x.modes(1, 2));
        Check.due("its bans", 2, x.bans(1, 2));
        Check.due("the members of both", 3, x.members(1, 2));
    }

    private static void channelOfGreaterAge() {
        ChatRelay x = differing();
        x.deliver(1, 0);
        x.deliver(1, 0);
        Check.due("the age stays", 2, x.age(0, 2));
        Check.due("the modes stay", 1, x.modes(0, 2));
        Check.due("the bans stay", 2, x.bans(0, 2));
        Check.due("the members are of both", 3, x.members(0, 2));
    }

    private static void channelOfSameAge() {
        ChatRelay x = differing();
        x.deliverAll();
        x.setModes(0, 2, 3, 5);
        x.setModes(1, 2, 9, 1 << 25);
        x.split(0, 1);
        Check.due("one member each", 1, x.members(0, 2));
        x.link(0, 1);
        x.deliver(0, 1);
        x.deliver(0, 1);
        Check.due("the age", 2, x.age(1, 2));
        Check.due("the modes of both", 11, x.modes(1, 2));
        Check.due("the bans of both", 1 << 25 | 5, x.bans(1, 2));
        Check.due("the members of both", 3, x.members(1, 2));
        x.deliverAll();
        Check.due("at both ends", true, x.areSame(0, 1));
    }

    private static void leaveGoesOnInAnyCase() {
        ChatRelay x = new ChatRelay();
        x.link(0, 1);
        x.link(1, 2);
        x.signOn(0, 'a');
        x.join(0, 0);
        x.deliverAll();
        x.leave(0, 0);
        x.split(0, 1);
        x.link(0, 1);
        Check.due("a split loses the LEAVE", 0, x.members(1, 0));
        x.deliverAll();
        x.join(0, 0);
        x.split(0, 1);
        x.link(0, 1);
        x.leave(0, 0);
        x.deliver(0, 1);
        Check.due("USER, CHANNEL and LEAVE", 3, x.lines());
        x.deliver(0, 1);
        x.deliver(0, 1);
        Check.due("all went on", 3, x.lines());
        // The LEAVE of one who is no member at 1: its CHANNEL is lost in a split.
        ChatRelay y = new ChatRelay();
        y.signOn(1, 'a');
        y.signOn(0, 'A');
        y.join(1, 0);
        y.link(0, 1);
        y.link(1, 2);
        y.leave(1, 0);
        y.deliver(0, 1);
        y.deliver(0, 1);
        int before = y.lines();
        Check.due("LEAVE of no member goes on", before, y.deliver(0, 1));
    }

    private static void modesOfAnotherAge() {
        ChatRelay x = differing();
        x.setModes(1, 2, 6, 7);
        x.deliver(1, 0);
        x.deliver(1, 0);
        x.deliver(1, 0);
        Check.due("MODES of a greater age", 1, x.modes(0, 2));
        Check.due("bans of a greater age", 2, x.bans(0, 2));
        x.setModes(0, 2, 8, 9);
        x.deliverAll();
        Check.due("MODES of the same age", 8, x.modes(1, 2));
        Check.due("bans of the same age", 9, x.bans(1, 2));
        ChatRelay y = differing();
        y.setModes(0, 2, 14, 13);
        y.deliver(0, 1);
        y.deliver(0, 1);
        y.leave(1, 2);
        y.leave(0, 2);
        y.deliver(1, 0);
        y.deliver(0, 1);
        Check.due("MODES of the lesser age, when the ages are the same", 14, y.modes(1, 2));
    }

    private static void modesGoOnInAnyCase() {
        ChatRelay x = new ChatRelay();
        x.signOn(1, 'a');
        x.signOn(0, 'A');
        x.join(1, 0);
        x.link(0, 1);
        x.link(1, 2);
        x.setModes(1, 0, 3, 3);
        x.deliver(0, 1);
        x.deliver(0, 1);
        int before = x.lines();
        Check.due("MODES of no channel go on", before, x.deliver(0, 1));
        Check.due("and make none", ChatRelay.NONE, x.modes(1, 0));
    }

    private static void linesGoAwayFromTheLink() {
        ChatRelay x = new ChatRelay();
        x.link(0, 1);
        x.link(0, 2);
        x.link(0, 3);
        x.link(3, 4);
        x.link(3, 5);
        x.signOn(1, 'a');
        Check.due("USER", 2, x.deliver(1, 0));
        x.deliverAll();
        x.join(0, 0);
        Check.due("CHANNEL", 2, x.deliver(1, 0));
        Check.due("CHANNEL again", 3, x.deliver(0, 3));
        x.deliverAll();
        x.setModes(0, 0, 1, 1);
        Check.due("MODES", 2, x.deliver(1, 0));
        x.deliverAll();
        x.leave(0, 0);
        Check.due("LEAVE", 2, x.deliver(1, 0));
        x.deliverAll();
        x.quit(0);
        Check.due("QUIT", 2, x.deliver(1, 0));
        Check.due("the rest", 4, x.deliverAll());
    }
}
