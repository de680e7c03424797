/** Promises 8 to 13: signOn, quit, join, leave, setModes, say. */
public final class UsersTest {
    public static void main(String[] args) {
        signOnNumbers();
        signOnIsRefused();
        signOnTwentyUsers();
        quitting();
        quitIsRefused();
        joining();
        joinIsRefused();
        joinTellsOneMember();
        leaving();
        leaveIsRefused();
        settingModes();
        setModesIsRefused();
        sayCountsLinks();
        sayGoesByTheHomeView();
        sayIsRefused();
        sayOrderOfReasons();
        Check.end();
    }

    private static void signOnNumbers() {
        ChatRelay x = new ChatRelay();
        x.link(0, 1);
        x.link(0, 2);
        Check.due("8: first", 0, x.signOn(0, 'a'));
        Check.due("8: lines to all links", 2, x.lines());
        Check.due("8: known at once", 1, x.known(0));
        Check.due("8: not elsewhere", 0, x.known(1));
        Check.due("8: clock", 3, x.clock());
        Check.due("8: the least letter, capital, elsewhere", 1, x.signOn(5, 'A'));
        Check.due("8: the greatest letter", 2, x.signOn(0, 'z'));
        Check.due("8: the greatest letter, capital", 3, x.signOn(5, 'Z'));
        Check.due("8: users", 4, x.users());
        x.deliver(0, 1);
        Check.due("8: USER came", 1, x.known(1));
    }

    private static void signOnIsRefused() {
        ChatRelay x = new ChatRelay();
        x.link(0, 1);
        x.signOn(0, 'm');
        Check.dueRefusal(x, "8: server -1", Check.OUT, () -> x.signOn(-1, 'b'));
        Check.dueRefusal(x, "8: server 6", Check.OUT, () -> x.signOn(6, 'b'));
        Check.dueRefusal(x, "8: server 6, no letter", Check.OUT, () -> x.signOn(6, '1'));
        char[] none = {'a' - 1, 'z' + 1, 'A' - 1, 'Z' + 1, '0', ' ', 0, 255, 0x130, 0x212a, 65535};
        for (char name : none) {
            Check.dueRefusal(x, "8: sign " + (int) name, Check.ARGUMENT, () -> x.signOn(0, name));
        }
        Check.dueRefusal(x, "8: the same letter", Check.STATE, () -> x.signOn(0, 'm'));
        Check.dueRefusal(x, "8: the capital letter", Check.STATE, () -> x.signOn(0, 'M'));
        Check.due("8: 1 does not know it yet", 1, x.signOn(1, 'M'));
        x.quit(0);
        Check.due("8: the name is free again", 2, x.signOn(0, 'M'));
    }

    private static void signOnTwentyUsers() {
        ChatRelay x = new ChatRelay();
        for (int u = 0; u < 20; u++) {
            Check.due("8: user", u, x.signOn(u % 6, (char) ('A' + u)));
        }
        Check.dueRefusal(x, "8: 21st", Check.STATE, () -> x.signOn(0, 'z'));
        Check.dueRefusal(x, "8: 21st, no letter", Check.ARGUMENT, () -> x.signOn(0, '?'));
        x.quit(3);
        Check.dueRefusal(x, "8: quitting makes no room", Check.STATE, () -> x.signOn(3, 'D'));
        Check.due("8: users", 20, x.users());
        Check.due("8: the last one is real", 1, x.join(19, 0));
        Check.due("8: as a member", 1 << 19, x.members(1, 0));
    }

    private static void quitting() {
        ChatRelay x = new ChatRelay();
        x.link(0, 1);
        x.link(0, 2);
        x.signOn(0, 'a');
        x.signOn(1, 'b');
        x.join(0, 0);
        x.join(0, 3);
        x.join(1, 3);
        x.deliverAll();
        int clock = x.clock();
        x.quit(0);
        Check.due("9: clock", clock + 1, x.clock());
        Check.due("9: lines to all links", 2, x.lines());
        Check.due("9: known no more", 2, x.known(0));
        Check.due("9: still elsewhere", 3, x.known(1));
        Check.due("9: member no more", 2, x.members(0, 3));
        Check.due("9: a channel without members", ChatRelay.NONE, x.age(0, 0));
        x.deliver(0, 1);
        Check.due("9: QUIT came", 2, x.known(1));
        Check.due("9: member no more there", 2, x.members(1, 3));
        Check.due("9: a channel without members there", ChatRelay.NONE, x.modes(1, 0));
    }

    private static void quitIsRefused() {
        ChatRelay x = new ChatRelay();
        Check.dueRefusal(x, "9: nobody yet", Check.OUT, () -> x.quit(0));
        x.link(0, 1);
        x.signOn(0, 'a');
        Check.dueRefusal(x, "9: user -1", Check.OUT, () -> x.quit(-1));
        Check.dueRefusal(x, "9: user 1", Check.OUT, () -> x.quit(1));
        Check.dueRefusal(x, "9: user 32", Check.OUT, () -> x.quit(32));
        x.deliverAll();
        x.quit(0);
        Check.dueRefusal(x, "9: gone", Check.STATE, () -> x.quit(0));
    }

    private static void joining() {
        ChatRelay x = new ChatRelay();
        x.link(0, 1);
        x.signOn(0, 'a');
        x.signOn(0, 'b');
        Check.due("10: first", 1, x.join(0, 3));
        Check.due("10: the clock as its age", 3, x.age(0, 3));
        Check.due("10: no modes", 0, x.modes(0, 3));
        Check.due("10: no bans", 0, x.bans(0, 3));
        Check.due("10: clock", 4, x.clock());
        Check.due("10: lines", 3, x.lines());
        x.setModes(0, 3, 5, 1);
        Check.due("10: second", 2, x.join(1, 3));
        Check.due("10: the age stays", 3, x.age(0, 3));
        Check.due("10: the modes stay", 5, x.modes(0, 3));
        Check.due("10: the bans stay", 1, x.bans(0, 3));
        Check.due("10: members", 3, x.members(0, 3));
        x.leave(0, 3);
        x.leave(1, 3);
        x.join(1, 3);
        Check.due("10: a new age", 8, x.age(0, 3));
        Check.due("10: no modes again", 0, x.modes(0, 3));
        Check.due("10: no bans again", 0, x.bans(0, 3));
    }

    private static void joinIsRefused() {
        ChatRelay x = new ChatRelay();
        x.link(0, 1);
        x.signOn(0, 'c');
        x.signOn(0, 'D');
        x.join(0, 0);
        Check.dueRefusal(x, "10: user -1", Check.OUT, () -> x.join(-1, 0));
        Check.dueRefusal(x, "10: user 2", Check.OUT, () -> x.join(2, 0));
        Check.dueRefusal(x, "10: channel -1", Check.OUT, () -> x.join(0, -1));
        Check.dueRefusal(x, "10: channel 4", Check.OUT, () -> x.join(0, 4));
        Check.dueRefusal(x, "10: a member", Check.STATE, () -> x.join(0, 0));
        x.setModes(0, 0, 0, 1 << 3);
        Check.dueRefusal(x, "10: banned", Check.STATE, () -> x.join(1, 0));
        Check.due("10: not banned elsewhere", 1, x.join(1, 1));
        x.setModes(0, 0, 15, ~(1 << 3) & 67108863);
        Check.due("10: all others are banned", 2, x.join(1, 0));
        x.quit(1);
        Check.dueRefusal(x, "10: gone", Check.STATE, () -> x.join(1, 2));
        Check.dueRefusal(x, "10: gone, channel 4", Check.OUT, () -> x.join(1, 4));
        x.signOn(1, 'e');
        x.setModes(0, 0, 0, 1 << 4);
        Check.due("10: the ban has not come to the home server", 1, x.join(2, 0));
    }

    /** The line tells the channel's age, modes and bans, and the one who joins alone. */
    private static void joinTellsOneMember() {
        ChatRelay x = new ChatRelay();
        x.signOn(0, 'a');
        x.signOn(0, 'b');
        x.join(0, 1);
        x.setModes(0, 1, 6, 8);
        x.link(0, 1);
        x.deliver(0, 1);
        x.deliver(0, 1);
        x.join(1, 1);
        x.split(0, 1);
        x.link(0, 1);
        x.deliver(0, 1);
        x.deliver(0, 1);
        x.deliver(0, 1);
        x.leave(0, 1);
        x.leave(1, 1);
        x.deliverAll();
        Check.due("10: all have left", 0, x.members(1, 1));
        x.join(0, 1);
        x.deliverAll();
        x.setModes(0, 1, 3, 32);
        x.deliver(0, 1);
        x.join(1, 1);
        x.leave(0, 1);
        x.deliver(0, 1);
        Check.due("10: members there", 3, x.members(1, 1));
        Check.due("10: modes there", 3, x.modes(1, 1));
        Check.due("10: bans there", 32, x.bans(1, 1));
        x.deliver(0, 1);
        Check.due("10: then the one left", 2, x.members(1, 1));
    }

    private static void leaving() {
        ChatRelay x = new ChatRelay();
        x.link(0, 1);
        x.link(0, 2);
        x.signOn(0, 'a');
        x.signOn(1, 'b');
        x.join(0, 0);
        x.join(0, 1);
        x.deliverAll();
        x.join(1, 0);
        x.deliverAll();
        int clock = x.clock();
        x.leave(0, 0);
        Check.due("11: clock", clock + 1, x.clock());
        Check.due("11: lines to all links", 2, x.lines());
        Check.due("11: members", 2, x.members(0, 0));
        Check.due("11: not yet there", 3, x.members(1, 0));
        Check.due("11: other channels stay", 1, x.members(0, 1));
        Check.due("11: the user stays known", 3, x.known(0));
        x.deliver(0, 2);
        Check.due("11: LEAVE came", 2, x.members(2, 0));
        x.leave(0, 1);
        Check.due("11: a channel without members", ChatRelay.NONE, x.bans(0, 1));
        x.deliverAll();
        Check.due("11: gone everywhere", ChatRelay.NONE, x.age(2, 1));
    }

    private static void leaveIsRefused() {
        ChatRelay x = new ChatRelay();
        x.link(0, 1);
        x.signOn(0, 'a');
        x.join(0, 0);
        Check.dueRefusal(x, "11: user -1", Check.OUT, () -> x.leave(-1, 0));
        Check.dueRefusal(x, "11: user 1", Check.OUT, () -> x.leave(1, 0));
        Check.dueRefusal(x, "11: channel -1", Check.OUT, () -> x.leave(0, -1));
        Check.dueRefusal(x, "11: channel 4", Check.OUT, () -> x.leave(0, 4));
        Check.dueRefusal(x, "11: no member", Check.STATE, () -> x.leave(0, 1));
        x.leave(0, 0);
        Check.dueRefusal(x, "11: no member any more", Check.STATE, () -> x.leave(0, 0));
        x.quit(0);
        Check.dueRefusal(x, "11: gone", Check.STATE, () -> x.leave(0, 0));
        Check.dueRefusal(x, "11: gone, channel 4", Check.OUT, () -> x.leave(0, 4));
    }

    private static void settingModes() {
        ChatRelay x = new ChatRelay();
        x.link(0, 1);
        x.link(0, 2);
        x.signOn(0, 'a');
        x.join(0, 0);
        x.deliverAll();
        int clock = x.clock();
        Check.due("12: no modes before", 0, x.setModes(0, 0, 15, 67108863));
        Check.due("12: clock", clock + 1, x.clock());
        Check.due("12: lines", 2, x.lines());
        Check.due("12: modes", 15, x.modes(0, 0));
        Check.due("12: bans", 67108863, x.bans(0, 0));
        Check.due("12: not yet there", 0, x.modes(1, 0));
        Check.due("12: modes before, though banned", 15, x.setModes(0, 0, 0, 0));
        x.deliver(0, 1);
        Check.due("12: MODES came", 15, x.modes(1, 0));
        Check.due("12: with the bans", 67108863, x.bans(1, 0));
        x.deliver(0, 1);
        Check.due("12: MODES came again", 0, x.modes(1, 0));
        Check.due("12: with no bans", 0, x.bans(1, 0));
        Check.due("12: the age stays", 3, x.age(0, 0));
    }

    private static void setModesIsRefused() {
        ChatRelay x = new ChatRelay();
        x.link(0, 1);
        x.signOn(0, 'a');
        x.signOn(0, 'b');
        x.join(0, 0);
        Check.dueRefusal(x, "12: user -1", Check.OUT, () -> x.setModes(-1, 0, 0, 0));
        Check.dueRefusal(x, "12: user 2", Check.OUT, () -> x.setModes(2, 0, 0, 0));
        Check.dueRefusal(x, "12: channel -1", Check.OUT, () -> x.setModes(0, -1, 0, 0));
        Check.dueRefusal(x, "12: channel 4, modes 16", Check.OUT, () -> x.setModes(0, 4, 16, 0));
        Check.dueRefusal(x, "12: modes -1", Check.ARGUMENT, () -> x.setModes(0, 0, -1, 0));
        Check.dueRefusal(x, "12: modes 16", Check.ARGUMENT, () -> x.setModes(0, 0, 16, 0));
        Check.dueRefusal(x, "12: bans -1", Check.ARGUMENT, () -> x.setModes(0, 0, 0, -1));
        Check.dueRefusal(x, "12: bans 67108864", Check.ARGUMENT, () -> x.setModes(0, 0, 0, 67108864));
        Check.dueRefusal(x, "12: no member", Check.STATE, () -> x.setModes(1, 0, 0, 0));
        Check.dueRefusal(x, "12: no member, modes 16", Check.ARGUMENT, () -> x.setModes(1, 0, 16, 0));
        Check.dueRefusal(x, "12: no channel", Check.STATE, () -> x.setModes(0, 1, 0, 0));
        x.quit(0);
        Check.dueRefusal(x, "12: gone", Check.STATE, () -> x.setModes(0, 0, 0, 0));
        Check.dueRefusal(x, "12: gone, bans -1", Check.ARGUMENT, () -> x.setModes(0, 0, 0, -1));
    }

    /** The tree 0-1, 1-2, 1-3, 3-4 with 5 alone. */
    private static ChatRelay tree() {
        ChatRelay x = new ChatRelay();
        x.link(0, 1);
        x.link(1, 2);
        x.link(1, 3);
        x.link(3, 4);
        for (int s = 0; s < 6; s++) {
            x.signOn(s, (char) ('a' + s));
        }
        x.deliverAll();
        return x;
    }

    private static void sayCountsLinks() {
        ChatRelay x = tree();
        x.join(0, 0);
        x.deliverAll();
        Check.due("13: alone", 0, x.say(0, 0));
        x.join(4, 0);
        x.deliverAll();
        Check.due("13: the way to 4", 3, x.say(0, 0));
        Check.due("13: the way back", 3, x.say(4, 0));
        x.join(2, 0);
        x.deliverAll();
        Check.due("13: over each link once", 4, x.say(0, 0));
        x.join(3, 0);
        x.deliverAll();
        Check.due("13: one on the way", 4, x.say(0, 0));
        Check.due("13: from the middle", 4, x.say(3, 0));
        x.leave(4, 0);
        x.deliverAll();
        Check.due("13: one that left", 3, x.say(0, 0));
        x.signOn(0, 'z');
        x.join(6, 1);
        x.join(0, 1);
        x.deliverAll();
        Check.due("13: all at home", 0, x.say(6, 1));
        int clock = x.clock();
        x.say(0, 0);
        Check.due("13: the clock stays", clock, x.clock());
        Check.due("13: no lines", 0, x.lines());
    }

    private static void sayGoesByTheHomeView() {
        ChatRelay x = tree();
        x.join(0, 0);
        x.deliverAll();
        x.join(4, 0);
        Check.due("13: by the view of 0", 0, x.say(0, 0));
        Check.due("13: by the view of 4", 3, x.say(4, 0));
        x.deliverAll();
        x.setModes(0, 0, 1, 1 << 4);
        Check.due("13: the ban has not come", 3, x.say(4, 0));
        x.split(1, 3);
        Check.due("13: the way is split", 0, x.say(4, 0));
        x.link(4, 0);
        x.deliverAll();
        Check.due("13: another way", 1, x.say(0, 0));
    }

    private static void sayIsRefused() {
        ChatRelay x = tree();
        Check.dueRefusal(x, "13: user -1", Check.OUT, () -> x.say(-1, 0));
        Check.dueRefusal(x, "13: user 6", Check.OUT, () -> x.say(6, 0));
        Check.dueRefusal(x, "13: channel -1", Check.OUT, () -> x.say(0, -1));
        Check.dueRefusal(x, "13: channel 4", Check.OUT, () -> x.say(0, 4));
        x.quit(0);
        Check.dueRefusal(x, "13: gone, channel 4", Check.OUT, () -> x.say(0, 4));
        Check.due("13: gone", ChatRelay.IS_GONE, x.say(0, 0));
    }

    private static void sayOrderOfReasons() {
        ChatRelay x = tree();
        Check.due("13: no channel", ChatRelay.NO_MEMBER, x.say(1, 2));
        x.join(1, 2);
        x.join(2, 2);
        x.deliverAll();
        Check.due("13: no member", ChatRelay.NO_MEMBER, x.say(3, 2));
        x.setModes(1, 2, 1, 0);
        x.deliverAll();
        Check.due("13: the eldest", 1, x.say(1, 2));
        Check.due("13: not the eldest", ChatRelay.NOT_ELDEST, x.say(2, 2));
        x.setModes(2, 2, 1, 1 << 2);
        x.deliverAll();
        Check.due("13: banned comes first", ChatRelay.BANNED, x.say(2, 2));
        Check.due("13: no member comes before banned", ChatRelay.NO_MEMBER, x.say(0, 2));
        x.setModes(1, 2, 14, 1 << 1);
        x.deliverAll();
        Check.due("13: other modes leave all free", 1, x.say(2, 2));
        Check.due("13: the eldest may be banned", ChatRelay.BANNED, x.say(1, 2));
        x.setModes(1, 2, 15, 0);
        x.leave(1, 2);
        x.deliverAll();
        Check.due("13: the next one is the eldest", 0, x.say(2, 2));
        x.join(1, 2);
        x.deliverAll();
        Check.due("13: the age of the user counts", ChatRelay.NOT_ELDEST, x.say(2, 2));
        x.quit(2);
        Check.due("13: gone comes first", ChatRelay.IS_GONE, x.say(2, 2));
    }
}
