/**
 * Both sides of each range: every value that is in it, the first ones that are not, negative
 * ones, those that a shift by them would take for one in it, the least and the greatest int.
 */
public final class RangesTest {
    private static final int LEAST = Integer.MIN_VALUE;
    private static final int GREATEST = Integer.MAX_VALUE;
    private static final int[] NO_SERVER = {-1, 6, 7, -6, 31, 32, 37, 64, -32, 715827883, LEAST, LEAST + 1, GREATEST};
    private static final int[] NO_CHANNEL = {-1, 4, 5, -4, 31, 32, 35, 64, -32, LEAST, LEAST + 3, GREATEST};
    private static final int[] NO_USER = {-1, 20, 21, -20, 31, 32, 51, 64, -32, LEAST, LEAST + 19, GREATEST};
    private static final int[] NO_MODES = {-1, 16, 17, -16, 31, 32, LEAST, LEAST + 15, GREATEST};
    private static final int[] NO_BANS = {-1, 67108864, 67108865, -67108864, 1 << 30, LEAST, LEAST + 1, GREATEST};
    private static final int ALL_LETTERS = 67108863;
    private static final int ALL_USERS = 1048575;

    interface Asked {
        void of(ChatRelay relay, int value);
    }

    public static void main(String[] args) {
        serversOfLinks();
        noServersOfLinks();
        serversOfTrees();
        serversOfSignOn();
        namesOfSignOn();
        noNamesOfSignOn();
        usersOfEachCall();
        noUsersOfEachCall();
        usersNotYetThere();
        channelsOfEachCall();
        noChannelsOfEachCall();
        modesInRange();
        modesOutOfRange();
        bansInRange();
        bansOutOfRange();
        serversOfViews();
        noServersOfViews();
        Check.end();
    }

    private static void refused(String what, Class<?> due, ChatRelay x, int[] values, Asked call) {
        for (int value : values) {
            Check.dueRefusal(x, what + " of " + value, due, () -> call.of(x, value));
        }
    }

    // ---- "the servers 0 to 5"

    /** link, split, deliver: each two of the six. */
    private static void serversOfLinks() {
        for (int server = 0; server < 6; server++) {
            for (int other = 0; other < 6; other++) {
                if (server != other) {
                    linkOf(server, other);
                }
            }
        }
    }

    private static void linkOf(int server, int other) {
        String at = " of " + server + " and " + other;
        ChatRelay x = new ChatRelay();
        Check.due("2: link" + at, 0, x.link(server, other));
        Check.due("7: tree" + at, 1 << server | 1 << other, x.tree(server));
        x.signOn(server, 'a');
        Check.due("4: deliver" + at, 0, x.deliver(server, other));
        Check.due("4: it came to the other" + at, 1, x.known(other));
        Check.due("3: split" + at, 0, x.split(server, other));
        Check.due("3: tree" + at, 1 << server, x.tree(server));
    }

    private static void noServersOfLinks() {
        ChatRelay x = new ChatRelay();
        x.link(0, 5);
        x.signOn(0, 'a');
        x.signOn(5, 'b');
        refused("2: link, server", Check.OUT, x, NO_SERVER, (r, v) -> r.link(v, 1));
        refused("2: link, other", Check.OUT, x, NO_SERVER, (r, v) -> r.link(1, v));
        refused("2: link, both", Check.OUT, x, NO_SERVER, (r, v) -> r.link(v, v));
        refused("3: split, server", Check.OUT, x, NO_SERVER, (r, v) -> r.split(v, 5));
        refused("3: split, server", Check.OUT, x, NO_SERVER, (r, v) -> r.split(v, 0));
        refused("3: split, other", Check.OUT, x, NO_SERVER, (r, v) -> r.split(0, v));
        refused("3: split, other", Check.OUT, x, NO_SERVER, (r, v) -> r.split(5, v));
        refused("3: split, both", Check.OUT, x, NO_SERVER, (r, v) -> r.split(v, v));
        refused("4: deliver, server", Check.OUT, x, NO_SERVER, (r, v) -> r.deliver(v, 5));
        refused("4: deliver, server", Check.OUT, x, NO_SERVER, (r, v) -> r.deliver(v, 0));
        refused("4: deliver, other", Check.OUT, x, NO_SERVER, (r, v) -> r.deliver(0, v));
        refused("4: deliver, other", Check.OUT, x, NO_SERVER, (r, v) -> r.deliver(5, v));
        refused("4: deliver, both", Check.OUT, x, NO_SERVER, (r, v) -> r.deliver(v, v));
    }

    private static void serversOfTrees() {
        ChatRelay x = new ChatRelay();
        for (int server = 0; server < 6; server++) {
            Check.due("7: tree of " + server, 1 << server, x.tree(server));
        }
        refused("7: tree", Check.OUT, x, NO_SERVER, (r, v) -> r.tree(v));
    }

    private static void serversOfSignOn() {
        ChatRelay x = new ChatRelay();
        for (int server = 0; server < 6; server++) {
            Check.due("8: signOn at " + server, server, x.signOn(server, 'a'));
            Check.due("8: known at " + server, 1 << server, x.known(server));
        }
        refused("8: signOn, server", Check.OUT, x, NO_SERVER, (r, v) -> r.signOn(v, 'b'));
    }

    // ---- "a letter, small or capital"

    private static void namesOfSignOn() {
        for (int letter = 0; letter < 26; letter++) {
            char small = (char) ('a' + letter);
            char capital = (char) ('A' + letter);
            ChatRelay x = new ChatRelay();
            Check.due("8: the name " + small, 0, x.signOn(0, small));
            Check.due("8: the name " + capital, 1, x.signOn(1, capital));
            Check.dueRefusal(x, "8: " + capital + " is " + small, Check.STATE, () -> x.signOn(0, capital));
            Check.dueRefusal(x, "8: " + small + " is " + capital, Check.STATE, () -> x.signOn(1, small));
            Check.dueRefusal(x, "8: " + small + " again", Check.STATE, () -> x.signOn(0, small));
            Check.dueRefusal(x, "8: " + capital + " again", Check.STATE, () -> x.signOn(1, capital));
            char next = (char) ('a' + (letter + 1) % 26);
            Check.due("8: the name " + next + " is another", 2, x.signOn(0, next));
        }
    }

    /** Every char that is no letter of the 52, letters of other tongues among them. */
    private static void noNamesOfSignOn() {
        ChatRelay x = new ChatRelay();
        x.link(0, 1);
        String before = Check.told(x);
        for (int sign = 0; sign <= 65535; sign++) {
            char name = (char) sign;
            boolean letter = name >= 'a' && name <= 'z' || name >= 'A' && name <= 'Z';
            if (!letter) {
                Check.dueThrow("8: the name " + sign, Check.ARGUMENT, () -> x.signOn(0, name));
            }
        }
        Check.due("8: names that are none change nothing", true, before.equals(Check.told(x)));
        char[] nearest = {'a' - 1, 'z' + 1, 'A' - 1, 'Z' + 1, 0, 65535};
        for (char name : nearest) {
            Check.dueRefusal(x, "8: the name " + (int) name, Check.ARGUMENT, () -> x.signOn(0, name));
        }
    }

    // ---- "up to 20 users, numbered from 0"

    /** All 20 that there can be, each at the server 0, named a to t. */
    private static ChatRelay twenty() {
        ChatRelay x = new ChatRelay();
        for (int user = 0; user < 20; user++) {
            x.signOn(0, (char) ('a' + user));
        }
        return x;
    }

    private static void usersOfEachCall() {
        ChatRelay x = twenty();
        Check.due("16: all are known", ALL_USERS, x.known(0));
        for (int user = 0; user < 20; user++) {
            String by = " by the user " + user;
            Check.due("13: say" + by, ChatRelay.NO_MEMBER, x.say(user, 3));
            Check.due("10: join" + by, 1, x.join(user, 3));
            Check.due("17: members" + by, 1 << user, x.members(0, 3));
            Check.due("12: setModes" + by, 0, x.setModes(user, 3, 15, 0));
            Check.due("13: say as a member" + by, 0, x.say(user, 3));
            x.leave(user, 3);
            Check.due("11: leave" + by, 0, x.members(0, 3));
            x.quit(user);
            Check.due("9: quit" + by, ALL_USERS << user + 1 & ALL_USERS, x.known(0));
        }
    }

    private static void noUsersOfEachCall() {
        ChatRelay x = twenty();
        for (int user = 0; user < 20; user++) {
            x.join(user, 0);
        }
        noUser(x, NO_USER);
    }

    /** With n users, n is the first that is not there, though there is room for it. */
    private static void usersNotYetThere() {
        ChatRelay x = new ChatRelay();
        for (int user = 0; user < 20; user++) {
            int[] next = {user, 19 + user, -1};
            noUser(x, next);
            Check.due("8: its number", user, x.signOn(user % 6, (char) ('a' + user)));
            x.join(user, 0);
            Check.due("14: users", user + 1, x.users());
        }
    }

    private static void noUser(ChatRelay x, int[] values) {
        refused("9: quit, user", Check.OUT, x, values, (r, v) -> r.quit(v));
        refused("10: join, user", Check.OUT, x, values, (r, v) -> r.join(v, 1));
        refused("11: leave, user", Check.OUT, x, values, (r, v) -> r.leave(v, 0));
        refused("12: setModes, user", Check.OUT, x, values, (r, v) -> r.setModes(v, 0, 0, 0));
        refused("13: say, user", Check.OUT, x, values, (r, v) -> r.say(v, 0));
    }

    // ---- "the channels 0 to 3"

    private static void channelsOfEachCall() {
        for (int channel = 0; channel < 4; channel++) {
            String at = " at the channel " + channel;
            ChatRelay x = new ChatRelay();
            x.signOn(5, 'a');
            Check.due("10: join" + at, 1, x.join(0, channel));
            for (int each = 0; each < 4; each++) {
                Check.due("17: members" + at + " of " + each, each == channel ? 1 : 0, x.members(5, each));
            }
            Check.due("12: setModes" + at, 0, x.setModes(0, channel, 2, 4));
            Check.dueChannel("18 to 20:" + at, x, 5, channel, 1, 2, 4, 1);
            Check.due("22: joinedModes" + at, 2, x.joinedModes(0, 5, channel));
            Check.due("13: say" + at, 0, x.say(0, channel));
            x.leave(0, channel);
            Check.dueNoChannel("11: leave" + at, x, 5, channel);
        }
    }

    private static void noChannelsOfEachCall() {
        ChatRelay x = new ChatRelay();
        x.link(0, 1);
        x.signOn(0, 'a');
        x.signOn(0, 'b');
        for (int channel = 0; channel < 4; channel++) {
            x.join(0, channel);
        }
        refused("10: join, channel", Check.OUT, x, NO_CHANNEL, (r, v) -> r.join(1, v));
        refused("11: leave, channel", Check.OUT, x, NO_CHANNEL, (r, v) -> r.leave(0, v));
        refused("12: setModes, channel", Check.OUT, x, NO_CHANNEL, (r, v) -> r.setModes(0, v, 0, 0));
        refused("13: say, channel", Check.OUT, x, NO_CHANNEL, (r, v) -> r.say(0, v));
        refused("17: members, channel", Check.OUT, x, NO_CHANNEL, (r, v) -> r.members(0, v));
        refused("18: age, channel", Check.OUT, x, NO_CHANNEL, (r, v) -> r.age(0, v));
        refused("19: modes, channel", Check.OUT, x, NO_CHANNEL, (r, v) -> r.modes(0, v));
        refused("20: bans, channel", Check.OUT, x, NO_CHANNEL, (r, v) -> r.bans(0, v));
        refused("22: joinedModes, channel", Check.OUT, x, NO_CHANNEL, (r, v) -> r.joinedModes(0, 1, v));
    }

    // ---- "a set of modes 0 to 15, a set of bans, which is a set of letters"

    private static ChatRelay oneMember() {
        ChatRelay x = new ChatRelay();
        x.link(0, 1);
        x.signOn(0, 'm');
        x.join(0, 0);
        x.deliverAll();
        return x;
    }

    private static void modesInRange() {
        ChatRelay x = oneMember();
        int before = 0;
        for (int modes = 0; modes <= 15; modes++) {
            Check.due("12: the modes before " + modes, before, x.setModes(0, 0, modes, 0));
            Check.due("19: the modes " + modes, modes, x.modes(0, 0));
            x.deliverAll();
            Check.due("19: the modes come, " + modes, modes, x.modes(1, 0));
            before = modes;
        }
    }

    private static void modesOutOfRange() {
        ChatRelay x = oneMember();
        x.setModes(0, 0, 9, 6);
        refused("12: setModes, modes", Check.ARGUMENT, x, NO_MODES, (r, v) -> r.setModes(0, 0, v, 0));
        refused("12: setModes, modes with all bans", Check.ARGUMENT, x, NO_MODES,
                (r, v) -> r.setModes(0, 0, v, ALL_LETTERS));
        refused("12: setModes, modes and bans", Check.ARGUMENT, x, NO_MODES, (r, v) -> r.setModes(0, 0, v, -1));
    }

    private static void bansInRange() {
        ChatRelay x = oneMember();
        for (int letter = 0; letter < 26; letter++) {
            bansOf(x, 1 << letter);
            bansOf(x, (1 << letter) - 1);
            bansOf(x, ALL_LETTERS - (1 << letter));
        }
        bansOf(x, ALL_LETTERS);
        bansOf(x, ALL_LETTERS - 1);
        bansOf(x, 0);
    }

    private static void bansOf(ChatRelay x, int bans) {
        x.setModes(0, 0, 0, bans);
        Check.due("20: the bans " + bans, bans, x.bans(0, 0));
        x.deliverAll();
        Check.due("20: the bans come, " + bans, bans, x.bans(1, 0));
        ChatRelay fresh = oneMember();
        fresh.setModes(0, 0, 15, bans);
        Check.due("20: the bans " + bans + " with all modes", bans, fresh.bans(0, 0));
    }

    private static void bansOutOfRange() {
        ChatRelay x = oneMember();
        x.setModes(0, 0, 9, 6);
        refused("12: setModes, bans", Check.ARGUMENT, x, NO_BANS, (r, v) -> r.setModes(0, 0, 0, v));
        refused("12: setModes, bans with all modes", Check.ARGUMENT, x, NO_BANS, (r, v) -> r.setModes(0, 0, 15, v));
        refused("12: setModes, bans and modes", Check.ARGUMENT, x, NO_BANS, (r, v) -> r.setModes(0, 0, 16, v));
    }

    // ---- servers of the views

    private static void serversOfViews() {
        ChatRelay x = new ChatRelay();
        for (int server = 0; server < 6; server++) {
            x.signOn(server, 'a');
            x.join(server, 1);
            x.setModes(server, 1, server + 1, 1 << server + 20);
        }
        for (int server = 0; server < 6; server++) {
            String at = "at the server " + server;
            Check.due("16: known " + at, 1 << server, x.known(server));
            Check.dueChannel("17 to 20: " + at, x, server, 1, 3 * server + 1, server + 1, 1 << server + 20, 1 << server);
            for (int other = 0; other < 6; other++) {
                Check.due("21: areSame " + at + " and " + other, server == other, x.areSame(server, other));
                Check.due("22: joinedModes " + at + " and " + other, Math.min(server, other) + 1,
                        x.joinedModes(server, other, 1));
                Check.due("22: in neither, " + at + " and " + other, ChatRelay.NONE, x.joinedModes(server, other, 2));
            }
        }
    }

    private static void noServersOfViews() {
        ChatRelay x = oneMember();
        refused("16: known", Check.OUT, x, NO_SERVER, (r, v) -> r.known(v));
        refused("17: members, server", Check.OUT, x, NO_SERVER, (r, v) -> r.members(v, 0));
        refused("18: age, server", Check.OUT, x, NO_SERVER, (r, v) -> r.age(v, 0));
        refused("19: modes, server", Check.OUT, x, NO_SERVER, (r, v) -> r.modes(v, 0));
        refused("20: bans, server", Check.OUT, x, NO_SERVER, (r, v) -> r.bans(v, 0));
        refused("17: members, both", Check.OUT, x, NO_SERVER, (r, v) -> r.members(v, 4));
        refused("18: age, both", Check.OUT, x, NO_SERVER, (r, v) -> r.age(v, 4));
        refused("19: modes, both", Check.OUT, x, NO_SERVER, (r, v) -> r.modes(v, 4));
        refused("20: bans, both", Check.OUT, x, NO_SERVER, (r, v) -> r.bans(v, 4));
        refused("21: areSame, server", Check.OUT, x, NO_SERVER, (r, v) -> r.areSame(v, 0));
        refused("21: areSame, other", Check.OUT, x, NO_SERVER, (r, v) -> r.areSame(0, v));
        refused("21: areSame, both", Check.OUT, x, NO_SERVER, (r, v) -> r.areSame(v, v));
        refused("22: joinedModes, server", Check.OUT, x, NO_SERVER, (r, v) -> r.joinedModes(v, 0, 0));
        refused("22: joinedModes, other", Check.OUT, x, NO_SERVER, (r, v) -> r.joinedModes(0, v, 0));
        refused("22: joinedModes, both", Check.OUT, x, NO_SERVER, (r, v) -> r.joinedModes(v, v, 0));
        refused("22: joinedModes, all", Check.OUT, x, NO_SERVER, (r, v) -> r.joinedModes(v, v, 4));
    }
}
