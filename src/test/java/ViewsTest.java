/** Promises 14 to 22: users, clock, known, members, age, modes, bans, areSame, joinedModes. */
public final class ViewsTest {
    public static void main(String[] args) {
        counters();
        viewsOfServers();
        wrongInputs();
        same();
        sameInEachPart();
        joined();
        joinedIsWhatBurstsLeadTo();
        Check.end();
    }

    private static void counters() {
        ChatRelay x = new ChatRelay();
        x.signOn(0, 'a');
        Check.due("14: users", 1, x.users());
        x.signOn(1, 'a');
        Check.due("14: a clash elsewhere counts too", 2, x.users());
        x.quit(0);
        Check.due("14: one that quit counts on", 2, x.users());
        Check.due("15: signOn and quit", 3, x.clock());
        x.join(1, 0);
        x.setModes(1, 0, 1, 1);
        x.leave(1, 0);
        Check.due("15: join, setModes and leave", 6, x.clock());
        x.link(0, 1);
        x.deliver(1, 0);
        x.deliverAll();
        x.split(0, 1);
        Check.due("15: link, deliver, deliverAll and split", 10, x.clock());
        x.say(1, 0);
        x.tree(0);
        x.lines();
        x.known(0);
        x.members(0, 0);
        x.age(0, 0);
        x.modes(0, 0);
        x.bans(0, 0);
        x.areSame(0, 1);
        x.joinedModes(0, 1, 0);
        x.users();
        Check.due("15: asking leaves it", 10, x.clock());
        Check.dueThrow("15: a refused call", Check.STATE, () -> x.quit(0));
        Check.due("15: leaves it", 10, x.clock());
    }

    private static void viewsOfServers() {
        ChatRelay x = new ChatRelay();
        x.signOn(2, 'a');
        x.signOn(2, 'b');
        x.signOn(3, 'c');
        x.join(1, 3);
        x.setModes(1, 3, 10, 67108863);
        Check.due("16: known", 3, x.known(2));
        Check.due("16: known elsewhere", 4, x.known(3));
        Check.due("16: known nowhere", 0, x.known(0));
        Check.due("17: members", 2, x.members(2, 3));
        Check.due("17: none elsewhere", 0, x.members(3, 3));
        Check.due("17: none of another channel", 0, x.members(2, 2));
        Check.due("18: age", 3, x.age(2, 3));
        Check.due("18: none", ChatRelay.NONE, x.age(3, 3));
        Check.due("19: modes", 10, x.modes(2, 3));
        Check.due("19: none", ChatRelay.NONE, x.modes(2, 0));
        Check.due("20: bans", 67108863, x.bans(2, 3));
        Check.due("20: none", ChatRelay.NONE, x.bans(5, 3));
        x.leave(1, 3);
        Check.due("17: left", 0, x.members(2, 3));
        Check.due("18: left", ChatRelay.NONE, x.age(2, 3));
        Check.due("19: left", ChatRelay.NONE, x.modes(2, 3));
        Check.due("20: left", ChatRelay.NONE, x.bans(2, 3));
        x.quit(0);
        Check.due("16: quit", 2, x.known(2));
    }

    private static void wrongInputs() {
        ChatRelay x = new ChatRelay();
        x.signOn(0, 'a');
        x.join(0, 0);
        int[][] pairs = {{-1, 0}, {6, 0}, {0, -1}, {0, 4}, {5, 5}, {6, 4}, {Integer.MIN_VALUE, 0},
            {0, Integer.MAX_VALUE}};
        for (int[] p : pairs) {
            String at = " at " + p[0] + ", " + p[1];
            Check.dueRefusal(x, "17: members" + at, Check.OUT, () -> x.members(p[0], p[1]));
            Check.dueRefusal(x, "18: age" + at, Check.OUT, () -> x.age(p[0], p[1]));
            Check.dueRefusal(x, "19: modes" + at, Check.OUT, () -> x.modes(p[0], p[1]));
            Check.dueRefusal(x, "20: bans" + at, Check.OUT, () -> x.bans(p[0], p[1]));
        }
        int[] outside = {-1, 6, Integer.MIN_VALUE, Integer.MAX_VALUE};
        for (int s : outside) {
            Check.dueRefusal(x, "16: known at " + s, Check.OUT, () -> x.known(s));
            Check.dueRefusal(x, "21: server " + s, Check.OUT, () -> x.areSame(s, 0));
            Check.dueRefusal(x, "21: other " + s, Check.OUT, () -> x.areSame(0, s));
            Check.dueRefusal(x, "21: twice " + s, Check.OUT, () -> x.areSame(s, s));
            Check.dueRefusal(x, "22: server " + s, Check.OUT, () -> x.joinedModes(s, 0, 0));
            Check.dueRefusal(x, "22: other " + s, Check.OUT, () -> x.joinedModes(0, s, 0));
            Check.dueRefusal(x, "22: channel " + s, Check.OUT, () -> x.joinedModes(0, 0, s));
        }
        Check.dueRefusal(x, "22: channel 4", Check.OUT, () -> x.joinedModes(0, 0, 4));
        Check.due("17: the last server and channel", 0, x.members(5, 3));
    }

    private static void same() {
        ChatRelay x = new ChatRelay();
        Check.due("21: empty ones", true, x.areSame(0, 5));
        x.link(0, 1);
        x.signOn(0, 'a');
        Check.due("21: itself", true, x.areSame(0, 0));
        Check.due("21: other users", false, x.areSame(0, 1));
        x.deliverAll();
        Check.due("21: the same users", true, x.areSame(1, 0));
        x.join(0, 3);
        Check.due("21: a channel more", false, x.areSame(0, 1));
        Check.due("21: a channel less", false, x.areSame(1, 0));
        x.deliverAll();
        Check.due("21: the same channels", true, x.areSame(0, 1));
        x.leave(0, 3);
        x.deliverAll();
        Check.due("21: the channel is gone", true, x.areSame(0, 1));
        Check.due("21: another tree", false, x.areSame(0, 2));
    }

    /** Views that differ in one part alone: members, modes, bans, age, users. */
    private static void sameInEachPart() {
        for (int channel = 0; channel < 4; channel++) {
            ChatRelay x = new ChatRelay();
            x.link(0, 1);
            x.signOn(0, 'a');
            x.signOn(0, 'b');
            x.join(0, channel);
            x.deliverAll();
            x.join(1, channel);
            Check.due("21: members", false, x.areSame(0, 1));
            x.deliverAll();
            Check.due("21: same members", true, x.areSame(0, 1));
            x.setModes(0, channel, 8, 0);
            Check.due("21: modes", false, x.areSame(0, 1));
            x.deliverAll();
            x.setModes(0, channel, 8, 1 << 25);
            Check.due("21: bans", false, x.areSame(0, 1));
            x.deliverAll();
            x.setModes(0, channel, 0, 0);
            x.deliverAll();
            x.leave(0, channel);
            x.leave(1, channel);
            x.join(0, channel);
            x.join(1, channel);
            x.deliver(0, 1);
            x.deliver(0, 1);
            x.deliver(0, 1);
            x.leave(0, channel);
            x.leave(1, channel);
            x.join(0, channel);
            x.join(1, channel);
            x.deliver(0, 1);
            // 1 has both members, but the channel is of an earlier age there.
            Check.due("21: age of 0", false, x.age(0, channel) == x.age(1, channel));
            Check.due("21: members of both", x.members(0, channel), x.members(1, channel));
            Check.due("21: age", false, x.areSame(0, 1));
            x.deliverAll();
            Check.due("21: at the end", true, x.areSame(0, 1));
        }
    }

    private static void joined() {
        ChatRelay x = new ChatRelay();
        Check.due("22: neither", ChatRelay.NONE, x.joinedModes(0, 1, 0));
        x.signOn(0, 'a');
        x.signOn(1, 'b');
        x.join(0, 2);
        x.setModes(0, 2, 6, 0);
        Check.due("22: the one", 6, x.joinedModes(0, 1, 2));
        Check.due("22: the other", 6, x.joinedModes(1, 0, 2));
        Check.due("22: itself", 6, x.joinedModes(0, 0, 2));
        Check.due("22: another channel", ChatRelay.NONE, x.joinedModes(0, 1, 1));
        x.join(1, 2);
        x.setModes(1, 2, 9, 0);
        Check.due("22: the lesser age", 6, x.joinedModes(0, 1, 2));
        Check.due("22: the lesser age, the other way", 6, x.joinedModes(1, 0, 2));
        x.link(0, 1);
        x.deliverAll();
        x.setModes(0, 2, 12, 0);
        x.setModes(1, 2, 5, 0);
        Check.due("22: the same age", 13, x.joinedModes(0, 1, 2));
        Check.due("22: the same age, the other way", 13, x.joinedModes(1, 0, 2));
        x.setModes(1, 2, 0, 0);
        Check.due("22: no modes of one", 12, x.joinedModes(1, 0, 2));
        Check.due("22: it changes nothing", 12, x.modes(0, 2));
    }

    private static void joinedIsWhatBurstsLeadTo() {
        ChatRelay x = new ChatRelay();
        x.link(0, 1);
        x.signOn(0, 'a');
        x.signOn(1, 'b');
        x.deliverAll();
        x.join(0, 0);
        x.deliverAll();
        x.join(1, 0);
        x.deliverAll();
        x.split(0, 1);
        x.setModes(0, 0, 3, 1 << 7);
        x.setModes(1, 0, 10, 1 << 9);
        int due = x.joinedModes(0, 1, 0);
        Check.due("22: union", 11, due);
        x.link(0, 1);
        x.deliverAll();
        Check.due("22: modes of 0", due, x.modes(0, 0));
        Check.due("22: modes of 1", due, x.modes(1, 0));
        Check.due("22: bans of 0", 1 << 7 | 1 << 9, x.bans(0, 0));
        Check.due("22: bans of 1", 1 << 7 | 1 << 9, x.bans(1, 0));
    }
}
