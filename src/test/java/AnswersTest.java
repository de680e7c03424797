/** The special answers of promises 8 to 22: nought, all, NONE, and each reason of say(), one by one. */
public final class AnswersTest {
    private static final int NONE = ChatRelay.NONE;
    private static final int ALL_LETTERS = 67108863;

    public static void main(String[] args) {
        joinCountsByTheHomeView();
        joinWithoutModesAndBans();
        joinRefusedByBans();
        joinTellsOneMember();
        leaveOfTheLastMember();
        setModesBefore();
        setModesTellsTheAge();
        sayOfNobodyElse();
        sayOverEachLinkOnce();
        sayOverFiveLinks();
        sayTowardsMembersAlone();
        sayByTheHomeView();
        sayGone();
        sayNoMember();
        sayBanned();
        sayEldest();
        sayEldestOfManyAges();
        sayFirstThatApplies();
        viewsWithoutTheChannel();
        sameViews();
        notSameInOnePart();
        joinedOfNeither();
        joinedOfOne();
        joinedOfBoth();
        joinedWhoeverIsKnown();
        Check.end();
    }

    // ---- promise 10: join

    /** "Returns how many members it has in that view then": from 1 to 20, and only of that view. */
    private static void joinCountsByTheHomeView() {
        ChatRelay x = new ChatRelay();
        for (int user = 0; user < 20; user++) {
            x.signOn(2, (char) ('a' + user));
            Check.due("10: members", user + 1, x.join(user, 0));
        }
        ChatRelay y = new ChatRelay();
        y.link(0, 1);
        y.signOn(0, 'a');
        y.signOn(1, 'b');
        y.deliverAll();
        Check.due("10: the first one at 0", 1, y.join(0, 0));
        Check.due("10: the first one at 1 too, as no line has come", 1, y.join(1, 0));
        y.deliverAll();
        y.leave(0, 0);
        Check.due("10: the second one again", 2, y.join(0, 0));
    }

    /** "it is there then, with the clock as its age, without modes and bans" */
    private static void joinWithoutModesAndBans() {
        ChatRelay x = new ChatRelay();
        x.signOn(0, 'a');
        for (int channel = 0; channel < 4; channel++) {
            x.join(0, channel);
            Check.dueChannel("10: new", x, 0, channel, channel + 1, 0, 0, 1);
        }
        x.signOn(0, 'b');
        x.setModes(0, 0, 14, 4);
        x.join(1, 0);
        Check.dueChannel("10: not new", x, 0, 0, 1, 14, 4, 3);
    }

    private static void joinRefusedByBans() {
        for (int letter = 0; letter < 26; letter++) {
            ChatRelay x = new ChatRelay();
            x.signOn(0, letter == 0 ? 'z' : 'a');
            x.signOn(0, (char) ('A' + letter));
            x.join(0, 0);
            x.setModes(0, 0, 0, 1 << letter);
            Check.dueRefusal(x, "10: banned is the letter " + letter, Check.STATE, () -> x.join(1, 0));
            Check.due("10: not in another channel", 1, x.join(1, 1));
            x.setModes(0, 0, 15, ALL_LETTERS - (1 << letter));
            Check.due("10: all but that letter are banned", 2, x.join(1, 0));
        }
        ChatRelay y = new ChatRelay();
        y.link(0, 1);
        y.signOn(0, 'a');
        y.signOn(1, 'b');
        y.join(0, 0);
        y.deliverAll();
        y.setModes(0, 0, 0, 2);
        Check.due("10: banned elsewhere alone", 2, y.join(1, 0));
        y.leave(1, 0);
        y.deliver(0, 1);
        Check.dueRefusal(y, "10: banned here by MODES", Check.STATE, () -> y.join(1, 0));
    }

    /**
     * "Lines CHANNEL .. with what the channel is in that view, but with this user as the only
     * member": a has left at 1, which 0 does not know yet when b joins there.
     */
    private static void joinTellsOneMember() {
        ChatRelay x = new ChatRelay();
        x.link(0, 1);
        x.signOn(1, 'a');
        x.signOn(0, 'b');
        x.deliverAll();
        x.join(0, 2);
        x.setModes(0, 2, 9, 128);
        x.deliverAll();
        x.leave(0, 2);
        Check.dueNoChannel("11: none is left at 1", x, 1, 2);
        Check.due("10: two at 0", 2, x.join(1, 2));
        x.deliver(0, 1);
        Check.dueChannel("10: its age, modes and bans, but one member", x, 1, 2, 4, 9, 128, 2);
        Check.dueChannel("10: two at 0 until the line comes", x, 0, 2, 4, 9, 128, 3);
        x.deliver(1, 0);
        Check.due("21: the same", true, x.areSame(0, 1));
    }

    // ---- promise 11: leave

    private static void leaveOfTheLastMember() {
        ChatRelay x = new ChatRelay();
        x.signOn(0, 'a');
        x.signOn(0, 'b');
        x.join(0, 0);
        x.join(1, 0);
        x.leave(0, 0);
        Check.due("11: one is left", 2, x.members(0, 0));
        Check.dueRefusal(x, "11: left already", Check.STATE, () -> x.leave(0, 0));
        x.leave(1, 0);
        Check.dueNoChannel("11: none is left", x, 0, 0);
        Check.dueRefusal(x, "11: no channel", Check.STATE, () -> x.leave(1, 0));
        x.link(0, 1);
        x.signOn(1, 'c');
        x.deliverAll();
        x.join(2, 0);
        x.join(0, 0);
        x.deliver(1, 0);
        Check.due("11: by the home view c is one", 1 | 4, x.members(0, 0));
        Check.due("11: by the other a is none", 4, x.members(1, 0));
        x.leave(0, 0);
        Check.dueRefusal(x, "11: a is no member, by the view of its home", Check.STATE, () -> x.leave(0, 0));
        x.deliver(0, 1);
        Check.due("11: though one by that of 1", 1 | 4, x.members(1, 0));
    }

    // ---- promise 12: setModes

    private static void setModesBefore() {
        ChatRelay x = new ChatRelay();
        x.link(0, 1);
        x.signOn(0, 'a');
        x.signOn(1, 'b');
        x.deliverAll();
        x.join(0, 0);
        x.deliverAll();
        x.join(1, 0);
        x.deliverAll();
        Check.due("12: none before", 0, x.setModes(0, 0, 15, 0));
        Check.due("12: none before, as no line has come", 0, x.setModes(1, 0, 8, 0));
        Check.due("12: all before", 15, x.setModes(0, 0, 15, 1));
        Check.due("12: the same before", 15, x.setModes(0, 0, 0, ALL_LETTERS));
        Check.due("12: one who is banned, and not the eldest, may", 8, x.setModes(1, 0, 1, 2));
        Check.due("12: and again", 1, x.setModes(1, 0, 0, 0));
    }

    /** "lines MODES are sent, with the age that it has in the view of the home server of the user" */
    private static void setModesTellsTheAge() {
        ChatRelay x = new ChatRelay();
        x.signOn(0, 'a');
        x.signOn(1, 'b');
        x.join(0, 0);
        x.join(1, 0);
        x.link(0, 1);
        x.deliver(1, 0);
        x.deliver(1, 0);
        x.setModes(1, 0, 2, 0);
        x.deliver(1, 0);
        Check.due("12: of the age 3, where the age is 2", 0, x.modes(0, 0));
        x.deliver(0, 1);
        x.deliver(0, 1);
        Check.dueChannel("18: the age is 2 there now", x, 1, 0, 2, 0, 0, 3);
        x.setModes(1, 0, 4, 0);
        x.deliver(1, 0);
        Check.due("12: of the age 2, where the age is 2", 4, x.modes(0, 0));
    }

    // ---- promise 13: say

    private static void sayOfNobodyElse() {
        ChatRelay x = new ChatRelay();
        x.signOn(0, 'a');
        x.join(0, 0);
        Check.due("13: no link", 0, x.say(0, 0));
        x.link(0, 1);
        x.deliverAll();
        Check.due("13: no other member", 0, x.say(0, 0));
        x.signOn(0, 'b');
        x.join(1, 0);
        Check.due("13: the other one is at home there", 0, x.say(0, 0));
        x.signOn(1, 'c');
        x.deliverAll();
        Check.due("13: who is no member does not count", 0, x.say(0, 0));
    }

    /** All in the star of 2, one after the other, from 0 links to 5. */
    private static void sayOverEachLinkOnce() {
        ChatRelay x = new ChatRelay();
        int[] ends = {0, 1, 3, 4, 5};
        for (int end : ends) {
            x.link(2, end);
        }
        x.signOn(2, 'a');
        x.join(0, 0);
        for (int more = 0; more < 5; more++) {
            Check.due("13: from the midst", more, x.say(0, 0));
            x.signOn(ends[more], (char) ('b' + 2 * more));
            x.signOn(ends[more], (char) ('c' + 2 * more));
            x.deliverAll();
            x.join(2 * more + 1, 0);
            x.deliverAll();
            Check.due("13: from the midst, one more", more + 1, x.say(0, 0));
            x.join(2 * more + 2, 0);
            x.deliverAll();
            Check.due("13: two at one server", more + 1, x.say(0, 0));
            Check.due("13: from an end", more + 1, x.say(2 * more + 1, 0));
        }
        Check.due("13: over all five", 5, x.say(0, 0));
    }

    private static void sayOverFiveLinks() {
        ChatRelay x = new ChatRelay();
        int[] path = {3, 0, 5, 2, 4, 1};
        for (int step = 1; step < 6; step++) {
            x.link(path[step - 1], path[step]);
        }
        x.signOn(3, 'a');
        x.signOn(1, 'b');
        x.signOn(5, 'c');
        x.deliverAll();
        x.join(0, 3);
        x.deliverAll();
        x.join(1, 3);
        x.deliverAll();
        Check.due("13: from one end to the other", 5, x.say(0, 3));
        Check.due("13: and back", 5, x.say(1, 3));
        x.join(2, 3);
        x.deliverAll();
        Check.due("13: one on the way adds none", 5, x.say(0, 3));
        Check.due("13: from the midst, both ways", 5, x.say(2, 3));
        x.leave(1, 3);
        x.deliverAll();
        Check.due("13: as far as the midst", 2, x.say(0, 3));
        x.split(0, 5);
        Check.due("13: no one in the tree any more", 0, x.say(0, 3));
    }

    /** No link counts that leads to no member's home, though users are at home there. */
    private static void sayTowardsMembersAlone() {
        ChatRelay x = new ChatRelay();
        x.link(1, 0);
        x.link(1, 2);
        x.link(2, 3);
        x.link(2, 4);
        x.link(4, 5);
        for (int server = 0; server < 6; server++) {
            x.signOn(server, (char) ('a' + server));
        }
        x.deliverAll();
        x.join(1, 0);
        x.deliverAll();
        x.join(3, 0);
        x.deliverAll();
        Check.due("13: 1-2-3", 2, x.say(1, 0));
        x.join(0, 0);
        x.deliverAll();
        Check.due("13: and 1-0", 3, x.say(1, 0));
        x.join(5, 0);
        x.deliverAll();
        Check.due("13: and 2-4-5", 5, x.say(1, 0));
        x.leave(3, 0);
        x.deliverAll();
        Check.due("13: without 2-3", 4, x.say(1, 0));
        x.quit(5);
        x.deliverAll();
        Check.due("13: 1-0 alone", 1, x.say(1, 0));
        Check.due("13: other channels do not count", ChatRelay.NO_MEMBER, x.say(1, 1));
    }

    private static void sayByTheHomeView() {
        ChatRelay x = new ChatRelay();
        x.link(0, 1);
        x.signOn(0, 'a');
        x.signOn(1, 'b');
        x.deliverAll();
        x.join(0, 0);
        x.deliverAll();
        x.join(1, 0);
        Check.due("13: 0 does not know yet", 0, x.say(0, 0));
        Check.due("13: 1 knows", 1, x.say(1, 0));
        x.deliverAll();
        Check.due("13: 0 knows", 1, x.say(0, 0));
        x.quit(1);
        Check.due("13: 0 does not know yet that it quit", 1, x.say(0, 0));
        x.setModes(0, 0, 1, 1);
        Check.due("13: banned at once by its own", ChatRelay.BANNED, x.say(0, 0));
    }

    private static void sayGone() {
        ChatRelay x = new ChatRelay();
        x.signOn(0, 'a');
        x.join(0, 0);
        Check.due("13: not gone", 0, x.say(0, 0));
        x.quit(0);
        for (int channel = 0; channel < 4; channel++) {
            Check.due("13: gone", ChatRelay.IS_GONE, x.say(0, channel));
        }
    }

    private static void sayNoMember() {
        ChatRelay x = new ChatRelay();
        x.signOn(0, 'a');
        x.signOn(0, 'b');
        x.join(1, 0);
        Check.due("13: no member of one that is there", ChatRelay.NO_MEMBER, x.say(0, 0));
        Check.due("13: no channel there", ChatRelay.NO_MEMBER, x.say(0, 3));
        x.join(0, 0);
        Check.due("13: a member", 0, x.say(0, 0));
        x.leave(0, 0);
        Check.due("13: a member no more", ChatRelay.NO_MEMBER, x.say(0, 0));
    }

    private static void sayBanned() {
        for (int letter = 0; letter < 26; letter++) {
            ChatRelay x = new ChatRelay();
            x.signOn(0, (char) ((letter % 2 == 0 ? 'A' : 'a') + letter));
            x.join(0, 0);
            x.setModes(0, 0, 0, 1 << letter);
            Check.due("13: banned by the letter " + letter, ChatRelay.BANNED, x.say(0, 0));
            x.setModes(0, 0, 0, ALL_LETTERS - (1 << letter));
            Check.due("13: not banned by the others", 0, x.say(0, 0));
            x.setModes(0, 0, 0, 0);
            Check.due("13: not banned by none", 0, x.say(0, 0));
        }
    }

    /** "if the modes have the bit 0": of all 16 modes. */
    private static void sayEldest() {
        ChatRelay x = new ChatRelay();
        x.signOn(0, 'a');
        x.signOn(0, 'b');
        x.join(1, 0);
        x.join(0, 0);
        for (int modes = 0; modes <= 15; modes++) {
            x.setModes(0, 0, modes, 0);
            Check.due("13: the eldest, modes " + modes, 0, x.say(0, 0));
            Check.due("13: not the eldest, modes " + modes, modes % 2 == 1 ? ChatRelay.NOT_ELDEST : 0, x.say(1, 0));
        }
        x.leave(0, 0);
        Check.due("13: the eldest of those that are left", 0, x.say(1, 0));
        x.setModes(1, 0, 1, 0);
        Check.due("13: alone, it is the eldest", 0, x.say(1, 0));
    }

    /** The age of the user counts, not the order of joining; among 20 it is the one of the least age. */
    private static void sayEldestOfManyAges() {
        ChatRelay x = new ChatRelay();
        for (int user = 0; user < 20; user++) {
            x.signOn(1, (char) ('a' + user));
        }
        for (int user = 19; user >= 0; user--) {
            x.join(user, 2);
            x.setModes(user, 2, 1, 0);
            Check.due("13: the eldest up to now", 0, x.say(user, 2));
            for (int other = user + 1; other < 20; other++) {
                Check.due("13: younger ones", ChatRelay.NOT_ELDEST, x.say(other, 2));
            }
        }
        x.quit(0);
        Check.due("13: the next one", 0, x.say(1, 2));
        Check.due("13: and not the one behind", ChatRelay.NOT_ELDEST, x.say(2, 2));
        ChatRelay y = new ChatRelay();
        y.link(0, 1);
        y.signOn(0, 'a');
        y.signOn(1, 'b');
        y.deliverAll();
        y.join(1, 0);
        y.setModes(1, 0, 1, 0);
        y.deliver(1, 0);
        y.deliver(1, 0);
        y.join(0, 0);
        Check.due("13: the eldest by its home view", 1, y.say(0, 0));
        Check.due("13: the eldest by the other one's view too", 0, y.say(1, 0));
        y.deliverAll();
        Check.due("13: until the line comes", ChatRelay.NOT_ELDEST, y.say(1, 0));
    }

    /** "the first one that applies": each reason with all those behind it. */
    private static void sayFirstThatApplies() {
        ChatRelay x = new ChatRelay();
        x.signOn(0, 'a');
        x.signOn(0, 'b');
        x.join(0, 0);
        x.join(1, 0);
        x.setModes(0, 0, 1, 0);
        Check.due("13: not the eldest alone", ChatRelay.NOT_ELDEST, x.say(1, 0));
        x.setModes(0, 0, 1, 2);
        Check.due("13: banned, and not the eldest", ChatRelay.BANNED, x.say(1, 0));
        x.setModes(0, 0, 0, 2);
        Check.due("13: banned alone", ChatRelay.BANNED, x.say(1, 0));
        x.setModes(0, 0, 1, 3);
        Check.due("13: banned, though the eldest", ChatRelay.BANNED, x.say(0, 0));
        x.leave(1, 0);
        Check.due("13: no member, banned, and not the eldest", ChatRelay.NO_MEMBER, x.say(1, 0));
        x.quit(1);
        Check.due("13: gone, no member, banned, and not the eldest", ChatRelay.IS_GONE, x.say(1, 0));
    }

    // ---- promises 17 to 20

    private static void viewsWithoutTheChannel() {
        ChatRelay x = new ChatRelay();
        x.signOn(3, 'a');
        for (int server = 0; server < 6; server++) {
            for (int channel = 0; channel < 4; channel++) {
                Check.dueNoChannel("17 to 20: nothing at " + server, x, server, channel);
            }
        }
        x.join(0, 2);
        Check.dueChannel("17 to 20: there, with nought", x, 3, 2, 1, 0, 0, 1);
        Check.dueNoChannel("17 to 20: the channel before", x, 3, 1);
        Check.dueNoChannel("17 to 20: the channel behind", x, 3, 3);
        Check.dueNoChannel("17 to 20: the server before", x, 2, 2);
        Check.dueNoChannel("17 to 20: the server behind", x, 4, 2);
    }

    // ---- promise 21: areSame

    private static void sameViews() {
        ChatRelay x = new ChatRelay();
        for (int server = 0; server < 6; server++) {
            for (int other = 0; other < 6; other++) {
                Check.due("21: empty views", true, x.areSame(server, other));
            }
        }
        x.link(0, 1);
        x.signOn(0, 'a');
        x.join(0, 0);
        x.deliverAll();
        Check.due("21: of the same users and channels", true, x.areSame(0, 1));
        x.split(0, 1);
        Check.due("21: itself", true, x.areSame(0, 0));
        Check.due("21: a full one and an empty one", false, x.areSame(0, 1));
        Check.due("21: two empty ones in two trees", true, x.areSame(1, 5));
        x.quit(0);
        Check.due("21: both empty again", true, x.areSame(0, 1));
    }

    /** One part differs, all others are the same: known, age, modes, bans, members, each way round. */
    private static void notSameInOnePart() {
        ChatRelay x = new ChatRelay();
        x.link(0, 1);
        x.signOn(0, 'a');
        x.signOn(0, 'b');
        x.join(0, 3);
        x.deliverAll();
        differ("modes", x, () -> x.setModes(0, 3, 8, 0));
        differ("bans", x, () -> x.setModes(0, 3, 8, 1));
        differ("bans, the last letter", x, () -> x.setModes(0, 3, 8, 1 + (1 << 25)));
        differ("members", x, () -> x.join(1, 3));
        differ("a channel", x, () -> x.join(1, 0));
        differ("known", x, () -> x.signOn(0, 'c'));
        differ("known, one less", x, () -> x.quit(2));
        differ("a channel less", x, () -> x.leave(1, 0));
        x.setModes(0, 3, 0, 0);
        x.leave(1, 3);
        x.deliverAll();
        x.leave(0, 3);
        x.join(0, 3);
        Check.dueChannel("21: of a new age at 0", x, 0, 3, x.clock() - 1, 0, 0, 1);
        Check.dueChannel("21: of the old age at 1", x, 1, 3, 3, 0, 0, 1);
        Check.due("21: age", false, x.areSame(0, 1));
        Check.due("21: age, the other way", false, x.areSame(1, 0));
    }

    private static void differ(String what, ChatRelay x, Check.Call change) {
        Check.due("21: the same before, " + what, true, x.areSame(0, 1));
        change.run();
        Check.due("21: " + what, false, x.areSame(0, 1));
        Check.due("21: the other way, " + what, false, x.areSame(1, 0));
        x.deliverAll();
        Check.due("21: the same behind, " + what, true, x.areSame(0, 1));
    }

    // ---- promise 22: joinedModes

    private static void joinedOfNeither() {
        ChatRelay x = new ChatRelay();
        x.signOn(0, 'a');
        x.join(0, 0);
        Check.due("22: another channel", NONE, x.joinedModes(0, 1, 1));
        Check.due("22: other servers", NONE, x.joinedModes(1, 2, 0));
        Check.due("22: one other server and itself", NONE, x.joinedModes(1, 1, 0));
        x.leave(0, 0);
        Check.due("22: gone", NONE, x.joinedModes(0, 1, 0));
        Check.due("22: gone, and itself", NONE, x.joinedModes(0, 0, 0));
    }

    private static void joinedOfOne() {
        ChatRelay x = new ChatRelay();
        x.signOn(0, 'a');
        x.join(0, 0);
        for (int modes = 0; modes <= 15; modes++) {
            x.setModes(0, 0, modes, 0);
            Check.due("22: in the first alone", modes, x.joinedModes(0, 1, 0));
            Check.due("22: in the second alone", modes, x.joinedModes(1, 0, 0));
            Check.due("22: with itself", modes, x.joinedModes(0, 0, 0));
        }
    }

    private static void joinedOfBoth() {
        ChatRelay x = new ChatRelay();
        x.signOn(0, 'a');
        x.signOn(1, 'b');
        x.join(0, 0);
        x.join(1, 0);
        for (int modes = 0; modes <= 15; modes++) {
            for (int other = 0; other <= 15; other += 5) {
                x.setModes(0, 0, modes, 0);
                x.setModes(1, 0, other, 0);
                Check.due("22: those of the lesser age", modes, x.joinedModes(0, 1, 0));
                Check.due("22: those of the lesser age, the other way", modes, x.joinedModes(1, 0, 0));
            }
        }
        ChatRelay y = new ChatRelay();
        y.link(0, 1);
        y.signOn(0, 'a');
        y.signOn(1, 'b');
        y.deliverAll();
        y.join(0, 0);
        y.deliverAll();
        y.join(1, 0);
        y.deliverAll();
        for (int modes = 0; modes <= 15; modes++) {
            for (int other = 0; other <= 15; other += 5) {
                y.setModes(0, 0, modes, 0);
                y.setModes(1, 0, other, 0);
                Check.due("22: the union", modes | other, y.joinedModes(0, 1, 0));
                Check.due("22: the union, the other way", modes | other, y.joinedModes(1, 0, 0));
            }
        }
    }

    /** "whoever is known": no member of the one view need be known by the other one, and nothing changes. */
    private static void joinedWhoeverIsKnown() {
        ChatRelay x = new ChatRelay();
        x.signOn(0, 'a');
        x.signOn(5, 'A');
        x.join(0, 1);
        x.join(1, 1);
        x.setModes(0, 1, 12, 3);
        x.setModes(1, 1, 3, 12);
        String before = Check.told(x);
        Check.due("22: the lesser age, though no line would join it", 12, x.joinedModes(5, 0, 1));
        Check.due("22: the lesser age at home", 12, x.joinedModes(0, 5, 1));
        Check.due("22: it changes nothing", true, before.equals(Check.told(x)));
        x.link(0, 5);
        x.deliverAll();
        Check.due("22: all bursts lead to it", 12, x.modes(5, 1));
        Check.due("22: at both", 12, x.modes(0, 1));
    }
}
