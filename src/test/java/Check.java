/** Counts and prints what is not as due. */
final class Check {
    static final Class<?> OUT = IndexOutOfBoundsException.class;
    static final Class<?> ARGUMENT = IllegalArgumentException.class;
    static final Class<?> STATE = IllegalStateException.class;

    private static int checked = 0;
    private static int wrong = 0;

    interface Call {
        void run();
    }

    private Check() {
    }

    static void due(String what, long want, long got) {
        checked++;
        if (got != want) {
            report(what + " answered " + got + ", due is " + want);
        }
    }

    static void due(String what, boolean want, boolean got) {
        due(what, want ? 1 : 0, got ? 1 : 0);
    }

    /** Due is just that exception, none of its kinds: the machine's own are kinds of these. */
    static void dueThrow(String what, Class<?> want, Call call) {
        checked++;
        try {
            call.run();
        } catch (RuntimeException e) {
            if (e.getClass() != want) {
                report(what + " threw " + e + ", due is " + want.getName());
            }
            return;
        }
        report(what + " threw nothing, due is " + want.getName());
    }

    /** Due is that exception, and that the call changes nothing that can be asked. */
    static void dueRefusal(ChatRelay relay, String what, Class<?> want, Call call) {
        String before = told(relay);
        dueThrow(what, want, call);
        checked++;
        if (!before.equals(told(relay))) {
            report(what + " changed " + before + " to " + told(relay));
        }
    }

    /** Due is that channel in the view of a server, in all its parts. */
    static void dueChannel(String what, ChatRelay relay, int server, int channel,
            int age, int modes, int bans, int members) {
        due(what + ": age", age, relay.age(server, channel));
        due(what + ": modes", modes, relay.modes(server, channel));
        due(what + ": bans", bans, relay.bans(server, channel));
        due(what + ": members", members, relay.members(server, channel));
    }

    static void dueNoChannel(String what, ChatRelay relay, int server, int channel) {
        dueChannel(what, relay, server, channel, ChatRelay.NONE, ChatRelay.NONE, ChatRelay.NONE, 0);
    }

    static void dueNoLine(String what, ChatRelay relay, int from, int to) {
        dueRefusal(relay, what + ": no line from " + from + " to " + to, STATE, () -> relay.deliver(from, to));
    }

    /**
     * Due is that both tell the same, now and behind each line that still waits: what stands in
     * the queues cannot be asked, so that it is delivered, one by one, in both.
     */
    static void dueTwins(String what, ChatRelay one, ChatRelay two) {
        dueSameTold(what, one, two);
        for (int pass = 0; pass < 1000 && one.lines() + two.lines() > 0; pass++) {
            for (int pair = 0; pair < 36; pair++) {
                int from = pair / 6;
                int to = pair % 6;
                due(what + ": a line from " + from + " to " + to, deliverIfAny(one, from, to),
                        deliverIfAny(two, from, to));
                dueSameTold(what + ", delivered from " + from + " to " + to, one, two);
            }
        }
        due(what + ": lines at the end", 0, one.lines() + two.lines());
    }

    private static int deliverIfAny(ChatRelay relay, int from, int to) {
        try {
            return relay.deliver(from, to);
        } catch (IllegalStateException none) {
            return -1;
        }
    }

    private static void dueSameTold(String what, ChatRelay one, ChatRelay two) {
        checked++;
        if (!told(one).equals(told(two))) {
            report(what + ": " + told(one) + ", due is " + told(two));
        }
    }

    /** All that can be asked of a relay without changing it. */
    static String told(ChatRelay relay) {
        StringBuilder text = new StringBuilder();
        text.append("clock ").append(relay.clock()).append(" users ").append(relay.users());
        text.append(" lines ").append(relay.lines());
        for (int server = 0; server < 6; server++) {
            text.append(" | ").append(relay.tree(server)).append(' ').append(relay.known(server));
            for (int channel = 0; channel < 4; channel++) {
                text.append(' ').append(relay.age(server, channel));
                text.append(' ').append(relay.modes(server, channel));
                text.append(' ').append(relay.bans(server, channel));
                text.append(' ').append(relay.members(server, channel));
            }
        }
        return text.toString();
    }

    static void report(String text) {
        wrong++;
        if (wrong <= 50) {
            System.out.println("  " + text);
        }
    }

    static int wrongSoFar() {
        return wrong;
    }

    static void end() {
        System.out.println("  " + checked + " checks, " + wrong + " wrong");
        if (wrong != 0 || checked == 0) {
            System.exit(1);
        }
    }
}
