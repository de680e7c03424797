import java.util.ArrayDeque;
import java.util.ArrayList;
import java.util.Deque;
import java.util.List;
import java.util.Map;
import java.util.Set;
import java.util.TreeMap;
import java.util.TreeSet;

/** The document once more, with sets, maps and queues of the library: slow, and near to its words. */
final class PlainRelay {
    record Person(int number, String name, int home, int age) {
    }

    static final class Room {
        int age;
        Set<Integer> modes = new TreeSet<>();
        Set<Integer> bans = new TreeSet<>();
        Set<Integer> members = new TreeSet<>();

        Room copy() {
            Room copy = new Room();
            copy.age = age;
            copy.modes.addAll(modes);
            copy.bans.addAll(bans);
            copy.members.addAll(members);
            return copy;
        }

        boolean same(Room o) {
            return age == o.age && modes.equals(o.modes) && bans.equals(o.bans) && members.equals(o.members);
        }
    }

    record Told(String kind, int channel, int user, Room room) {
    }

    static final class Sight {
        final Set<Integer> known = new TreeSet<>();
        final Map<Integer, Room> rooms = new TreeMap<>();

        void quit(int user) {
            known.remove(user);
            for (int channel = 0; channel < 4; channel++) {
                leave(channel, user);
            }
        }

        void leave(int channel, int user) {
            Room room = rooms.get(channel);
            if (room != null) {
                room.members.remove(user);
                if (room.members.isEmpty()) {
                    rooms.remove(channel);
                }
            }
        }
    }

    private final List<Sight> sights = new ArrayList<>();
    private final List<Person> people = new ArrayList<>();
    /** By "from>to"; a link has both ways. */
    private final Map<String, Deque<Told>> queues = new TreeMap<>();
    private int clock = 0;

    PlainRelay() {
        for (int s = 0; s < 6; s++) {
            sights.add(new Sight());
        }
    }

    private static void server(int s) {
        if (!(0 <= s && s <= 5)) {
            throw new IndexOutOfBoundsException();
        }
    }

    private static void channel(int c) {
        if (!(0 <= c && c <= 3)) {
            throw new IndexOutOfBoundsException();
        }
    }

    private Person person(int u) {
        if (!(0 <= u && u < people.size())) {
            throw new IndexOutOfBoundsException();
        }
        return people.get(u);
    }

    private static void refuseIf(boolean so) {
        if (so) {
            throw new IllegalStateException();
        }
    }

    private Deque<Told> queue(int a, int b) {
        return queues.get(a + ">" + b);
    }

    private Set<Integer> reach(int s) {
        Set<Integer> seen = new TreeSet<>();
        Deque<Integer> todo = new ArrayDeque<>(List.of(s));
        while (!todo.isEmpty()) {
            int at = todo.pop();
            if (seen.add(at)) {
                for (int b = 0; b < 6; b++) {
                    if (queue(at, b) != null) {
                        todo.push(b);
                    }
                }
            }
        }
        return seen;
    }

    private static int bits(Iterable<Integer> set) {
        int bits = 0;
        for (int each : set) {
            bits |= 1 << each;
        }
        return bits;
    }

    private static Set<Integer> setOf(int bits) {
        Set<Integer> set = new TreeSet<>();
        for (int bit = 0; bit < 32; bit++) {
            if ((bits >>> bit) % 2 == 1) {
                set.add(bit);
            }
        }
        return set;
    }

    private int count() {
        return queues.values().stream().mapToInt(Deque::size).sum();
    }

    private void send(int from, int except, Told told) {
        for (int b = 0; b < 6; b++) {
            if (b != except && queue(from, b) != null) {
                queue(from, b).addLast(told);
            }
        }
    }

    int link(int a, int b) {
        server(a);
        server(b);
        refuseIf(reach(a).contains(b));
        queues.put(a + ">" + b, bursting(a));
        queues.put(b + ">" + a, bursting(b));
        clock++;
        return queue(a, b).size() + queue(b, a).size();
    }

    private Deque<Told> bursting(int s) {
        Deque<Told> lines = new ArrayDeque<>();
        sights.get(s).known.forEach(u -> lines.addLast(new Told("USER", -1, u, null)));
        sights.get(s).rooms.forEach((c, room) -> lines.addLast(new Told("CHANNEL", c, -1, room.copy())));
        return lines;
    }

    int split(int a, int b) {
        server(a);
        server(b);
        refuseIf(queue(a, b) == null);
        int lost = queues.remove(a + ">" + b).size() + queues.remove(b + ">" + a).size();
        for (int s = 0; s < 6; s++) {
            Set<Integer> tree = reach(s);
            for (Person p : people) {
                if (!tree.contains(p.home)) {
                    sights.get(s).quit(p.number);
                }
            }
        }
        clock++;
        return lost;
    }

    int deliver(int a, int b) {
        server(a);
        server(b);
        refuseIf(queue(a, b) == null || queue(a, b).isEmpty());
        get(b, a, queue(a, b).removeFirst());
        clock++;
        return count();
    }

    int deliverAll() {
        int done = 0;
        while (count() > 0) {
            for (int a = 0; a < 6; a++) {
                for (int b = 0; b < 6; b++) {
                    if (queue(a, b) != null && !queue(a, b).isEmpty()) {
                        get(b, a, queue(a, b).removeFirst());
                        done++;
                    }
                }
            }
        }
        clock++;
        return done;
    }

    private void get(int s, int from, Told told) {
        Sight sight = sights.get(s);
        if (told.kind.equals("USER")) {
            getUser(s, from, told);
        } else if (told.kind.equals("QUIT")) {
            if (sight.known.contains(told.user)) {
                sight.quit(told.user);
                send(s, from, told);
            }
        } else if (told.kind.equals("CHANNEL")) {
            Room news = told.room.copy();
            news.members.retainAll(sight.known);
            if (!news.members.isEmpty()) {
                Room old = sight.rooms.get(told.channel);
                sight.rooms.put(told.channel, old == null ? news : both(old, news));
            }
            send(s, from, told);
        } else if (told.kind.equals("LEAVE")) {
            sight.leave(told.channel, told.user);
            send(s, from, told);
        } else {
            Room room = sight.rooms.get(told.channel);
            if (room != null && room.age == told.room.age) {
                room.modes = new TreeSet<>(told.room.modes);
                room.bans = new TreeSet<>(told.room.bans);
            }
            send(s, from, told);
        }
    }

    private void getUser(int s, int from, Told told) {
        Sight sight = sights.get(s);
        Person one = people.get(told.user);
        if (!reach(s).contains(one.home)) {
            return;
        }
        for (Person p : people) {
            if (p != one && sight.known.contains(p.number) && p.name.equals(one.name)) {
                if (p.age < one.age) {
                    queue(s, from).addLast(new Told("QUIT", -1, one.number, null));
                    return;
                }
                sight.quit(p.number);
                send(s, -1, new Told("QUIT", -1, p.number, null));
            }
        }
        sight.known.add(one.number);
        send(s, from, told);
    }

    private static Room both(Room one, Room two) {
        Room elder = one.age <= two.age ? one : two;
        Room room = elder.copy();
        if (one.age == two.age) {
            room.modes.addAll(one.modes);
            room.modes.addAll(two.modes);
            room.bans.addAll(one.bans);
            room.bans.addAll(two.bans);
        }
        room.members.addAll(one.members);
        room.members.addAll(two.members);
        return room;
    }

    int lines() {
        return count();
    }

    int tree(int s) {
        server(s);
        return bits(reach(s));
    }

    int signOn(int s, char name) {
        server(s);
        if (!String.valueOf(name).matches("[a-zA-Z]")) {
            throw new IllegalArgumentException();
        }
        String small = String.valueOf(name).toLowerCase();
        refuseIf(people.size() == 20);
        for (Person p : people) {
            refuseIf(p.name.equals(small) && sights.get(s).known.contains(p.number));
        }
        int u = people.size();
        people.add(new Person(u, small, s, clock));
        sights.get(s).known.add(u);
        send(s, -1, new Told("USER", -1, u, null));
        clock++;
        return u;
    }

    private boolean gone(Person p) {
        return !sights.get(p.home).known.contains(p.number);
    }

    int quit(int u) {
        Person p = person(u);
        refuseIf(gone(p));
        sights.get(p.home).quit(u);
        send(p.home, -1, new Told("QUIT", -1, u, null));
        clock++;
        return 0;
    }

    private static int letter(Person p) {
        return p.name.charAt(0) - 'a';
    }

    int join(int u, int c) {
        Person p = person(u);
        channel(c);
        refuseIf(gone(p));
        Map<Integer, Room> rooms = sights.get(p.home).rooms;
        Room room = rooms.get(c);
        if (room == null) {
            room = new Room();
            room.age = clock;
            rooms.put(c, room);
        } else {
            refuseIf(room.members.contains(u) || room.bans.contains(letter(p)));
        }
        room.members.add(u);
        Room news = room.copy();
        news.members.retainAll(Set.of(u));
        send(p.home, -1, new Told("CHANNEL", c, -1, news));
        clock++;
        return room.members.size();
    }

    private boolean member(Person p, int c) {
        Room room = sights.get(p.home).rooms.get(c);
        return room != null && room.members.contains(p.number);
    }

    int leave(int u, int c) {
        Person p = person(u);
        channel(c);
        refuseIf(gone(p) || !member(p, c));
        sights.get(p.home).leave(c, u);
        send(p.home, -1, new Told("LEAVE", c, u, null));
        clock++;
        return 0;
    }

    int setModes(int u, int c, int modes, int bans) {
        Person p = person(u);
        channel(c);
        if (!(0 <= modes && modes <= 15) || !(0 <= bans && bans <= 67108863)) {
            throw new IllegalArgumentException();
        }
        refuseIf(gone(p) || !member(p, c));
        Room room = sights.get(p.home).rooms.get(c);
        int before = bits(room.modes);
        room.modes = setOf(modes);
        room.bans = setOf(bans);
        send(p.home, -1, new Told("MODES", c, -1, room.copy()));
        clock++;
        return before;
    }

    int say(int u, int c) {
        Person p = person(u);
        channel(c);
        if (gone(p)) {
            return -2;
        }
        if (!member(p, c)) {
            return -3;
        }
        Room room = sights.get(p.home).rooms.get(c);
        if (room.bans.contains(letter(p))) {
            return -4;
        }
        if (room.modes.contains(0)) {
            for (int other : room.members) {
                if (people.get(other).age < p.age) {
                    return -5;
                }
            }
        }
        Set<String> over = new TreeSet<>();
        for (int other : room.members) {
            way(p.home, -1, people.get(other).home, over);
        }
        return over.size();
    }

    /** Adds the links of the way to a set; answers whether it is there. */
    private boolean way(int at, int from, int to, Set<String> over) {
        if (at == to) {
            return true;
        }
        for (int b = 0; b < 6; b++) {
            if (b != from && queue(at, b) != null && way(b, at, to, over)) {
                over.add(at + ">" + b);
                return true;
            }
        }
        return false;
    }

    int users() {
        return people.size();
    }

    int clock() {
        return clock;
    }

    int known(int s) {
        server(s);
        return bits(sights.get(s).known);
    }

    private Room room(int s, int c) {
        server(s);
        channel(c);
        return sights.get(s).rooms.get(c);
    }

    int members(int s, int c) {
        Room room = room(s, c);
        return room == null ? 0 : bits(room.members);
    }

    int age(int s, int c) {
        Room room = room(s, c);
        return room == null ? -1 : room.age;
    }

    int modes(int s, int c) {
        Room room = room(s, c);
        return room == null ? -1 : bits(room.modes);
    }

    int bans(int s, int c) {
        Room room = room(s, c);
        return room == null ? -1 : bits(room.bans);
    }

    int areSame(int a, int b) {
        server(a);
        server(b);
        boolean same = sights.get(a).known.equals(sights.get(b).known);
        for (int c = 0; c < 4; c++) {
            Room one = room(a, c);
            Room two = room(b, c);
            same &= one == null ? two == null : two != null && one.same(two);
        }
        return same ? 1 : 0;
    }

    int joinedModes(int a, int b, int c) {
        server(a);
        server(b);
        channel(c);
        Room one = room(a, c);
        Room two = room(b, c);
        if (one == null && two == null) {
            return -1;
        }
        if (one == null || two == null) {
            return bits((one == null ? two : one).modes);
        }
        return bits(both(one, two).modes);
    }
}
