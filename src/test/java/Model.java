import java.nio.charset.StandardCharsets;
import java.util.ArrayDeque;
import java.util.ArrayList;
import java.util.Deque;
import java.util.List;
import java.util.NoSuchElementException;
import java.util.TreeSet;
import java.util.function.Predicate;
import java.util.regex.Matcher;
import java.util.regex.Pattern;

/**
 * The document once more, in another way: it lists all walks one by one and reads every answer off the list.
 * RandomRunsTest puts the same calls to it and to KeyTour.
 */
public final class Model {
    record Room(String name, TreeSet<Integer> keys, int coins) {
        Room copy() {
            return new Room(name, new TreeSet<>(keys), coins);
        }
    }

    record Door(int first, int second, int kind, int number, boolean oneway) {
        boolean leads(int from, int to) {
            return first == from && second == to || !oneway && first == to && second == from;
        }
    }

    private static final class State {
        List<Room> rooms = new ArrayList<>();
        List<Door> doors = new ArrayList<>();
        int start = 0;
        int end = -1;
        List<Integer> walk = new ArrayList<>(List.of(0));

        State copy() {
            State other = new State();
            for (Room room : rooms) other.rooms.add(room.copy());
            other.doors = new ArrayList<>(doors);
            other.start = start;
            other.end = end;
            other.walk = new ArrayList<>(walk);
            return other;
        }

        TreeSet<Integer> keys(List<Integer> found) {
            TreeSet<Integer> keys = new TreeSet<>();
            for (int room : found) keys.addAll(rooms.get(room).keys());
            return keys;
        }

        int coins(List<Integer> found) {
            int coins = 0;
            for (int room : found) coins += rooms.get(room).coins();
            return coins;
        }

        boolean open(Door door, List<Integer> found) {
            return switch (door.kind()) {
                case 0 -> true;
                case 1 -> keys(found).contains(door.number());
                default -> coins(found) >= door.number();
            };
        }

        boolean leads(List<Integer> found, int from, int to) {
            for (Door door : doors) {
                if (door.leads(from, to) && open(door, found)) return true;
            }
            return false;
        }

        List<List<Integer>> walks() {
            List<List<Integer>> all = new ArrayList<>();
            grow(new ArrayList<>(List.of(start)), all);
            return all;
        }

        private void grow(List<Integer> row, List<List<Integer>> all) {
            all.add(new ArrayList<>(row));
            int last = row.get(row.size() - 1);
            for (int room = 0; room < rooms.size(); room++) {
                if (row.contains(room) || !leads(row, last, room)) continue;
                row.add(room);
                grow(row, all);
                row.remove(row.size() - 1);
            }
        }

        List<List<Integer>> fullWalks() {
            List<List<Integer>> full = new ArrayList<>();
            for (List<Integer> row : walks()) {
                if (row.size() == rooms.size()) full.add(row);
            }
            return full;
        }

        List<List<Integer>> tours() {
            List<List<Integer>> tours = fullWalks();
            tours.removeIf(row -> end != -1 && row.get(row.size() - 1) != end);
            return tours;
        }

        void cut() {
            for (int place = 1; place < walk.size(); place++) {
                if (!leads(walk.subList(0, place), walk.get(place - 1), walk.get(place))) {
                    walk = new ArrayList<>(walk.subList(0, place));
                    return;
                }
            }
        }
    }

    private State now = new State();
    private String input = "";
    private String output = "";
    private int errorCode = 0;
    private int errorPosition = -1;
    private final Deque<State> history = new ArrayDeque<>();
    private final State[] slots = new State[2];

    public Model() {
        now.rooms.add(new Room("", new TreeSet<>(), 0));
    }

    public int append(int a, int b, int c, int d, int e) {
        if (input.length() > 480) throw new IllegalStateException();
        java.nio.ByteBuffer bytes = java.nio.ByteBuffer.allocate(20);
        bytes.putInt(a).putInt(b).putInt(c).putInt(d).putInt(e);
        input += new String(bytes.array(), StandardCharsets.ISO_8859_1);
        return input.length();
    }

    public void truncate(int length) {
        if (length < 0 || length > input.length()) throw new IllegalArgumentException();
        input = input.substring(0, length);
    }

    public int load() {
        Reader reader = new Reader(input);
        input = "";
        try {
            State read = reader.read();
            record();
            now = read;
            errorCode = 0;
            errorPosition = -1;
            return now.rooms.size();
        } catch (TextError e) {
            errorCode = e.code;
            errorPosition = e.position;
            return -4;
        }
    }

    public int errorCode() {
        return errorCode;
    }

    public int errorPosition() {
        return errorPosition;
    }

    public int find() {
        String name = input;
        input = "";
        for (int room = 0; room < now.rooms.size() && !name.isEmpty(); room++) {
            if (now.rooms.get(room).name().equals(name)) return room;
        }
        return -1;
    }

    public int property(int what) {
        return switch (what) {
            case 0 -> now.rooms.size();
            case 1 -> now.doors.size();
            case 2 -> now.start;
            case 3 -> now.end;
            case 4 -> now.walk.size();
            case 5 -> last(now.walk);
            case 6 -> mask(now.walk);
            case 7 -> mask(now.keys(now.walk));
            case 8 -> now.coins(now.walk);
            default -> throw new IllegalArgumentException();
        };
    }

    public int room(int room, int what) {
        needRoom(room);
        return switch (what) {
            case 0 -> mask(now.rooms.get(room).keys());
            case 1 -> now.rooms.get(room).coins();
            case 2 -> doors(door -> door.first() == room || !door.oneway() && door.second() == room);
            case 3 -> doors(door -> door.second() == room || !door.oneway() && door.first() == room);
            case 4 -> now.walk.indexOf(room);
            default -> throw new IllegalArgumentException();
        };
    }

    public int door(int number, int what) {
        needDoor(number);
        Door door = now.doors.get(number);
        return switch (what) {
            case 0 -> door.first();
            case 1 -> door.second();
            case 2 -> door.kind();
            case 3 -> door.number();
            case 4 -> door.oneway() ? 1 : 0;
            case 5 -> now.open(door, now.walk) ? 1 : 0;
            default -> throw new IllegalArgumentException();
        };
    }

    public int walked(int place) {
        if (place < 0 || place >= now.walk.size()) throw new NoSuchElementException();
        return now.walk.get(place);
    }

    public int foundAt(int key) {
        needKey(key);
        for (int room : now.walk) {
            if (now.rooms.get(room).keys().contains(key)) return now.walk.indexOf(room);
        }
        return -1;
    }

    public int why(int room) {
        needRoom(room);
        if (now.walk.contains(room)) return 1;
        List<Door> there = new ArrayList<>(now.doors);
        there.removeIf(door -> !door.leads(last(now.walk), room));
        if (there.isEmpty()) return 2;
        if (there.stream().anyMatch(door -> now.open(door, now.walk))) return 0;
        return there.stream().allMatch(door -> door.kind() == 1) ? 3 : 4;
    }

    public int exits() {
        return rooms(room -> why(room) == 0);
    }

    public long tours() {
        return now.tours().size();
    }

    public long completions() {
        return beginning(now.walk);
    }

    public long completionsBy(int room) {
        needRoom(room);
        List<Integer> longer = new ArrayList<>(now.walk);
        longer.add(room);
        return beginning(longer);
    }

    public int good() {
        return rooms(room -> completionsBy(room) > 0);
    }

    public int wrong() {
        for (int less = 0; less < now.walk.size(); less++) {
            if (beginning(now.walk.subList(0, now.walk.size() - less)) > 0) return less;
        }
        return -1;
    }

    public int tour(long rank, int place) {
        List<Integer> tour = ranked(rank);
        if (place < 0 || place >= now.rooms.size()) throw new IllegalArgumentException();
        return tour.get(place);
    }

    public long rank() {
        return now.tours().indexOf(now.walk);
    }

    public int longest() {
        return longest(List.of());
    }

    public int longestOn() {
        return longest(now.walk);
    }

    public int endings() {
        return rooms(room -> now.tours().stream().anyMatch(tour -> last(tour) == room));
    }

    public int starts() {
        return rooms(room -> toursFrom(room) > 0);
    }

    public long toursFrom(int room) {
        needRoom(room);
        State other = now.copy();
        other.start = room;
        return other.tours().size();
    }

    public long toursTo(int room) {
        needRoom(room);
        return now.fullWalks().stream().filter(row -> last(row) == room).count();
    }

    public int reachable() {
        TreeSet<Integer> found = new TreeSet<>(List.of(now.start));
        boolean more = true;
        while (more) {
            more = false;
            for (int from : List.copyOf(found)) {
                for (int to = 0; to < now.rooms.size(); to++) {
                    if (now.leads(List.copyOf(found), from, to)) more |= found.add(to);
                }
            }
        }
        return mask(found);
    }

    public long without(int key) {
        needKey(key);
        State other = now.copy();
        for (Room room : other.rooms) room.keys().remove(key);
        return other.tours().size();
    }

    public int neededKeys() {
        TreeSet<Integer> keys = new TreeSet<>();
        for (int key = 0; key < 8 && tours() > 0; key++) {
            if (without(key) == 0) keys.add(key);
        }
        return mask(keys);
    }

    public long toursWithout(int door) {
        needDoor(door);
        State other = now.copy();
        other.doors.remove(door);
        return other.tours().size();
    }

    public int neededDoors() {
        TreeSet<Integer> doors = new TreeSet<>();
        for (int door = 0; door < now.doors.size() && tours() > 0; door++) {
            if (toursWithout(door) == 0) doors.add(door);
        }
        return mask(doors);
    }

    public long toursIfOpen(int door) {
        needDoor(door);
        State other = now.copy();
        other.doors.set(door, new Door(now.doors.get(door).first(), now.doors.get(door).second(), 0, 0, false));
        return other.tours().size();
    }

    public int bestDoor() {
        int best = -1;
        for (int door = now.doors.size() - 1; door >= 0; door--) {
            if (best == -1 || toursIfOpen(door) >= toursIfOpen(best)) best = door;
        }
        return best;
    }

    public long ahead(int room, int other) {
        needTwo(room, other);
        return now.tours().stream().filter(tour -> tour.indexOf(room) < tour.indexOf(other)).count();
    }

    public long atPlace(int room, int place) {
        needRoom(room);
        if (place < 0 || place >= now.rooms.size()) throw new IllegalArgumentException();
        return now.tours().stream().filter(tour -> tour.get(place) == room).count();
    }

    public long behind(int room, int other) {
        needTwo(room, other);
        return now.tours().stream().filter(tour -> tour.indexOf(room) + 1 == tour.indexOf(other)).count();
    }

    public double share(int room, int place) {
        long part = atPlace(room, place);
        return tours() == 0 ? 0.0 : (double) part / (double) tours();
    }

    public float shown() {
        return (float) now.walk.size() / (float) now.rooms.size();
    }

    public int leastCoins() {
        return now.tours().stream().mapToInt(tour -> now.coins(tour.subList(0, tour.size() - 1))).min().orElse(-1);
    }

    public long rounds() {
        return now.tours().stream().filter(tour -> now.leads(tour, last(tour), now.start)).count();
    }

    public long go(int room) {
        if (why(room) != 0) throw new IllegalStateException();
        record();
        now.walk.add(room);
        return completions();
    }

    public int back(int rooms) {
        if (rooms < 1 || rooms >= now.walk.size()) throw new IllegalArgumentException();
        record();
        now.walk = new ArrayList<>(now.walk.subList(0, now.walk.size() - rooms));
        return last(now.walk);
    }

    public int again() {
        record();
        int before = now.walk.size();
        now.walk = new ArrayList<>(List.of(now.start));
        return before;
    }

    public int complete() {
        for (List<Integer> tour : now.tours()) {
            if (!begins(tour, now.walk)) continue;
            record();
            int added = tour.size() - now.walk.size();
            now.walk = new ArrayList<>(tour);
            return added;
        }
        throw new IllegalStateException();
    }

    public int walk(long rank) {
        List<Integer> tour = ranked(rank);
        record();
        now.walk = new ArrayList<>(tour);
        return last(tour);
    }

    public boolean setKey(int room, int key, boolean there) {
        needRoom(room);
        needKey(key);
        record();
        TreeSet<Integer> keys = now.rooms.get(room).keys();
        boolean before = keys.contains(key);
        if (there) keys.add(key);
        else keys.remove(key);
        now.cut();
        return before;
    }

    public int setCoins(int room, int coins) {
        needRoom(room);
        if (coins < 0 || coins > 99) throw new IllegalArgumentException();
        record();
        Room before = now.rooms.get(room);
        now.rooms.set(room, new Room(before.name(), before.keys(), coins));
        now.cut();
        return before.coins();
    }

    public int setLock(int door, int kind, int number) {
        needDoor(door);
        if (kind < 0 || kind > 2 || number < 0) throw new IllegalArgumentException();
        if (number > new int[] {0, 7, 999}[kind]) throw new IllegalArgumentException();
        record();
        Door before = now.doors.get(door);
        now.doors.set(door, new Door(before.first(), before.second(), kind, number, before.oneway()));
        now.cut();
        return 1000 * before.kind() + before.number();
    }

    public int addDoor(int room, int other, boolean oneway) {
        needTwo(room, other);
        if (now.doors.size() == 20) throw new IllegalStateException();
        record();
        now.doors.add(new Door(room, other, 0, 0, oneway));
        return now.doors.size() - 1;
    }

    public int removeDoor(int door) {
        needDoor(door);
        record();
        now.doors.remove(door);
        now.cut();
        return now.doors.size();
    }

    public int setStart(int room) {
        needRoom(room);
        record();
        int before = now.start;
        now.start = room;
        if (room != before) now.walk = new ArrayList<>(List.of(room));
        return before;
    }

    public int setEnd(int room) {
        if (room != -1) needRoom(room);
        record();
        int before = now.end;
        now.end = room;
        return before;
    }

    public int keep(int slot) {
        if (slot != 0 && slot != 1) throw new IndexOutOfBoundsException();
        slots[slot] = now.copy();
        return now.walk.size();
    }

    public int restore(int slot) {
        if (slot != 0 && slot != 1) throw new IndexOutOfBoundsException();
        if (slots[slot] == null) throw new IllegalStateException();
        record();
        now = slots[slot].copy();
        return now.walk.size();
    }

    public int undo() {
        if (history.isEmpty()) throw new IllegalStateException();
        now = history.removeLast();
        return history.size();
    }

    public int undoCount() {
        return history.size();
    }

    public int writeWalk() {
        output = names(now.walk) + (completions() == 0 ? "!" : "");
        return output.length();
    }

    public int writeTour(long rank) {
        output = names(ranked(rank));
        return output.length();
    }

    public int writeDoor(int number) {
        needDoor(number);
        Door door = now.doors.get(number);
        output = now.rooms.get(door.first()).name() + (door.oneway() ? ">" : "-") + now.rooms.get(door.second()).name();
        if (door.kind() > 0) output += (door.kind() == 1 ? " k" : " t") + door.number();
        return output.length();
    }

    public int outputByte(int index) {
        if (index < 0 || index >= output.length()) throw new NoSuchElementException();
        return output.charAt(index);
    }

    private void record() {
        history.addLast(now.copy());
        if (history.size() > 6) history.removeFirst();
    }

    private void needRoom(int room) {
        if (room < 0 || room >= now.rooms.size()) throw new IndexOutOfBoundsException();
    }

    private void needTwo(int room, int other) {
        needRoom(room);
        needRoom(other);
        if (room == other) throw new IllegalArgumentException();
    }

    private void needDoor(int door) {
        if (door < 0 || door >= now.doors.size()) throw new IndexOutOfBoundsException();
    }

    private static void needKey(int key) {
        if (key < 0 || key > 7) throw new IndexOutOfBoundsException();
    }

    private List<Integer> ranked(long rank) {
        List<List<Integer>> tours = now.tours();
        if (rank < 0 || rank >= tours.size()) throw new IllegalArgumentException();
        return tours.get((int) rank);
    }

    private int longest(List<Integer> beginning) {
        return now.walks().stream().filter(row -> begins(row, beginning)).mapToInt(List::size).max().orElse(-1);
    }

    private long beginning(List<Integer> row) {
        return now.tours().stream().filter(tour -> begins(tour, row)).count();
    }

    private static boolean begins(List<Integer> row, List<Integer> beginning) {
        return row.size() >= beginning.size() && row.subList(0, beginning.size()).equals(beginning);
    }

    private static int last(List<Integer> row) {
        return row.get(row.size() - 1);
    }

    private String names(List<Integer> row) {
        return String.join(">", row.stream().map(room -> now.rooms.get(room).name()).toList());
    }

    private static int mask(Iterable<Integer> members) {
        int mask = 0;
        for (int member : members) mask += 1 << member;
        return mask;
    }

    private int rooms(Predicate<Integer> test) {
        TreeSet<Integer> set = new TreeSet<>();
        for (int room = 0; room < now.rooms.size(); room++) {
            if (test.test(room)) set.add(room);
        }
        return mask(set);
    }

    private int doors(Predicate<Door> test) {
        TreeSet<Integer> set = new TreeSet<>();
        for (int door = 0; door < now.doors.size(); door++) {
            if (test.test(now.doors.get(door))) set.add(door);
        }
        return mask(set);
    }

    private static final class TextError extends Exception {
        private static final long serialVersionUID = 1L;
        final int code;
        final int position;

        TextError(int code, int position) {
            this.code = code;
            this.position = position;
        }
    }

    /** Splits the whole text into tokens first and works on strings, unlike the parser of KeyTour. */
    private static final class Reader {
        private static final List<String> KEYWORDS =
                List.of("room", "key", "coins", "door", "toll", "oneway", "start", "end");
        private final List<String> tokens = new ArrayList<>();
        private final List<Integer> positions = new ArrayList<>();
        private int at = 0;
        private final State state = new State();

        Reader(String text) {
            Matcher matcher = Pattern.compile("[a-z]+|[0-9]+|[^ \n]", Pattern.DOTALL).matcher(text);
            while (matcher.find()) {
                tokens.add(matcher.group());
                positions.add(matcher.start());
            }
            tokens.add("");
            positions.add(text.length());
        }

        State read() throws TextError {
            boolean started = false;
            do {
                switch (tokens.get(at)) {
                    case "room" -> {
                        need(state.rooms.size() < 11, 5);
                        room();
                    }
                    case "door" -> {
                        need(state.doors.size() < 20, 5);
                        door();
                    }
                    case "start" -> {
                        need(!started, 5);
                        started = true;
                        at++;
                        state.start = told();
                    }
                    case "end" -> {
                        need(state.end == -1, 5);
                        at++;
                        state.end = told();
                    }
                    default -> need(false, 1);
                }
                need(tokens.get(at++).equals(";"), 1, at - 1);
            } while (!tokens.get(at).isEmpty());
            state.walk = new ArrayList<>(List.of(state.start));
            return state;
        }

        private void room() throws TextError {
            at++;
            need(isName(), 1);
            need(known() == -1, 3);
            TreeSet<Integer> keys = new TreeSet<>();
            int coins = 0;
            String name = tokens.get(at++);
            if (tokens.get(at).equals("key")) {
                do {
                    at++;
                    int key = number(7);
                    need(keys.add(key), 3, at - 1);
                } while (tokens.get(at).equals(","));
            }
            if (tokens.get(at).equals("coins")) {
                at++;
                coins = number(99);
            }
            state.rooms.add(new Room(name, keys, coins));
        }

        private void door() throws TextError {
            at++;
            int first = told();
            int second = told();
            need(first != second, 3, at - 1);
            int kind = List.of("key", "toll").indexOf(tokens.get(at)) + 1;
            int number = 0;
            if (kind > 0) {
                at++;
                number = number(kind == 1 ? 7 : 999);
            }
            boolean oneway = tokens.get(at).equals("oneway");
            if (oneway) at++;
            state.doors.add(new Door(first, second, kind, number, oneway));
        }

        private int told() throws TextError {
            need(isName(), 1);
            int room = known();
            need(room != -1, 4);
            at++;
            return room;
        }

        private int number(int greatest) throws TextError {
            need(tokens.get(at).matches("[0-9]+"), 1);
            java.math.BigInteger value = new java.math.BigInteger(tokens.get(at));
            need(value.compareTo(java.math.BigInteger.valueOf(greatest)) <= 0, 2);
            at++;
            return value.intValue();
        }

        private boolean isName() {
            return tokens.get(at).matches("[a-z]{1,6}") && !KEYWORDS.contains(tokens.get(at));
        }

        private int known() {
            return state.rooms.stream().map(Room::name).toList().indexOf(tokens.get(at));
        }

        private void need(boolean right, int code) throws TextError {
            need(right, code, at);
        }

        private void need(boolean right, int code, int token) throws TextError {
            if (!right) throw new TextError(code, positions.get(token));
        }
    }
}
