import java.util.Arrays;
import java.util.NoSuchElementException;

/** Tours through the rooms of a level that show each room just once; README.md tells how to use it. */
public final class KeyTour {
    public static final int NONE = -1;
    public static final int PARSE_ERROR = -4;
    public static final int FREE = 0, KEY = 1, TOLL = 2;

    private static final int MOST_ROOMS = 11, MOST_DOORS = 20, KEYS = 8, MOST_COINS = 99, MOST_TOLL = 999;
    private static final int MOST_LETTERS = 6, MOST_INPUT = 500, MOST_UNDOS = 6, SLOTS = 2;
    // All names, the bytes between them and an exclamation mark.
    private static final int MOST_OUTPUT = MOST_ROOMS * MOST_LETTERS + MOST_ROOMS;

    private final Bytes input = new Bytes(MOST_INPUT);
    private final Bytes output = new Bytes(MOST_OUTPUT);
    private final Level level = new Level();
    // Holds what a text tells until it is known to be right, and levels of which is asked what would be.
    private final Level draft = new Level();
    private final History history = new History();
    private final Level[] slots = {new Level(), new Level()};
    private final boolean[] filled = new boolean[SLOTS];
    private final Tables tables = new Tables();
    // Whether the tables are those of another level, or of the level as it was.
    private boolean stale = true;
    private final int[] row = new int[MOST_ROOMS];
    private int parseError = 0;
    private int parsePosition = NONE;

    public KeyTour() {
    }

    // ---- The input and the text

    public int append(int a, int b, int c, int d, int e) throws IllegalStateException {
        if (input.length + 20 > MOST_INPUT) throw new IllegalStateException("the input buffer is full");
        input.addFour(a);
        input.addFour(b);
        input.addFour(c);
        input.addFour(d);
        input.addFour(e);
        return input.length;
    }

    public void truncate(int length) throws IllegalArgumentException {
        if (length < 0 || length > input.length) throw new IllegalArgumentException("length");
        input.length = length;
    }

    public int load() {
        Parser parser = new Parser(input, draft);
        boolean right = parser.parse();
        input.length = 0;
        parseError = right ? 0 : parser.code;
        parsePosition = right ? NONE : parser.begin;
        if (!right) return PARSE_ERROR;
        record();
        level.copyFrom(draft);
        return level.rooms;
    }

    public int errorCode() {
        return parseError;
    }

    public int errorPosition() {
        return parsePosition;
    }

    public int find() {
        long name = input.wholeName();
        input.length = 0;
        return name == 0 ? NONE : level.roomNamed(name);
    }

    // ---- The level and the walk

    public int property(int what) throws IllegalArgumentException {
        switch (what) {
            case 0: return level.rooms;
            case 1: return level.doors;
            case 2: return level.start;
            case 3: return level.end;
            case 4: return level.length;
            case 5: return level.lastRoom();
            case 6: return level.walkSet();
            case 7: return level.keysIn(level.walkSet());
            case 8: return level.coinsIn(level.walkSet());
            default: throw new IllegalArgumentException("what");
        }
    }

    public int room(int room, int what) throws IndexOutOfBoundsException, IllegalArgumentException {
        needRoom(room);
        switch (what) {
            case 0: return level.keys[room];
            case 1: return level.coins[room];
            case 2: return level.doorsFrom(room);
            case 3: return level.doorsInto(room);
            case 4: return level.placeOf(room);
            default: throw new IllegalArgumentException("what");
        }
    }

    public int door(int door, int what) throws IndexOutOfBoundsException, IllegalArgumentException {
        needDoor(door);
        switch (what) {
            case 0: return level.first[door];
            case 1: return level.second[door];
            case 2: return level.kind[door];
            case 3: return level.number[door];
            case 4: return level.oneway[door] ? 1 : 0;
            case 5: return has(level.openDoors(level.walkSet()), door) ? 1 : 0;
            default: throw new IllegalArgumentException("what");
        }
    }

    public int walked(int place) throws NoSuchElementException {
        if (place < 0 || place >= level.length) throw new NoSuchElementException("the walk is not so long");
        return level.walk[place];
    }

    public int foundAt(int key) throws IndexOutOfBoundsException {
        needKey(key);
        for (int place = 0; place < level.length; place++) {
            if (has(level.keys[level.walk[place]], key)) return place;
        }
        return NONE;
    }

    public int why(int room) throws IndexOutOfBoundsException {
        needRoom(room);
        if (level.placeOf(room) != NONE) return 1;
        int doors = level.doorsFrom(level.lastRoom()) & level.doorsInto(room);
        if (doors == 0) return 2;
        if ((doors & level.openDoors(level.walkSet())) != 0) return 0;
        return level.anyToll(doors) ? 4 : 3;
    }

    public int exits() {
        int set = level.walkSet();
        return level.leads(set)[level.lastRoom()] & ~set;
    }

    // ---- Tours and how the walk can be completed

    public long tours() {
        return solved().begun(1 << level.start, level.start);
    }

    public long completions() {
        return solved().begun(level.walkSet(), level.lastRoom());
    }

    public long completionsBy(int room) throws IndexOutOfBoundsException {
        needRoom(room);
        if (!has(exits(), room)) return 0;
        return solved().begun(level.walkSet() | 1 << room, room);
    }

    public int good() {
        int rooms = 0;
        for (int room = 0; room < level.rooms; room++) {
            if (completionsBy(room) > 0) rooms |= 1 << room;
        }
        return rooms;
    }

    public int wrong() {
        Tables known = solved();
        int set = level.walkSet();
        for (int place = level.length - 1; place >= 0; place--) {
            int last = level.walk[place];
            if (known.begun(set, last) > 0) return level.length - 1 - place;
            set &= ~(1 << last);
        }
        return NONE;
    }

    public int tour(long rank, int place) throws IllegalArgumentException {
        needTour(rank);
        needPlace(place);
        fillRow(rank);
        return row[place];
    }

    public long rank() {
        if (level.length < level.rooms || completions() == 0) return NONE;
        return solved().toursAhead(level.walk, level.length);
    }

    public int longest() {
        return solved().mostRooms();
    }

    public int longestOn() {
        stale = true;
        tables.spread(level, level.walkSet(), level.lastRoom());
        return tables.mostRooms();
    }

    public int endings() {
        return solved().endings;
    }

    public int starts() {
        int rooms = 0;
        for (int room = 0; room < level.rooms; room++) {
            if (toursFrom(room) > 0) rooms |= 1 << room;
        }
        return rooms;
    }

    public long toursFrom(int room) throws IndexOutOfBoundsException {
        needRoom(room);
        return countTours(level, room);
    }

    public long toursTo(int room) throws IndexOutOfBoundsException {
        needRoom(room);
        return solved().walksTo(level.everyRoom(), room);
    }

    public int reachable() {
        int set = 1 << level.start;
        for (int round = 0; round < level.rooms; round++) {
            int[] leads = level.leads(set);
            int entered = set;
            for (int room = 0; room < level.rooms; room++) {
                if (has(set, room)) entered |= leads[room];
            }
            set = entered;
        }
        return set;
    }

    // ---- What is needed for tours

    public long without(int key) throws IndexOutOfBoundsException {
        needKey(key);
        draft.copyFrom(level);
        for (int room = 0; room < draft.rooms; room++) {
            draft.keys[room] &= ~(1 << key);
        }
        return countTours(draft, draft.start);
    }

    public int neededKeys() {
        int keys = 0;
        if (tours() == 0) return keys;
        for (int key = 0; key < KEYS; key++) {
            if (without(key) == 0) keys |= 1 << key;
        }
        return keys;
    }

    public long toursWithout(int door) throws IndexOutOfBoundsException {
        needDoor(door);
        draft.copyFrom(level);
        draft.dropDoor(door);
        return countTours(draft, draft.start);
    }

    public int neededDoors() {
        int doors = 0;
        if (tours() == 0) return doors;
        for (int door = 0; door < level.doors; door++) {
            if (toursWithout(door) == 0) doors |= 1 << door;
        }
        return doors;
    }

    public long toursIfOpen(int door) throws IndexOutOfBoundsException {
        needDoor(door);
        draft.copyFrom(level);
        draft.lock(door, FREE, 0);
        draft.oneway[door] = false;
        return countTours(draft, draft.start);
    }

    public int bestDoor() {
        int best = NONE;
        long most = -1;
        for (int door = 0; door < level.doors; door++) {
            long count = toursIfOpen(door);
            if (count > most) {
                most = count;
                best = door;
            }
        }
        return best;
    }

    // ---- Where rooms stand in tours

    public long ahead(int room, int other) throws IndexOutOfBoundsException, IllegalArgumentException {
        needTwoRooms(room, other);
        Tables known = solved();
        long count = 0;
        for (int set = 1; set <= level.everyRoom(); set++) {
            if (!has(set, other)) count += known.toursBy(set, room);
        }
        return count;
    }

    public long atPlace(int room, int place) throws IndexOutOfBoundsException, IllegalArgumentException {
        needRoom(room);
        needPlace(place);
        Tables known = solved();
        long count = 0;
        for (int set = 1; set <= level.everyRoom(); set++) {
            if (Integer.bitCount(set) == place + 1) count += known.toursBy(set, room);
        }
        return count;
    }

    public long behind(int room, int other) throws IndexOutOfBoundsException, IllegalArgumentException {
        needTwoRooms(room, other);
        Tables known = solved();
        long count = 0;
        for (int set = 1; set <= level.everyRoom(); set++) {
            count += known.toursByStep(set, room, other);
        }
        return count;
    }

    public double share(int room, int place) throws IndexOutOfBoundsException, IllegalArgumentException {
        long part = atPlace(room, place);
        long whole = tours();
        return whole == 0 ? 0.0 : (double) part / (double) whole;
    }

    public float shown() {
        return level.rooms == 0 ? 0.0f : (float) level.length / (float) level.rooms;
    }

    public int leastCoins() {
        int last = endings();
        int all = level.coinsIn(level.everyRoom());
        int least = NONE;
        for (int room = 0; room < level.rooms; room++) {
            int found = all - level.coins[room];
            if (has(last, room) && (least == NONE || found < least)) least = found;
        }
        return least;
    }

    public long rounds() {
        int last = endings();
        int all = level.everyRoom();
        int[] leads = level.leads(all);
        long count = 0;
        for (int room = 0; room < level.rooms; room++) {
            if (has(last, room) && has(leads[room], level.start)) count += solved().walksTo(all, room);
        }
        return count;
    }

    // ---- Moves of the walk

    public long go(int room) throws IndexOutOfBoundsException, IllegalStateException {
        if (why(room) != 0) throw new IllegalStateException("the walk cannot go on to this room");
        record();
        level.enter(room);
        return completions();
    }

    public int back(int rooms) throws IllegalArgumentException {
        if (rooms < 1 || rooms > level.length - 1) throw new IllegalArgumentException("rooms");
        record();
        level.length -= rooms;
        return level.lastRoom();
    }

    public int again() {
        int before = level.length;
        record();
        level.length = 1;
        return before;
    }

    public int complete() throws IllegalStateException {
        if (completions() == 0) throw new IllegalStateException("no tour begins with the walk");
        int before = level.length;
        record();
        solved().follow(level.walk, before, 0);
        level.length = level.rooms;
        return level.length - before;
    }

    public int walk(long rank) throws IllegalArgumentException {
        needTour(rank);
        record();
        fillRow(rank);
        System.arraycopy(row, 0, level.walk, 0, level.rooms);
        level.length = level.rooms;
        return level.lastRoom();
    }

    // ---- Changes of the level

    public boolean setKey(int room, int key, boolean there) throws IndexOutOfBoundsException {
        needRoom(room);
        needKey(key);
        boolean before = has(level.keys[room], key);
        record();
        if (there) level.keys[room] |= 1 << key;
        else level.keys[room] &= ~(1 << key);
        level.cutWalk();
        return before;
    }

    public int setCoins(int room, int coins) throws IndexOutOfBoundsException, IllegalArgumentException {
        needRoom(room);
        if (coins < 0 || coins > MOST_COINS) throw new IllegalArgumentException("coins");
        int before = level.coins[room];
        record();
        level.coins[room] = coins;
        level.cutWalk();
        return before;
    }

    public int setLock(int door, int kind, int number) throws IndexOutOfBoundsException, IllegalArgumentException {
        needDoor(door);
        if (kind < FREE || kind > TOLL) throw new IllegalArgumentException("kind");
        if (number < 0 || number > greatestNumber(kind)) throw new IllegalArgumentException("number");
        int before = 1000 * level.kind[door] + level.number[door];
        record();
        level.lock(door, kind, number);
        level.cutWalk();
        return before;
    }

    public int addDoor(int room, int other, boolean oneway)
            throws IndexOutOfBoundsException, IllegalArgumentException, IllegalStateException {
        needTwoRooms(room, other);
        if (level.doors >= MOST_DOORS) throw new IllegalStateException("there are 20 doors");
        record();
        int door = level.build(room, other);
        level.oneway[door] = oneway;
        return door;
    }

    public int removeDoor(int door) throws IndexOutOfBoundsException {
        needDoor(door);
        record();
        level.dropDoor(door);
        level.cutWalk();
        return level.doors;
    }

    public int setStart(int room) throws IndexOutOfBoundsException {
        needRoom(room);
        int before = level.start;
        record();
        if (room != before) level.beginAt(room);
        return before;
    }

    public int setEnd(int room) throws IndexOutOfBoundsException {
        if (room != NONE) needRoom(room);
        int before = level.end;
        record();
        level.end = room;
        return before;
    }

    // ---- Slots and undo

    public int keep(int slot) throws IndexOutOfBoundsException {
        needSlot(slot);
        slots[slot].copyFrom(level);
        filled[slot] = true;
        return level.length;
    }

    public int restore(int slot) throws IndexOutOfBoundsException, IllegalStateException {
        needSlot(slot);
        if (!filled[slot]) throw new IllegalStateException("nothing is kept in this slot");
        record();
        level.copyFrom(slots[slot]);
        return level.length;
    }

    public int undo() throws IllegalStateException {
        if (history.count == 0) throw new IllegalStateException("there is nothing to undo");
        stale = true;
        history.pop(level);
        return history.count;
    }

    public int undoCount() {
        return history.count;
    }

    // ---- The output

    public int writeWalk() {
        boolean lost = completions() == 0;
        writeRooms(level.walk, level.length);
        if (lost) output.add('!');
        return output.length;
    }

    public int writeTour(long rank) throws IllegalArgumentException {
        needTour(rank);
        fillRow(rank);
        writeRooms(row, level.rooms);
        return output.length;
    }

    public int writeDoor(int door) throws IndexOutOfBoundsException {
        needDoor(door);
        output.length = 0;
        output.addName(level.names[level.first[door]]);
        output.add(level.oneway[door] ? '>' : '-');
        output.addName(level.names[level.second[door]]);
        if (level.kind[door] != FREE) {
            output.add(' ');
            output.add(level.kind[door] == KEY ? 'k' : 't');
            output.addNumber(level.number[door]);
        }
        return output.length;
    }

    public int outputByte(int index) throws NoSuchElementException {
        if (index < 0 || index >= output.length) throw new NoSuchElementException("the output is not so long");
        return output.bytes[index];
    }

    // ---- What several methods need

    private static boolean has(int set, int member) {
        return (set >> member & 1) != 0;
    }

    private static int greatestNumber(int kind) {
        if (kind == KEY) return KEYS - 1;
        return kind == TOLL ? MOST_TOLL : 0;
    }

    private void needRoom(int room) {
        if (room < 0 || room >= level.rooms) throw new IndexOutOfBoundsException("room");
    }

    private void needTwoRooms(int room, int other) {
        needRoom(room);
        needRoom(other);
        if (room == other) throw new IllegalArgumentException("both rooms are the same");
    }

    private void needDoor(int door) {
        if (door < 0 || door >= level.doors) throw new IndexOutOfBoundsException("door");
    }

    private static void needKey(int key) {
        if (key < 0 || key >= KEYS) throw new IndexOutOfBoundsException("key");
    }

    private static void needSlot(int slot) {
        if (slot < 0 || slot >= SLOTS) throw new IndexOutOfBoundsException("slot");
    }

    private void needPlace(int place) {
        if (place < 0 || place >= level.rooms) throw new IllegalArgumentException("place");
    }

    private void needTour(long rank) {
        long count = solved().begun(1 << level.start, level.start);
        if (rank < 0 || rank >= count) throw new IllegalArgumentException("rank");
    }

    /** Is called ahead of each change that can be undone. */
    private void record() {
        history.push(level);
        stale = true;
    }

    private Tables solved() {
        if (stale) {
            tables.spread(level, 1 << level.start, level.start);
            tables.gather();
            stale = false;
        }
        return tables;
    }

    private long countTours(Level other, int start) {
        stale = true;
        tables.spread(other, 1 << start, start);
        return tables.fullWalks();
    }

    private void fillRow(long rank) {
        row[0] = level.start;
        solved().follow(row, 1, rank);
    }

    private void writeRooms(int[] rooms, int length) {
        output.length = 0;
        for (int place = 0; place < length; place++) {
            if (place > 0) output.add('>');
            output.addName(level.names[rooms[place]]);
        }
    }

    /** A row of bytes, 0 to 255, with a limit; names stand packed in a long, the first letter highest. */
    private static final class Bytes {
        final int[] bytes;
        int length = 0;

        Bytes(int limit) {
            bytes = new int[limit];
        }

        void add(int value) {
            if (length < bytes.length) bytes[length++] = value & 255;
        }

        void addFour(int four) {
            for (int shift = 24; shift >= 0; shift -= 8) {
                add(four >> shift);
            }
        }

        void addName(long name) {
            for (int shift = 8 * MOST_LETTERS - 8; shift >= 0; shift -= 8) {
                int letter = (int) (name >> shift) & 255;
                if (letter != 0) add(letter);
            }
        }

        void addNumber(int number) {
            if (number >= 100) add('0' + number / 100 % 10);
            if (number >= 10) add('0' + number / 10 % 10);
            add('0' + number % 10);
        }

        /** All bytes packed; 0 if they can be no name, as a packed byte 0 would not be seen. */
        long wholeName() {
            if (length > MOST_LETTERS) return 0;
            long name = 0;
            for (int i = 0; i < length; i++) {
                if (bytes[i] < 'a' || bytes[i] > 'z') return 0;
                name = name << 8 | bytes[i];
            }
            return name;
        }
    }

    /** Rooms, doors, start, end and the walk: all that undo() restores. */
    private static final class Level {
        int rooms = 1;
        final long[] names = new long[MOST_ROOMS];
        final int[] keys = new int[MOST_ROOMS];
        final int[] coins = new int[MOST_ROOMS];
        int doors = 0;
        final int[] first = new int[MOST_DOORS];
        final int[] second = new int[MOST_DOORS];
        final int[] kind = new int[MOST_DOORS];
        final int[] number = new int[MOST_DOORS];
        final boolean[] oneway = new boolean[MOST_DOORS];
        int start = 0;
        int end = NONE;
        final int[] walk = new int[MOST_ROOMS];
        int length = 1;
        // Only what leads() answers; no part of the level.
        private final int[] leads = new int[MOST_ROOMS];

        void copyFrom(Level other) {
            rooms = other.rooms;
            System.arraycopy(other.names, 0, names, 0, MOST_ROOMS);
            System.arraycopy(other.keys, 0, keys, 0, MOST_ROOMS);
            System.arraycopy(other.coins, 0, coins, 0, MOST_ROOMS);
            doors = other.doors;
            System.arraycopy(other.first, 0, first, 0, MOST_DOORS);
            System.arraycopy(other.second, 0, second, 0, MOST_DOORS);
            System.arraycopy(other.kind, 0, kind, 0, MOST_DOORS);
            System.arraycopy(other.number, 0, number, 0, MOST_DOORS);
            System.arraycopy(other.oneway, 0, oneway, 0, MOST_DOORS);
            start = other.start;
            end = other.end;
            System.arraycopy(other.walk, 0, walk, 0, MOST_ROOMS);
            length = other.length;
        }

        /** Only the parser sees a level without rooms. */
        void clear() {
            rooms = 0;
            doors = 0;
            end = NONE;
            beginAt(0);
        }

        void beginAt(int room) {
            start = room;
            walk[0] = room;
            length = 1;
        }

        /** Callers have looked whether there is space for one more room. */
        int addRoom(long name) {
            int room = rooms < MOST_ROOMS ? rooms++ : MOST_ROOMS - 1;
            names[room] = name;
            keys[room] = 0;
            coins[room] = 0;
            return room;
        }

        /** Callers have looked whether there is space for one more door. */
        int build(int room, int other) {
            int door = doors < MOST_DOORS ? doors++ : MOST_DOORS - 1;
            first[door] = room;
            second[door] = other;
            oneway[door] = false;
            lock(door, FREE, 0);
            return door;
        }

        void lock(int door, int newKind, int newNumber) {
            kind[door] = newKind;
            number[door] = newNumber;
        }

        void dropDoor(int door) {
            for (int to = door; to + 1 < doors; to++) {
                first[to] = first[to + 1];
                second[to] = second[to + 1];
                oneway[to] = oneway[to + 1];
                lock(to, kind[to + 1], number[to + 1]);
            }
            doors--;
        }

        int roomNamed(long name) {
            for (int room = 0; room < rooms; room++) {
                if (names[room] == name) return room;
            }
            return NONE;
        }

        int everyRoom() {
            return (1 << rooms) - 1;
        }

        int keysIn(int set) {
            int found = 0;
            for (int room = 0; room < rooms; room++) {
                if (has(set, room)) found |= keys[room];
            }
            return found;
        }

        int coinsIn(int set) {
            int found = 0;
            for (int room = 0; room < rooms; room++) {
                if (has(set, room)) found += coins[room];
            }
            return found;
        }

        int openDoors(int set) {
            int foundKeys = keysIn(set);
            int foundCoins = coinsIn(set);
            int open = 0;
            for (int door = 0; door < doors; door++) {
                if (opens(door, foundKeys, foundCoins)) open |= 1 << door;
            }
            return open;
        }

        private boolean opens(int door, int foundKeys, int foundCoins) {
            if (kind[door] == KEY) return has(foundKeys, number[door]);
            return kind[door] == FREE || foundCoins >= number[door];
        }

        int doorsFrom(int room) {
            int from = 0;
            for (int door = 0; door < doors; door++) {
                if (first[door] == room || second[door] == room && !oneway[door]) from |= 1 << door;
            }
            return from;
        }

        int doorsInto(int room) {
            int into = 0;
            for (int door = 0; door < doors; door++) {
                if (second[door] == room || first[door] == room && !oneway[door]) into |= 1 << door;
            }
            return into;
        }

        boolean anyToll(int set) {
            for (int door = 0; door < doors; door++) {
                if (has(set, door) && kind[door] == TOLL) return true;
            }
            return false;
        }

        /** For each room, those to which it leads with what is found in a set; the next call uses the row again. */
        int[] leads(int set) {
            int foundKeys = keysIn(set);
            int foundCoins = coinsIn(set);
            Arrays.fill(leads, 0);
            for (int door = 0; door < doors; door++) {
                if (!opens(door, foundKeys, foundCoins)) continue;
                leads[first[door]] |= 1 << second[door];
                if (!oneway[door]) leads[second[door]] |= 1 << first[door];
            }
            return leads;
        }

        boolean mayEnd(int room) {
            return end == NONE || end == room;
        }

        int walkSet() {
            int set = 0;
            for (int place = 0; place < length; place++) {
                set |= 1 << walk[place];
            }
            return set;
        }

        int lastRoom() {
            return walk[length - 1];
        }

        int placeOf(int room) {
            for (int place = 0; place < length; place++) {
                if (walk[place] == room) return place;
            }
            return NONE;
        }

        void enter(int room) {
            if (length < MOST_ROOMS) walk[length++] = room;
        }

        void cutWalk() {
            int set = 1 << walk[0];
            for (int place = 1; place < length; place++) {
                if (has(leads(set)[walk[place - 1]], walk[place])) set |= 1 << walk[place];
                else length = place;
            }
        }
    }

    /** The levels as they were ahead of the latest changes, in a ring. */
    private static final class History {
        private final Level[] levels = new Level[MOST_UNDOS];
        private int next = 0;
        int count = 0;

        History() {
            for (int i = 0; i < MOST_UNDOS; i++) {
                levels[i] = new Level();
            }
        }

        void push(Level level) {
            levels[next].copyFrom(level);
            next = (next + 1) % MOST_UNDOS;
            if (count < MOST_UNDOS) count++;
        }

        /** Callers have looked whether something is there. */
        void pop(Level level) {
            next = (next + MOST_UNDOS - 1) % MOST_UNDOS;
            level.copyFrom(levels[next]);
            count--;
        }
    }

    /**
     * All walks from one start. How a walk can go on depends on the set of its rooms and on its last room
     * alone, so walks that share both stand in one cell, and are counted instead of listed.
     */
    private static final class Tables {
        private static final int SETS = 1 << MOST_ROOMS;

        // For each set of rooms: the last rooms of the walks that have just these rooms.
        private final int[] lasts = new int[SETS];
        // For each cell, filled only where lasts tells that there are walks.
        private final long[] walks = new long[SETS * MOST_ROOMS];
        private final int[] next = new int[SETS * MOST_ROOMS];
        private final long[] tours = new long[SETS * MOST_ROOMS];
        private int rooms = 0;
        private int all = 0;
        int endings = 0;

        private static int cell(int set, int last) {
            return set * MOST_ROOMS + last;
        }

        /** Counts all walks that begin with one walk; in the order of the sets, as each step makes a greater one. */
        void spread(Level level, int set, int last) {
            Arrays.fill(lasts, 0);
            rooms = level.rooms;
            all = level.everyRoom();
            addWalks(set, last, 1);
            for (int from = set; from <= all; from++) {
                if (lasts[from] != 0) spreadFrom(from, level.leads(from));
            }
            endings = 0;
            for (int room = 0; room < rooms; room++) {
                if (has(lasts[all], room) && level.mayEnd(room)) endings |= 1 << room;
            }
        }

        private void spreadFrom(int set, int[] leads) {
            for (int last = 0; last < rooms; last++) {
                if (!has(lasts[set], last)) continue;
                int here = cell(set, last);
                int on = leads[last] & ~set;
                next[here] = on;
                for (int room = 0; room < rooms && on >> room != 0; room++) {
                    if (has(on, room)) addWalks(set | 1 << room, room, walks[here]);
                }
            }
        }

        private void addWalks(int set, int last, long count) {
            int here = cell(set, last);
            walks[here] = count + (has(lasts[set], last) ? walks[here] : 0);
            lasts[set] |= 1 << last;
        }

        /** Counts for each cell the tours that begin with one walk of it. */
        void gather() {
            for (int set = all; set > 0; set--) {
                for (int last = 0; last < rooms && lasts[set] != 0; last++) {
                    if (has(lasts[set], last)) tours[cell(set, last)] = toursOn(set, last);
                }
            }
        }

        private long toursOn(int set, int last) {
            if (set == all) return has(endings, last) ? 1 : 0;
            int on = next[cell(set, last)];
            long count = 0;
            for (int room = 0; room < rooms && on >> room != 0; room++) {
                if (has(on, room)) count += tours[cell(set | 1 << room, room)];
            }
            return count;
        }

        /** How many tours begin with one walk that has this set of rooms and this last room. */
        long begun(int set, int last) {
            return has(lasts[set], last) ? tours[cell(set, last)] : 0;
        }

        long walksTo(int set, int last) {
            return has(lasts[set], last) ? walks[cell(set, last)] : 0;
        }

        long toursBy(int set, int last) {
            return walksTo(set, last) * begun(set, last);
        }

        /** How many tours go from a room to another one when they have this set of rooms. */
        long toursByStep(int set, int room, int other) {
            if (!has(lasts[set], room) || !has(next[cell(set, room)], other)) return 0;
            return walksTo(set, room) * begun(set | 1 << other, other);
        }

        /** How many walks of all rooms end where a tour may end. */
        long fullWalks() {
            long count = 0;
            for (int room = 0; room < rooms; room++) {
                if (has(endings, room)) count += walksTo(all, room);
            }
            return count;
        }

        int mostRooms() {
            int most = 0;
            for (int set = 1; set <= all; set++) {
                if (lasts[set] != 0) most = Math.max(most, Integer.bitCount(set));
            }
            return most;
        }

        /** Makes a walk of a length the tour that has this rank among those that begin with it. */
        void follow(int[] row, int length, long rank) {
            int set = 0;
            for (int place = 0; place < length; place++) {
                set |= 1 << row[place];
            }
            long left = rank;
            for (int place = length; place < rooms; place++) {
                int room = 0;
                int on = next[cell(set, row[place - 1])];
                for (; room + 1 < rooms; room++) {
                    long count = has(on, room) ? begun(set | 1 << room, room) : 0;
                    if (left < count) break;
                    left -= count;
                }
                row[place] = room;
                set |= 1 << room;
            }
        }

        long toursAhead(int[] row, int length) {
            int set = 0;
            long count = 0;
            for (int place = 0; place + 1 < length; place++) {
                set |= 1 << row[place];
                int on = next[cell(set, row[place])];
                for (int room = 0; room < row[place + 1]; room++) {
                    if (has(on, room)) count += begun(set | 1 << room, room);
                }
            }
            return count;
        }
    }

    /** Reads a text token by token into a level, up to its first error. */
    private static final class Parser {
        private static final int AT_END = 0, WORD = 1, NUMBER = 2, SYMBOL = 3, BLANK = 4;
        // The keywords, packed like names.
        private static final long ROOM_WORD = 0x726f6f6dL, KEY_WORD = 0x6b6579L, COINS_WORD = 0x636f696e73L;
        private static final long DOOR_WORD = 0x646f6f72L, TOLL_WORD = 0x746f6c6cL, ONEWAY_WORD = 0x6f6e65776179L;
        private static final long START_WORD = 0x7374617274L, END_WORD = 0x656e64L;
        private static final int MISPLACED = 1, OUT_OF_RANGE = 2, REPEATED = 3, UNKNOWN = 4, TOO_MANY = 5;

        private final Bytes text;
        private final Level level;
        private boolean startTold = false;
        private int position = 0;
        private int type = AT_END;
        // 0 for a word that is too long for a name.
        private long word = 0;
        // The value of a number, or the byte of a symbol.
        private int number = 0;
        int begin = 0;
        int code = 0;

        Parser(Bytes source, Level target) {
            text = source;
            level = target;
        }

        /** Tells whether the text has no error; otherwise code and begin tell the error and its place. */
        boolean parse() {
            level.clear();
            nextToken();
            boolean right = readStatement();
            for (int count = 1; count < MOST_INPUT && right && type != AT_END; count++) {
                right = readStatement();
            }
            return right;
        }

        private boolean fail(int error) {
            code = error;
            return false;
        }

        private boolean readStatement() {
            if (isWord(ROOM_WORD)) return readRoom();
            if (isWord(DOOR_WORD)) return readDoor();
            if (isWord(START_WORD)) return readStart();
            if (isWord(END_WORD)) return readEnd();
            return fail(MISPLACED);
        }

        private boolean readRoom() {
            if (level.rooms >= MOST_ROOMS) return fail(TOO_MANY);
            nextToken();
            if (!isName()) return fail(MISPLACED);
            if (level.roomNamed(word) != NONE) return fail(REPEATED);
            int room = level.addRoom(word);
            nextToken();
            return readKeys(room) && readCoins(room) && readSemicolon();
        }

        private boolean readKeys(int room) {
            boolean more = isWord(KEY_WORD);
            // A list that is right has no more than all keys, so one round more finds an error.
            for (int count = 0; count <= KEYS && more; count++) {
                nextToken();
                if (!fits(KEYS - 1)) return false;
                if (has(level.keys[room], number)) return fail(REPEATED);
                level.keys[room] |= 1 << number;
                nextToken();
                more = isSymbol(',');
            }
            return true;
        }

        private boolean readCoins(int room) {
            if (!isWord(COINS_WORD)) return true;
            nextToken();
            if (!fits(MOST_COINS)) return false;
            level.coins[room] = number;
            nextToken();
            return true;
        }

        private boolean readDoor() {
            if (level.doors >= MOST_DOORS) return fail(TOO_MANY);
            nextToken();
            int first = toldRoom();
            if (first == NONE) return false;
            nextToken();
            int second = toldRoom();
            if (second == NONE) return false;
            if (second == first) return fail(REPEATED);
            int door = level.build(first, second);
            nextToken();
            return readLock(door) && readOneway(door) && readSemicolon();
        }

        private boolean readLock(int door) {
            int kind = isWord(KEY_WORD) ? KEY : isWord(TOLL_WORD) ? TOLL : FREE;
            if (kind == FREE) return true;
            nextToken();
            if (!fits(greatestNumber(kind))) return false;
            level.lock(door, kind, number);
            nextToken();
            return true;
        }

        private boolean readOneway(int door) {
            if (!isWord(ONEWAY_WORD)) return true;
            level.oneway[door] = true;
            nextToken();
            return true;
        }

        private boolean readStart() {
            if (startTold) return fail(TOO_MANY);
            nextToken();
            int room = toldRoom();
            if (room == NONE) return false;
            startTold = true;
            level.beginAt(room);
            nextToken();
            return readSemicolon();
        }

        private boolean readEnd() {
            if (level.end != NONE) return fail(TOO_MANY);
            nextToken();
            int room = toldRoom();
            if (room == NONE) return false;
            level.end = room;
            nextToken();
            return readSemicolon();
        }

        private boolean readSemicolon() {
            if (!isSymbol(';')) return fail(MISPLACED);
            nextToken();
            return true;
        }

        /** The room that the token names; NONE behind an error. */
        private int toldRoom() {
            int room = isName() ? level.roomNamed(word) : NONE;
            if (room == NONE) fail(isName() ? UNKNOWN : MISPLACED);
            return room;
        }

        private boolean fits(int greatest) {
            if (type != NUMBER) return fail(MISPLACED);
            return number <= greatest || fail(OUT_OF_RANGE);
        }

        private boolean isWord(long keyword) {
            return type == WORD && word == keyword;
        }

        private boolean isSymbol(int symbol) {
            return type == SYMBOL && number == symbol;
        }

        private boolean isName() {
            return type == WORD && word != 0 && !isKeyword();
        }

        private boolean isKeyword() {
            return word == ROOM_WORD || word == KEY_WORD || word == COINS_WORD || word == DOOR_WORD
                    || word == TOLL_WORD || word == ONEWAY_WORD || word == START_WORD || word == END_WORD;
        }

        private void nextToken() {
            while (position < text.length && typeAt(position) == BLANK) {
                position++;
            }
            begin = position;
            type = typeAt(begin);
            word = 0;
            number = 0;
            if (type == SYMBOL) {
                number = text.bytes[position++];
                return;
            }
            while (position < text.length && typeAt(position) == type) {
                int sign = text.bytes[position++];
                if (type == WORD) word = word << 8 | sign;
                // A number above the greatest toll is out of range everywhere, so it need not grow on.
                else number = Math.min(MOST_TOLL + 1, 10 * number + sign - '0');
            }
            if (position - begin > MOST_LETTERS) word = 0;
        }

        private int typeAt(int place) {
            if (place >= text.length) return AT_END;
            int sign = text.bytes[place];
            if (sign == ' ' || sign == '\n') return BLANK;
            if (sign >= 'a' && sign <= 'z') return WORD;
            return sign >= '0' && sign <= '9' ? NUMBER : SYMBOL;
        }
    }
}
