/** Each promise of the document by its number, with answers worked out by hand. */
public final class PromisesTest {
    // hall 0, vault 1, attic 2, yard 3; the tours are 0 1 2 3 and 0 2 1 3.
    private static final String HOUSE = "room hall key 1;room vault coins 5;room attic key 2 coins 3;room yard;"
        + "door hall vault;door vault attic key 1;door attic yard toll 8 oneway;door vault yard key 2;door hall attic;";
    // A door between any two rooms: each order of the rooms behind the start is a tour.
    private static final String STAR = "room a;room b;room c;room d;room e;door a b;door a c;door a d;door a e;"
        + "door b c;door b d;door b e;door c d;door c e;door d e;";
    private static final String LINE = "room a;room b;room c;room d;door a b;door b c;door c d;";
    // No tours: the way into c is closed by a key that lies behind it, and d is apart.
    private static final String STUCK = "room a coins 9;room b;room c key 3;room d;door a b;door b c key 3;";

    private static final int MIN = Integer.MIN_VALUE, MAX = Integer.MAX_VALUE;

    public static void main(String[] args) {
        newObject();
        inputBuffer();
        loading();
        finding();
        looking();
        walkAndKeys();
        whyAndExits();
        toursAndCompletions();
        ranks();
        longestWalks();
        endsAndStarts();
        reaching();
        keysNeeded();
        doorsNeeded();
        places();
        sharesAndCoins();
        going();
        goingBack();
        completing();
        changingRooms();
        changingLocks();
        changingDoors();
        changingStartAndEnd();
        slots();
        undoing();
        undoingEachCall();
        writing();
        writingDoors();
        throwingChangesNothing();
        Check.end("PromisesTest");
    }

    private static void is(String call, long got, long due) {
        Check.same(call, got, due);
    }

    // 1
    private static void newObject() {
        KeyTour x = new KeyTour();
        int[] due = {1, 0, 0, KeyTour.NONE, 1, 0, 1, 0, 0};
        for (int what = 0; what < due.length; what++) is("1: property " + what, x.property(what), due[what]);
        for (int what = 0; what < 5; what++) is("1: room 0 " + what, x.room(0, what), 0);
        is("1: errorCode", x.errorCode(), 0);
        is("1: errorPosition", x.errorPosition(), KeyTour.NONE);
        is("1: undoCount", x.undoCount(), 0);
        is("1: writeWalk", x.writeWalk(), 0);
        is("1: tours", x.tours(), 1);
        is("1: rank", x.rank(), 0);
        is("1: find", x.find(), KeyTour.NONE);
        KeyTour y = new KeyTour();
        Check.nsee("1: outputByte", () -> y.outputByte(0));
        Check.ise("1: undo", y::undo);
        Check.ise("1: restore 0", () -> y.restore(0));
        Check.ise("1: restore 1", () -> y.restore(1));
        Check.ioobe("1: room 1", () -> y.room(1, 0));
        Check.ioobe("1: door 0", () -> y.door(0, 0));
        is("1: append", y.append(0, 0, 0, 0, 0), 20);
        is("1: NONE", KeyTour.NONE, -1);
        is("1: PARSE_ERROR", KeyTour.PARSE_ERROR, -4);
        is("1: kinds", 100 * KeyTour.FREE + 10 * KeyTour.KEY + KeyTour.TOLL, 12);
    }

    // 2, 3
    private static void inputBuffer() {
        KeyTour x = new KeyTour();
        // "room", " abc", "de;r", "oom ", "fg ;"
        is("2: append", x.append(0x726f6f6d, 0x20616263, 0x64653b72, 0x6f6f6d20, 0x6667203b), 20);
        is("2: load of it", x.load(), 2);
        for (int length = 20; length <= 500; length += 20) is("2: append", x.append(-1, 0, MIN, MAX, 1), length);
        Check.ise("2: append to 520", () -> x.append(0, 0, 0, 0, 0));
        x.truncate(500);
        Check.iae("3: truncate to 501", () -> cut(x, 501));
        Check.iae("3: truncate to -1", () -> cut(x, -1));
        Check.iae("3: truncate to the least int", () -> cut(x, MIN));
        Check.iae("3: truncate to the greatest int", () -> cut(x, MAX));
        x.truncate(481);
        Check.ise("2: append to 501", () -> x.append(0, 0, 0, 0, 0));
        x.truncate(480);
        is("2: append to 500", x.append(0, 0, 0, 0, 0), 500);
        x.truncate(3);
        Check.iae("3: truncate to more again", () -> cut(x, 4));
        x.truncate(3);
        x.truncate(0);
        is("3: empty", x.append(0x66672323, 0, 0, 0, 0), 20);
        x.truncate(2);
        is("3: find of fg", x.find(), 1);
        Check.iae("3: truncate an empty one", () -> cut(x, 1));
        x.truncate(0);
        // Bytes above 127 are no letters, whatever their sign.
        is("2: append", x.append(0x726f6f6d, 0x20e1e2ff, 0x3b202020, 0x20202020, 0x20202020), 20);
        is("2: load", x.load(), KeyTour.PARSE_ERROR);
        is("2: its place", x.errorPosition(), 5);
    }

    private static Object cut(KeyTour x, int length) {
        x.truncate(length);
        return "nothing";
    }

    // 4, 5, 6
    private static void loading() {
        KeyTour x = Check.level(HOUSE);
        is("4: rooms", x.property(0), 4);
        is("4: undoCount", x.undoCount(), 1);
        x.go(1);
        String before = print(x);
        is("4: load of an error", Check.load(x, "room a;door a b;"), KeyTour.PARSE_ERROR);
        is("5: errorCode", x.errorCode(), 4);
        is("6: errorPosition", x.errorPosition(), 14);
        Check.same("4: after an error", print(x), before);
        is("4: the buffer is empty", x.find(), KeyTour.NONE);
        is("5: errorCode stays", x.errorCode(), 4);
        x.undo();
        is("5: errorCode after undo", x.errorCode(), 4);
        is("6: errorPosition after undo", x.errorPosition(), 14);
        is("4: load of an empty buffer", x.load(), KeyTour.PARSE_ERROR);
        is("5: errorCode of an empty buffer", x.errorCode(), 1);
        is("6: errorPosition of an empty buffer", x.errorPosition(), 0);
        is("4: load", Check.load(x, "room p;room q;start q;door p q toll 4;end p;"), 2);
        is("5: errorCode of a right text", x.errorCode(), 0);
        is("6: errorPosition of a right text", x.errorPosition(), KeyTour.NONE);
        int[] due = {2, 1, 1, 0, 1, 1, 2, 0, 0};
        for (int what = 0; what < due.length; what++) is("4: property " + what, x.property(what), due[what]);
        is("4: keys of the level before", x.room(0, 0), 0);
        is("4: coins of the level before", x.room(1, 1), 0);
        is("4: the buffer is empty", x.append(0, 0, 0, 0, 0), 20);
        x.truncate(0);
        Check.load(x, "room z;");
        is("4: the start is room 0 again", x.property(2), 0);
        is("4: no end again", x.property(3), KeyTour.NONE);
        is("4: no doors again", x.property(1), 0);
        is("4: undoCount after more loads", x.undoCount(), 3);
    }

    // 7
    private static void finding() {
        KeyTour x = Check.level(HOUSE);
        String[] names = {"hall", "vault", "attic", "yard", "", "h", "halls", "Hall", "hall ", " hall", "\0hall",
            "hal", "attics", "attica", "atticab", "yard;", "\0", "\0\0\0\0yard"};
        int[] due = {0, 1, 2, 3, -1, -1, -1, -1, -1, -1, -1, -1, -1, -1, -1, -1, -1, -1};
        for (int i = 0; i < names.length; i++) {
            Check.feed(x, names[i]);
            is("7: find of " + names[i], x.find(), due[i]);
            is("7: the buffer is empty", x.append(0, 0, 0, 0, 0), 20);
            x.truncate(0);
        }
        is("7: no undo", x.undoCount(), 1);
        KeyTour y = new KeyTour();
        Check.feed(y, "\0");
        is("7: the room without a name", y.find(), KeyTour.NONE);
        is("7: the room without a name", y.find(), KeyTour.NONE);
        KeyTour ends = Check.level("room b;room az;");
        Check.feed(ends, "az");
        is("7: find of the first and last letters", ends.find(), 1);
        KeyTour z = Check.level("room abcdef;room bcdefg;");
        Check.feed(z, "bcdefg");
        is("7: find of six letters", z.find(), 1);
        Check.feed(z, "zbcdefg");
        is("7: find of seven letters", z.find(), KeyTour.NONE);
    }

    // 8, 9, 10
    private static void looking() {
        KeyTour x = Check.level(HOUSE + "start vault;end hall;");
        int[] first = {4, 5, 1, 0, 1, 1, 2, 0, 5};
        for (int what = 0; what < 9; what++) is("8: property " + what, x.property(what), first[what]);
        x.setEnd(KeyTour.NONE);
        x.setStart(0);
        x.go(2);
        x.go(1);
        int[] then = {4, 5, 0, -1, 3, 1, 7, 6, 8};
        for (int what = 0; what < 9; what++) is("8: property " + what, x.property(what), then[what]);
        for (int what : new int[] {-1, 9, MIN, MAX}) Check.iae("8: property " + what, () -> x.property(what));
        int[][] rooms = {{2, 0, 17, 17, 0}, {0, 5, 11, 11, 2}, {4, 3, 22, 18, 1}, {0, 0, 8, 12, -1}};
        int[][] doors = {{0, 1, 0, 0, 0, 1}, {1, 2, 1, 1, 0, 1}, {2, 3, 2, 8, 1, 1}, {1, 3, 1, 2, 0, 1}, {0, 2, 0, 0, 0, 1}};
        for (int room = 0; room < 4; room++) {
            for (int what = 0; what < 5; what++) is("9: room " + room + " " + what, x.room(room, what), rooms[room][what]);
        }
        for (int door = 0; door < 5; door++) {
            for (int what = 0; what < 6; what++) is("10: door " + door + " " + what, x.door(door, what), doors[door][what]);
        }
        x.again();
        int open = 0;
        for (int door = 0; door < 5; door++) open = 2 * open + x.door(door, 5);
        is("10: open with key 1 alone", open, 0b11001);
        x.setLock(2, KeyTour.TOLL, 0);
        is("10: open with a toll of 0", x.door(2, 5), 1);
        x.go(1);
        x.setLock(2, KeyTour.TOLL, 5);
        is("10: open with just the toll", x.door(2, 5), 1);
        x.setLock(2, KeyTour.TOLL, 6);
        is("10: open with less than the toll", x.door(2, 5), 0);
        for (int room : new int[] {-1, 4, MIN, MAX}) {
            Check.ioobe("9: room " + room, () -> x.room(room, 0));
            Check.ioobe("9: room " + room + " and what", () -> x.room(room, 7));
        }
        for (int door : new int[] {-1, 5, MIN, MAX}) {
            Check.ioobe("10: door " + door, () -> x.door(door, 0));
            Check.ioobe("10: door " + door + " and what", () -> x.door(door, -1));
        }
        for (int what : new int[] {-1, 5, MIN, MAX}) Check.iae("9: what " + what, () -> x.room(3, what));
        for (int what : new int[] {-1, 6, MIN, MAX}) Check.iae("10: what " + what, () -> x.door(4, what));
    }

    // 11, 12
    private static void walkAndKeys() {
        KeyTour x = Check.level("room a;room b key 7,0;room c key 0,3;door a b;door b c;");
        is("11: the start", x.walked(0), 0);
        is("12: key 0 is not found", x.foundAt(0), KeyTour.NONE);
        x.go(1);
        x.go(2);
        is("11: place 1", x.walked(1), 1);
        is("11: place 2", x.walked(2), 2);
        is("12: key 0 is found first", x.foundAt(0), 1);
        is("12: key 7", x.foundAt(7), 1);
        is("12: key 3", x.foundAt(3), 2);
        is("12: key 1", x.foundAt(1), KeyTour.NONE);
        x.setKey(0, 3, true);
        is("12: key 3 in the start", x.foundAt(3), 0);
        for (int place : new int[] {3, -1, MIN, MAX}) Check.nsee("11: place " + place, () -> x.walked(place));
        for (int key : new int[] {8, -1, 32, MIN, MAX}) Check.ioobe("12: key " + key, () -> x.foundAt(key));
        KeyTour y = Check.level("room a;room b;room c key 5;door c a;start c;");
        y.go(0);
        is("12: a place, not a room", y.foundAt(5), 0);
    }

    // 13, 14
    private static void whyAndExits() {
        KeyTour x = Check.level("room a key 1;room b;room c;room d;room e;room f;room g coins 2;"
            + "door a b;door a c key 2;door a c key 3;door a d toll 1;door a d key 4;door e a oneway;door a f toll 1;"
            + "door a f key 1;door b g;");
        int[] due = {1, 0, 3, 4, 2, 0, 2};
        for (int room = 0; room < 7; room++) is("13: why " + room, x.why(room), due[room]);
        is("14: exits", x.exits(), 34);
        x.go(1);
        is("13: why a room of the walk", x.why(0), 1);
        is("13: why a room that was open from the start", x.why(5), 2);
        is("14: exits", x.exits(), 64);
        x.go(6);
        is("14: no exits", x.exits(), 0);
        x.again();
        x.setLock(3, KeyTour.TOLL, 0);
        is("13: why with a toll of 0", x.why(3), 0);
        for (int room : new int[] {-1, 7, MIN, MAX}) Check.ioobe("13: why " + room, () -> x.why(room));
    }

    // 15, 16, 17, 18, 19
    private static void toursAndCompletions() {
        KeyTour x = Check.level(STAR);
        is("15: tours", x.tours(), 24);
        is("16: completions", x.completions(), 24);
        is("17: completionsBy", x.completionsBy(3), 6);
        is("17: completionsBy the start", x.completionsBy(0), 0);
        is("18: good", x.good(), 30);
        x.setEnd(4);
        is("15: tours to e", x.tours(), 6);
        is("17: completionsBy the end too early", x.completionsBy(4), 0);
        is("18: good", x.good(), 14);
        is("14: exits", x.exits(), 30);
        x.go(4);
        is("16: completions", x.completions(), 0);
        is("18: good", x.good(), 0);
        is("19: wrong", x.wrong(), 1);
        x.go(1);
        is("19: wrong", x.wrong(), 2);
        x.setEnd(0);
        is("15: no tours to the start", x.tours(), 0);
        is("19: wrong without tours", x.wrong(), KeyTour.NONE);
        KeyTour y = Check.level(HOUSE);
        is("15: tours of the house", y.tours(), 2);
        is("17: completionsBy", y.completionsBy(1), 1);
        is("17: completionsBy without a door", y.completionsBy(3), 0);
        y.go(2);
        is("16: completions", y.completions(), 1);
        is("17: completionsBy with too few coins", y.completionsBy(3), 0);
        is("19: nothing wrong", y.wrong(), 0);
        y.addDoor(0, 1, false);
        is("15: two doors are one way", y.tours(), 2);
        KeyTour z = Check.level(LINE + "door b d;");
        is("15: tours of the line", z.tours(), 2);
        z.go(1);
        z.go(2);
        z.go(3);
        is("16: completions of a tour", z.completions(), 1);
        z.removeDoor(2);
        is("15: tours without the door", z.tours(), 0);
        for (int room : new int[] {-1, 4, MIN, MAX}) Check.ioobe("17: room " + room, () -> y.completionsBy(room));
    }

    // 20, 21
    private static void ranks() {
        KeyTour x = Check.level(STAR);
        int[] last = {0, 4, 3, 2, 1};
        for (int place = 0; place < 5; place++) {
            is("20: first tour at " + place, x.tour(0, place), place);
            is("20: last tour at " + place, x.tour(23, place), last[place]);
        }
        // Rank 9: 6 begin with 0 1, then 0 2 1 3 4, 0 2 1 4 3, 0 2 3 1 4, 0 2 3 4 1.
        int[] ninth = {0, 2, 3, 4, 1};
        for (int place = 0; place < 5; place++) is("20: tour 9 at " + place, x.tour(9, place), ninth[place]);
        is("21: rank of no tour", x.rank(), KeyTour.NONE);
        for (int rank = 0; rank < 24; rank++) {
            x.walk(rank);
            is("21: rank", x.rank(), rank);
        }
        x.walk(23);
        x.setEnd(1);
        is("21: rank with an end", x.rank(), 5);
        x.setEnd(2);
        is("21: rank of a walk to another end", x.rank(), KeyTour.NONE);
        for (long rank : new long[] {-1, 6, Long.MIN_VALUE, Long.MAX_VALUE, 1L << 32}) {
            Check.iae("20: rank " + rank, () -> x.tour(rank, 0));
        }
        for (int place : new int[] {-1, 5, MIN, MAX}) Check.iae("20: place " + place, () -> x.tour(0, place));
        KeyTour y = Check.level(STUCK);
        Check.iae("20: no tours", () -> y.tour(0, 0));
        is("21: no tours", y.rank(), KeyTour.NONE);
    }

    // 22, 23
    private static void longestWalks() {
        KeyTour x = Check.level("room a;room b;room c;room d;room e;door a b;door b c oneway;door a d;door d e toll 1;end a;");
        is("22: longest", x.longest(), 3);
        is("23: longestOn", x.longestOn(), 3);
        x.go(3);
        is("22: longest", x.longest(), 3);
        is("23: longestOn", x.longestOn(), 2);
        x.setCoins(0, 1);
        is("23: longestOn with a coin", x.longestOn(), 3);
        x.setStart(2);
        is("22: longest alone", x.longest(), 1);
        is("23: longestOn alone", x.longestOn(), 1);
        is("22: of all rooms", Check.level(STAR).longest(), 5);
        KeyTour y = Check.level(STAR);
        y.walk(7);
        is("23: of all rooms", y.longestOn(), 5);
        is("16: the answers after it are those of the level", y.completions(), 1);
    }

    // 24, 25, 26, 27
    private static void endsAndStarts() {
        KeyTour x = Check.level(HOUSE);
        is("24: endings", x.endings(), 8);
        is("25: starts", x.starts(), 7);
        is("26: from hall", x.toursFrom(0), 2);
        // From the vault: hall, attic, and the toll of 8 is there.
        is("26: from vault", x.toursFrom(1), 1);
        // From the attic: hall, vault, and key 2 is there.
        is("26: from attic", x.toursFrom(2), 1);
        is("26: from yard", x.toursFrom(3), 0);
        is("27: to yard", x.toursTo(3), 2);
        is("27: to hall", x.toursTo(0), 0);
        x.setEnd(2);
        is("24: endings of no tours", x.endings(), 0);
        is("25: starts to attic", x.starts(), 0);
        is("27: to yard, whatever end is told", x.toursTo(3), 2);
        KeyTour y = Check.level(STAR);
        is("24: endings", y.endings(), 30);
        is("25: starts", y.starts(), 31);
        y.setEnd(2);
        is("24: endings with an end", y.endings(), 4);
        is("25: starts with an end", y.starts(), 27);
        is("26: from the end", y.toursFrom(2), 0);
        is("26: from another room", y.toursFrom(4), 6);
        is("27: to the end", y.toursTo(2), 6);
        is("27: to another room", y.toursTo(1), 6);
        is("27: to the start", y.toursTo(0), 0);
        is("8: the start is what it was", y.property(2), 0);
        is("27: a room alone", new KeyTour().toursTo(0), 1);
        for (int room : new int[] {-1, 5, MIN, MAX}) {
            Check.ioobe("26: from " + room, () -> y.toursFrom(room));
            Check.ioobe("27: to " + room, () -> y.toursTo(room));
        }
    }

    // 28
    private static void reaching() {
        is("28: stuck", Check.level(STUCK).reachable(), 3);
        is("28: the house", Check.level(HOUSE).reachable(), 15);
        // The key to c lies in d, so a must be entered again; the coins of all four rooms open the way to e.
        KeyTour x = Check.level("room a coins 1;room b coins 1;room c coins 1;room d key 0 coins 1;room e;room f;"
            + "door a b;door a d oneway;door d b;door b c key 0;door c e toll 4;door f a oneway;");
        is("28: again and again", x.reachable(), 31);
        x.setLock(4, KeyTour.TOLL, 5);
        is("28: coins count once", x.reachable(), 15);
        x.setStart(3);
        is("28: from d", x.reachable(), 15);
        x.setStart(5);
        is("28: from f", x.reachable(), 47);
        x.setStart(4);
        is("28: the start is closed in", x.reachable(), 16);
        is("28: a room alone", new KeyTour().reachable(), 1);
        is("28: not only from the last room", Check.level("room a;room b;room c;room d;room e;room f;room g;room h;room i;"
            + "room j;room k;door k j;door j i;door i h;door h g;door g f;door f e;door e d;door d c;door c b;door b a;"
            + "start k;").reachable(), 2047);
    }

    // 29, 30
    private static void keysNeeded() {
        KeyTour x = Check.level(HOUSE);
        is("29: without key 1", x.without(1), 0);
        is("29: without key 2", x.without(2), 1);
        is("29: without key 7", x.without(7), 2);
        is("30: neededKeys", x.neededKeys(), 2);
        x.removeDoor(2);
        is("30: neededKeys", x.neededKeys(), 6);
        is("9: keys lie where they did", x.room(0, 0), 2);
        KeyTour y = Check.level(STUCK);
        is("30: neededKeys without tours", y.neededKeys(), 0);
        is("29: without key 3", y.without(3), 0);
        KeyTour z = Check.level("room a key 5,7;room b key 5;room c;door a b key 5;door b c key 7;");
        is("29: a key in two rooms", z.without(5), 0);
        is("30: neededKeys", z.neededKeys(), 160);
        for (int key : new int[] {-1, 8, 32, MIN, MAX}) Check.ioobe("29: without key " + key, () -> x.without(key));
    }

    // 31, 32, 33, 34
    private static void doorsNeeded() {
        KeyTour x = Check.level(HOUSE);
        long[] without = {1, 0, 1, 1, 1};
        // With door 2 free in either direction also 0 2 3 1 is a tour, but 3 needs key 2, which is found.
        long[] ifOpen = {2, 2, 3, 2, 2};
        for (int door = 0; door < 5; door++) {
            is("31: without door " + door, x.toursWithout(door), without[door]);
            is("33: if open, door " + door, x.toursIfOpen(door), ifOpen[door]);
        }
        is("32: neededDoors", x.neededDoors(), 2);
        is("34: bestDoor", x.bestDoor(), 2);
        is("8: as many doors", x.property(1), 5);
        is("10: the toll is as it was", x.door(2, 3), 8);
        is("10: oneway as it was", x.door(2, 4), 1);
        KeyTour line = Check.level(LINE);
        is("32: all doors", line.neededDoors(), 7);
        is("34: the lowest of several", line.bestDoor(), 0);
        is("32: without tours", Check.level(STUCK).neededDoors(), 0);
        is("33: still none", Check.level(STUCK).toursIfOpen(1), 0);
        is("34: the lowest without tours", Check.level(STUCK).bestDoor(), 0);
        KeyTour oneway = Check.level("room a;room b;door b a oneway;door b a key 1 oneway;");
        is("33: in either direction", oneway.toursIfOpen(1), 1);
        is("34: the lowest of two", oneway.bestDoor(), 0);
        is("34: without doors", Check.level("room a;room b;").bestDoor(), KeyTour.NONE);
        is("32: without doors", new KeyTour().neededDoors(), 0);
        KeyTour last = Check.level("room a;room b;room c;door a b;door a b;door c b oneway;");
        is("34: the last door", last.bestDoor(), 2);
        for (int door : new int[] {-1, 5, MIN, MAX}) {
            Check.ioobe("31: door " + door, () -> x.toursWithout(door));
            Check.ioobe("33: door " + door, () -> x.toursIfOpen(door));
        }
    }

    // 35, 36, 37
    private static void places() {
        KeyTour x = Check.level(STAR);
        is("35: two rooms behind the start", x.ahead(1, 4), 12);
        is("35: the start", x.ahead(0, 4), 24);
        is("35: of the start", x.ahead(4, 0), 0);
        is("36: at place 1", x.atPlace(4, 1), 6);
        is("36: the start at place 0", x.atPlace(0, 0), 24);
        is("36: the start at place 1", x.atPlace(0, 1), 0);
        is("36: at place 4", x.atPlace(1, 4), 6);
        is("37: behind the start", x.behind(0, 3), 6);
        is("37: of two", x.behind(2, 3), 6);
        is("37: ahead of the start", x.behind(3, 0), 0);
        x.setEnd(3);
        is("35: an end", x.ahead(1, 3), 6);
        is("35: of an end", x.ahead(3, 1), 0);
        is("36: the end", x.atPlace(3, 4), 6);
        is("36: the end too early", x.atPlace(3, 3), 0);
        is("37: of the end", x.behind(3, 1), 0);
        is("37: the end", x.behind(1, 3), 2);
        is("36: a room alone", new KeyTour().atPlace(0, 0), 1);
        for (int room : new int[] {-1, 5, MIN, MAX}) {
            Check.ioobe("35: room " + room, () -> x.ahead(room, 0));
            Check.ioobe("35: other " + room, () -> x.ahead(0, room));
            Check.ioobe("35: twice " + room, () -> x.ahead(room, room));
            Check.ioobe("36: room " + room, () -> x.atPlace(room, 0));
            Check.ioobe("36: room and place " + room, () -> x.atPlace(room, room));
            Check.ioobe("37: room " + room, () -> x.behind(room, 0));
            Check.ioobe("37: other " + room, () -> x.behind(0, room));
            Check.ioobe("37: twice " + room, () -> x.behind(room, room));
            Check.ioobe("38: room " + room, () -> x.share(room, 0));
            Check.ioobe("38: room and place " + room, () -> x.share(room, room));
            Check.iae("36: place " + room, () -> x.atPlace(0, room));
            Check.iae("38: place " + room, () -> x.share(0, room));
        }
        Check.iae("35: the same", () -> x.ahead(2, 2));
        Check.iae("37: the same", () -> x.behind(0, 0));
    }

    // 38, 39, 40, 41
    private static void sharesAndCoins() {
        KeyTour x = Check.level(STAR);
        Check.same("38: share", x.share(1, 1), 0.25);
        Check.same("38: share of the start", x.share(0, 0), 1.0);
        Check.same("38: share of none", x.share(0, 2), 0.0);
        Check.same("38: share without tours", Check.level(STUCK).share(0, 0), 0.0);
        KeyTour third = Check.level("room a;room b;room c;room d;door a b;door a c;door a d;door b c;door c d;");
        // The tours are 0 1 2 3 and 0 3 2 1.
        Check.same("38: share", third.share(1, 1), 0.5);
        third.addDoor(3, 1, false);
        // With it 0 1 3 2, 0 2 1 3, 0 2 3 1 and 0 3 1 2 come.
        Check.same("38: share", third.share(2, 1), 1.0 / 3.0);
        Check.same("39: shown", x.shown(), 0.2f);
        x.go(2);
        x.go(3);
        Check.same("39: shown", x.shown(), 3.0f / 5.0f);
        KeyTour three = Check.level("room a;room b;room c;");
        Check.same("39: shown", three.shown(), 1.0f / 3.0f);
        Check.same("39: all shown", new KeyTour().shown(), 1.0f);
        KeyTour coins = Check.level("room a coins 1;room b coins 7;room c coins 9;room d coins 99;door a b;door a c;door b c;"
            + "door b d;");
        // 0 2 1 3 alone: all coins less the 99.
        is("40: leastCoins", coins.leastCoins(), 17);
        coins.addDoor(2, 3, true);
        coins.addDoor(3, 1, false);
        coins.setEnd(1);
        is("40: leastCoins to b", coins.leastCoins(), 109);
        coins.setEnd(KeyTour.NONE);
        is("40: leastCoins of several ends", coins.leastCoins(), 17);
        is("40: without tours", Check.level(STUCK).leastCoins(), KeyTour.NONE);
        KeyTour one = new KeyTour();
        one.setCoins(0, 50);
        is("40: a room alone", one.leastCoins(), 0);
        is("41: rounds", x.rounds(), 24);
        is("41: rounds of the house", Check.level(HOUSE).rounds(), 0);
        is("41: a room alone", one.rounds(), 0);
        KeyTour round = Check.level(LINE + "door d a oneway;");
        is("41: rounds by a oneway door", round.rounds(), 1);
        round.setLock(3, KeyTour.KEY, 4);
        is("41: rounds by a closed door", round.rounds(), 0);
        round.setKey(3, 4, true);
        is("41: rounds by a key in the last room", round.rounds(), 1);
        round.removeDoor(3);
        round.addDoor(0, 3, true);
        round.setEnd(3);
        is("41: the other way", round.rounds(), 0);
        KeyTour some = Check.level("room a;room b;room c;door a b;door a c oneway;door b c;");
        // 0 1 2 cannot go back to 0, 0 2 1 can.
        is("41: some rounds", some.rounds(), 1);
        some.setEnd(2);
        is("41: rounds to an end", some.rounds(), 0);
    }

    // 42
    private static void going() {
        KeyTour x = Check.level(STAR);
        is("42: go", x.go(2), 6);
        is("42: go", x.go(4), 2);
        is("42: go", x.go(1), 1);
        is("42: go", x.go(3), 1);
        Check.same("42: the walk", Check.walk(x), "0 2 4 1 3");
        is("42: undoCount", x.undoCount(), 5);
        KeyTour y = Check.level(HOUSE);
        Check.ise("42: no door", () -> y.go(3));
        Check.ise("42: in the walk", () -> y.go(0));
        y.go(1);
        Check.ise("42: a closed door", () -> y.go(3));
        is("42: undoCount after exceptions", y.undoCount(), 2);
        y.setEnd(0);
        is("42: go to no tour", y.go(2), 0);
        for (int room : new int[] {-1, 4, MIN, MAX}) Check.ioobe("42: room " + room, () -> y.go(room));
    }

    // 43, 44
    private static void goingBack() {
        KeyTour x = Check.level(STAR);
        x.walk(9);
        is("43: back", x.back(2), 3);
        Check.same("43: the walk", Check.walk(x), "0 2 3");
        for (int rooms : new int[] {0, -1, 3, MIN, MAX}) Check.iae("43: back " + rooms, () -> x.back(rooms));
        is("43: back to the start", x.back(2), 0);
        Check.iae("43: back from the start", () -> x.back(1));
        is("43: undoCount", x.undoCount(), 4);
        x.walk(9);
        is("44: again", x.again(), 5);
        Check.same("44: the walk", Check.walk(x), "0");
        is("44: again alone", x.again(), 1);
        is("44: undoCount", x.undoCount(), 6);
        x.setStart(3);
        x.go(1);
        is("44: again", x.again(), 2);
        Check.same("44: the walk", Check.walk(x), "3");
    }

    // 45, 46
    private static void completing() {
        KeyTour x = Check.level(STAR);
        x.go(3);
        x.go(1);
        is("45: complete", x.complete(), 2);
        Check.same("45: the walk", Check.walk(x), "0 3 1 2 4");
        is("45: undoCount", x.undoCount(), 4);
        is("45: complete a tour", x.complete(), 0);
        is("45: undoCount", x.undoCount(), 5);
        x.again();
        x.setEnd(1);
        is("45: complete from the start", x.complete(), 4);
        Check.same("45: the walk", Check.walk(x), "0 2 3 4 1");
        x.again();
        x.go(1);
        Check.ise("45: no tour begins so", x::complete);
        Check.same("45: the walk stays", Check.walk(x), "0 1");
        is("46: walk", x.walk(5), 1);
        Check.same("46: the walk", Check.walk(x), "0 4 3 2 1");
        for (long rank : new long[] {-1, 6, Long.MIN_VALUE, Long.MAX_VALUE, 1L << 32}) {
            Check.iae("46: rank " + rank, () -> x.walk(rank));
        }
        Check.same("46: the walk stays", Check.walk(x), "0 4 3 2 1");
        is("46: the start alone", new KeyTour().walk(0), 0);
        is("45: the start alone", new KeyTour().complete(), 0);
        // From c on the lowest room leads to no tour, so the first tour goes by another one.
        KeyTour y = Check.level("room a;room b;room c;room d;door c a;door c b;door a b;door b d;door a d;door c d;start c;end b;");
        y.complete();
        Check.same("45: the first tour", Check.walk(y), "2 0 3 1");
    }

    // 47, 48
    private static void changingRooms() {
        KeyTour x = Check.level(HOUSE);
        x.walk(1);
        Check.same("47: it did not", x.setKey(3, 2, true), false);
        Check.same("47: it did", x.setKey(3, 2, true), true);
        is("9: keys of yard", x.room(3, 0), 4);
        Check.same("47: the walk stays", Check.walk(x), "0 2 1 3");
        Check.same("47: it did", x.setKey(2, 2, false), true);
        Check.same("47: it does not any more", x.setKey(2, 2, false), false);
        is("9: keys of attic", x.room(2, 0), 0);
        // Key 2 lies in the yard alone now, so the vault does not lead there.
        Check.same("47: the walk is cut", Check.walk(x), "0 2 1");
        is("15: tours", x.tours(), 1);
        Check.same("47: key 1 goes", x.setKey(0, 1, false), true);
        Check.same("47: the walk is cut", Check.walk(x), "0 2");
        Check.same("47: key 1 comes", x.setKey(0, 1, true), false);
        Check.same("47: the walk does not grow", Check.walk(x), "0 2");
        KeyTour y = Check.level(HOUSE);
        y.walk(0);
        is("48: coins of vault", y.setCoins(1, 6), 5);
        Check.same("48: the walk stays", Check.walk(y), "0 1 2 3");
        is("48: coins of vault", y.setCoins(1, 4), 6);
        Check.same("48: the walk is cut", Check.walk(y), "0 1 2");
        is("48: coins of hall", y.setCoins(0, 99), 0);
        is("48: coins of hall", y.setCoins(0, 0), 99);
        is("9: coins of vault", y.room(1, 1), 4);
        is("15: tours", y.tours(), 1);
        for (int room : new int[] {-1, 4, MIN, MAX}) {
            Check.ioobe("47: room " + room, () -> y.setKey(room, 0, true));
            Check.ioobe("47: room and key " + room, () -> y.setKey(room, 9, true));
            Check.ioobe("48: room " + room, () -> y.setCoins(room, 0));
            Check.ioobe("48: room and coins " + room, () -> y.setCoins(room, -1));
        }
        for (int key : new int[] {-1, 8, 32, MIN, MAX}) Check.ioobe("47: key " + key, () -> y.setKey(0, key, false));
        for (int coins : new int[] {-1, 100, MIN, MAX}) Check.iae("48: coins " + coins, () -> y.setCoins(0, coins));
    }

    // 49
    private static void changingLocks() {
        KeyTour x = Check.level(HOUSE);
        x.walk(0);
        is("49: free before", x.setLock(0, KeyTour.TOLL, 0), 0);
        is("49: a toll before", x.setLock(2, KeyTour.KEY, 7), 2008);
        Check.same("49: the walk is cut", Check.walk(x), "0 1 2");
        is("49: a key before", x.setLock(2, KeyTour.TOLL, 999), 1007);
        is("49: the greatest toll before", x.setLock(2, KeyTour.FREE, 0), 2999);
        is("10: kind", x.door(2, 2), KeyTour.FREE);
        is("10: number", x.door(2, 3), 0);
        is("10: oneway stays", x.door(2, 4), 1);
        // 0 2 3 1 has come.
        is("15: tours", x.tours(), 3);
        is("49: no change", x.setLock(2, KeyTour.FREE, 0), 0);
        is("49: key 0", x.setLock(2, KeyTour.KEY, 0), 0);
        is("49: key 0 before", x.setLock(2, KeyTour.KEY, 0), 1000);
        int[][] bad = {{-1, 0}, {3, 0}, {MIN, 0}, {MAX, 0}, {0, 1}, {0, -1}, {1, 8}, {1, -1}, {2, 1000}, {2, -1}, {2, MIN},
            {2, MAX}, {1, MAX}, {0, MIN}};
        for (int[] lock : bad) Check.iae("49: " + lock[0] + " " + lock[1], () -> x.setLock(1, lock[0], lock[1]));
        for (int door : new int[] {-1, 5, MIN, MAX}) {
            Check.ioobe("49: door " + door, () -> x.setLock(door, 0, 0));
            Check.ioobe("49: door and kind " + door, () -> x.setLock(door, 5, 0));
        }
    }

    // 50, 51
    private static void changingDoors() {
        KeyTour x = Check.level(LINE);
        is("50: addDoor", x.addDoor(3, 1, true), 3);
        int[] due = {3, 1, KeyTour.FREE, 0, 1, 1};
        for (int what = 0; what < 6; what++) is("50: door " + what, x.door(3, what), due[what]);
        is("50: addDoor", x.addDoor(0, 3, false), 4);
        is("10: not oneway", x.door(4, 4), 0);
        // 0 1 2 3, 0 3 1 2, 0 3 2 1
        is("15: tours", x.tours(), 3);
        for (int door = 5; door < 20; door++) is("50: addDoor", x.addDoor(2, 1, door % 2 == 0), door);
        Check.ise("50: a door more", () -> x.addDoor(0, 1, false));
        for (int room : new int[] {-1, 4, MIN, MAX}) {
            Check.ioobe("50: room " + room, () -> x.addDoor(room, 0, true));
            Check.ioobe("50: other " + room, () -> x.addDoor(0, room, true));
            Check.ioobe("50: twice " + room, () -> x.addDoor(room, room, true));
        }
        Check.iae("50: the same, and no space", () -> x.addDoor(1, 1, true));
        KeyTour y = Check.level(HOUSE);
        Check.iae("50: the same", () -> y.addDoor(0, 0, false));
        y.walk(0);
        is("51: removeDoor", y.removeDoor(1), 4);
        Check.same("51: the walk is cut", Check.walk(y), "0 1");
        int[][] doors = {{0, 1, 0, 0, 0}, {2, 3, 2, 8, 1}, {1, 3, 1, 2, 0}, {0, 2, 0, 0, 0}};
        for (int door = 0; door < 4; door++) {
            for (int what = 0; what < 5; what++) is("51: door " + door + " " + what, y.door(door, what), doors[door][what]);
        }
        is("51: the last one", y.removeDoor(3), 3);
        for (int door : new int[] {-1, 3, MIN, MAX}) Check.ioobe("51: door " + door, () -> y.removeDoor(door));
        is("51: removeDoor", y.removeDoor(0), 2);
        is("51: removeDoor", y.removeDoor(0), 1);
        is("51: removeDoor", y.removeDoor(0), 0);
        Check.ioobe("51: no doors", () -> y.removeDoor(0));
        is("50: the first one again", y.addDoor(1, 0, false), 0);
        is("10: it is free", y.door(0, 2), KeyTour.FREE);
        is("10: its number", y.door(0, 3), 0);
        Check.same("51: of two doors", twoDoors(), "0 1");
    }

    private static String twoDoors() {
        KeyTour x = Check.level("room a;room b;door a b;door a b;");
        x.go(1);
        x.removeDoor(0);
        return Check.walk(x);
    }

    // 52, 53
    private static void changingStartAndEnd() {
        KeyTour x = Check.level(STAR);
        x.walk(9);
        is("52: the same", x.setStart(0), 0);
        Check.same("52: the walk stays", Check.walk(x), "0 2 3 4 1");
        is("52: another one", x.setStart(3), 0);
        Check.same("52: the start alone", Check.walk(x), "3");
        is("8: the start", x.property(2), 3);
        is("52: back", x.setStart(0), 3);
        x.walk(9);
        is("53: none before", x.setEnd(3), KeyTour.NONE);
        Check.same("53: the walk stays", Check.walk(x), "0 2 3 4 1");
        is("8: the end", x.property(3), 3);
        is("15: tours", x.tours(), 6);
        is("53: before", x.setEnd(1), 3);
        is("53: before", x.setEnd(KeyTour.NONE), 1);
        is("53: none before", x.setEnd(KeyTour.NONE), KeyTour.NONE);
        is("15: tours", x.tours(), 24);
        for (int room : new int[] {-1, 5, MIN, MAX}) Check.ioobe("52: room " + room, () -> x.setStart(room));
        for (int room : new int[] {-2, 5, MIN, MAX}) Check.ioobe("53: room " + room, () -> x.setEnd(room));
    }

    // 54, 55
    private static void slots() {
        KeyTour x = Check.level(HOUSE);
        x.go(2);
        is("54: keep", x.keep(1), 2);
        String kept = state(x);
        is("54: undoCount", x.undoCount(), 2);
        Check.ise("55: the other slot", () -> x.restore(0));
        x.walk(0);
        is("54: keep", x.keep(0), 4);
        Check.load(x, STAR + "end e;");
        x.setKey(2, 4, true);
        is("55: restore", x.restore(1), 2);
        Check.same("55: the level that was kept", state(x), kept);
        is("55: undoCount", x.undoCount(), 6);
        x.setCoins(0, 9);
        x.removeDoor(0);
        is("55: the slot keeps it", x.restore(1), 2);
        Check.same("55: the level that was kept", state(x), kept);
        is("55: restore", x.restore(0), 4);
        Check.same("55: the walk", Check.walk(x), "0 1 2 3");
        x.back(3);
        is("54: keep in its place", x.keep(1), 1);
        x.undo();
        is("54: undo leaves slots", x.restore(1), 1);
        Check.load(x, LINE);
        is("54: load leaves slots", x.restore(0), 4);
        Check.feed(x, "attic");
        is("55: the names are back", x.find(), 2);
        for (int slot : new int[] {-1, 2, MIN, MAX}) {
            Check.ioobe("54: slot " + slot, () -> x.keep(slot));
            Check.ioobe("55: slot " + slot, () -> x.restore(slot));
        }
    }

    // 56, 57
    private static void undoing() {
        KeyTour x = Check.level(STAR);
        String[] walks = {"0", "0 1", "0 1 2", "0 1 2 3", "0 1 2 3 4"};
        for (int room = 1; room < 5; room++) x.go(room);
        is("57: undoCount", x.undoCount(), 5);
        for (int left = 4; left >= 1; left--) {
            is("56: undo", x.undo(), left);
            Check.same("56: the walk", Check.walk(x), walks[left - 1]);
        }
        is("56: undo of load", x.undo(), 0);
        is("56: the first room again", x.property(0), 1);
        Check.ise("56: nothing to undo", x::undo);
        is("57: undoCount", x.undoCount(), 0);
        is("57: the first room again", x.again(), 1);
        is("57: undoCount", x.undoCount(), 1);
        x.undo();
        Check.load(x, STAR);
        for (int coins = 1; coins <= 20; coins++) {
            x.setCoins(0, coins);
            is("57: undoCount", x.undoCount(), Math.min(6, coins + 1));
        }
        for (int left = 5; left >= 0; left--) {
            is("56: undo", x.undo(), left);
            is("56: coins", x.room(0, 1), 14 + left);
        }
        Check.ise("56: the last 6 alone", x::undo);
        is("56: coins", x.room(0, 1), 14);
    }

    private static void undoingEachCall() {
        KeyTour x = Check.level(HOUSE);
        x.keep(0);
        x.go(1);
        int count = 2;
        Check.Call[] calls = {() -> x.go(2), () -> x.back(1), x::again, x::complete, () -> x.walk(1),
            () -> x.setKey(0, 1, false), () -> x.setKey(0, 1, true), () -> x.setCoins(1, 7), () -> x.setCoins(1, 5),
            () -> x.setLock(0, 2, 9), () -> x.setLock(0, 0, 0), () -> x.addDoor(3, 0, true), () -> x.removeDoor(0),
            () -> x.setStart(2), () -> x.setStart(0), () -> x.setEnd(2), () -> x.setEnd(-1), () -> x.restore(0),
            () -> Check.load(x, LINE)};
        for (int i = 0; i < calls.length; i++) {
            String before = state(x);
            calls[i].run();
            is("57: undoCount after call " + i, x.undoCount(), count + 1);
            is("56: undo of call " + i, x.undo(), count);
            Check.same("56: undo of call " + i, state(x), before);
        }
        Check.feed(x, "hall");
        x.writeDoor(2);
        x.setCoins(0, 1);
        x.undo();
        is("56: the input stays", x.find(), 0);
        Check.same("56: the output stays", Check.output(x, 13), "attic>yard t8");
        is("8: questions leave nothing to undo", x.undoCount(), count);
    }

    // 58, 59, 61
    private static void writing() {
        KeyTour x = Check.level(HOUSE);
        is("58: writeWalk", x.writeWalk(), 4);
        Check.same("58: the start", Check.output(x, 4), "hall");
        x.go(1);
        Check.same("58: two rooms", Check.output(x, x.writeWalk()), "hall>vault");
        x.setEnd(1);
        Check.same("58: no tour", Check.output(x, x.writeWalk()), "hall>vault!");
        x.setEnd(-1);
        Check.same("58: shorter again", Check.output(x, x.writeWalk()), "hall>vault");
        is("59: writeTour", x.writeTour(1), 21);
        Check.same("59: writeTour", Check.output(x, 21), "hall>attic>vault>yard");
        Check.same("59: the first one", Check.output(x, x.writeTour(0)), "hall>vault>attic>yard");
        Check.same("59: the walk stays", Check.walk(x), "0 1");
        for (long rank : new long[] {-1, 2, Long.MIN_VALUE, Long.MAX_VALUE, 1L << 32}) {
            Check.iae("59: rank " + rank, () -> x.writeTour(rank));
        }
        Check.same("59: the output stays", Check.output(x, 21), "hall>vault>attic>yard");
        for (int index : new int[] {-1, 21, MIN, MAX}) Check.nsee("61: index " + index, () -> x.outputByte(index));
        is("61: a byte", x.outputByte(4), '>');
        is("61: the last byte", x.outputByte(20), 'd');
        x.undo();
        x.undo();
        x.undo();
        x.undo();
        is("61: undo leaves the output", x.outputByte(20), 'd');
        Check.same("58: no name", Check.output(x, x.writeWalk()), "");
        Check.same("59: no name", Check.output(x, x.writeTour(0)), "");
        KeyTour y = Check.level("room aaaaaa;room bbbbbb;room cccccc;room dddddd;room eeeeee;room ffffff;room gggggg;"
            + "room hhhhhh;room iiiiii;room jjjjjj;room kkkkkk;door aaaaaa bbbbbb;door bbbbbb cccccc;door cccccc dddddd;"
            + "door dddddd eeeeee;door eeeeee ffffff;door ffffff gggggg;door gggggg hhhhhh;door hhhhhh iiiiii;"
            + "door iiiiii jjjjjj;door jjjjjj kkkkkk;");
        y.complete();
        y.setEnd(0);
        Check.same("58: the longest output", Check.output(y, y.writeWalk()),
            "aaaaaa>bbbbbb>cccccc>dddddd>eeeeee>ffffff>gggggg>hhhhhh>iiiiii>jjjjjj>kkkkkk!");
        is("58: its length", y.writeWalk(), 77);
    }

    // 60
    private static void writingDoors() {
        KeyTour x = Check.level(HOUSE);
        String[] due = {"hall-vault", "vault-attic k1", "attic>yard t8", "vault-yard k2", "hall-attic"};
        for (int door = 0; door < 5; door++) Check.same("60: door " + door, Check.output(x, x.writeDoor(door)), due[door]);
        for (int toll : new int[] {0, 9, 10, 90, 99, 100, 101, 999}) {
            x.setLock(2, KeyTour.TOLL, toll);
            Check.same("60: toll " + toll, Check.output(x, x.writeDoor(2)), "attic>yard t" + toll);
        }
        x.setLock(2, KeyTour.KEY, 0);
        Check.same("60: key 0", Check.output(x, x.writeDoor(2)), "attic>yard k0");
        x.setLock(2, KeyTour.FREE, 0);
        Check.same("60: free", Check.output(x, x.writeDoor(2)), "attic>yard");
        for (int door : new int[] {-1, 5, MIN, MAX}) Check.ioobe("60: door " + door, () -> x.writeDoor(door));
        Check.same("60: the output stays", Check.output(x, 10), "attic>yard");
    }

    private static void throwingChangesNothing() {
        KeyTour x = Check.level(HOUSE);
        x.go(2);
        String before = print(x);
        Check.Call[] calls = {() -> x.go(0), () -> x.go(9), () -> x.back(2), () -> x.walk(2), () -> x.setKey(0, 8, true),
            () -> x.setKey(4, 0, true), () -> x.setCoins(0, 100), () -> x.setLock(0, 0, 1), () -> x.setLock(0, 3, 0),
            () -> x.setLock(9, 0, 0), () -> x.addDoor(1, 1, true), () -> x.addDoor(1, 4, true), () -> x.removeDoor(5),
            () -> x.setStart(-1), () -> x.setEnd(-2), () -> x.keep(2), () -> x.restore(1), () -> x.restore(3),
            () -> x.tour(2, 0), () -> x.writeTour(-1)};
        for (Check.Call call : calls) {
            try {
                call.run();
                Check.same("a call that has to throw", "answered", "threw");
            } catch (IllegalArgumentException | IllegalStateException | IndexOutOfBoundsException e) {
                Check.same("after a call that throws", print(x), before);
            }
        }
        x.keep(0);
        x.setEnd(0);
        before = print(x);
        Check.ise("45: complete without tours", x::complete);
        Check.same("after complete throws", print(x), before);
    }

    private static String print(KeyTour x) {
        return state(x) + " undo " + x.undoCount();
    }

    private static String state(KeyTour x) {
        StringBuilder text = new StringBuilder();
        for (int what = 0; what < 9; what++) text.append(x.property(what)).append(' ');
        text.append("walk ").append(Check.walk(x)).append(' ');
        for (int room = 0; room < x.property(0); room++) {
            for (int what = 0; what < 5; what++) text.append(x.room(room, what)).append(' ');
        }
        for (int door = 0; door < x.property(1); door++) {
            for (int what = 0; what < 6; what++) text.append(x.door(door, what)).append(' ');
        }
        return text.append("tours ").append(x.tours()).append(" on ").append(x.completions()).toString();
    }
}
