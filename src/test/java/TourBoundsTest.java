/** The bounds of promises 15 to 41: all tours, what is needed for them, and where rooms stand in them. */
public final class TourBoundsTest {
    private static final int MIN = Integer.MIN_VALUE, MAX = Integer.MAX_VALUE;
    private static final int[] NO_ROOMS_OF_11 = {-1, 11, 12, MIN, MAX};
    private static final int[] NO_ROOMS_OF_1 = {-1, 1, 2, MIN, MAX};
    // a leads to b and c; from c only b is left, and from there nothing: a b c d is the only tour.
    private static final String TRAP = "room a;room b;room c;room d;door a b;door a c;door b c;door c d;";

    public static void main(String[] args) {
        noTours();
        oneTour();
        fullLevelAsListed();
        completionsOfEachLength();
        completionsByEachRoom();
        goodRooms();
        wrongRooms();
        toursByRankAndPlace();
        toursFromTheLastRoom();
        rankOfTheWalk();
        longestFrom1To11();
        longestOnFromTheWalk();
        endingsOfNoneAndAll();
        startsOfNoneAndAll();
        fromAndToEachRoom();
        reachableFromOneToAll();
        withoutEachKey();
        neededKeysOfNoneAndAll();
        withoutEachDoor();
        neededDoorsOfNoneAndAll();
        ifEachDoorIsOpen();
        bestDoorOfNoneAndSeveral();
        aheadAndBehind();
        roomsAtPlaces();
        shares();
        shownParts();
        leastCoinsOfNoneAndAll();
        roundsOfNoneAndAll();
        Check.end("TourBoundsTest");
    }

    private static KeyTour walked(String text, int... rooms) {
        KeyTour x = Check.level(text);
        for (int room : rooms) x.go(room);
        return x;
    }

    private static void noTours() {
        for (String text : new String[] {Levels.STUCK, "room a;room b;", Levels.LINE + "end a;", Levels.LINE + "start b;",
            Levels.ROOMS_11, "room a;room b;door b a oneway;"}) {
            KeyTour x = Check.level(text);
            int last = x.property(0) - 1;
            long[] zeros = {x.tours(), x.completions(), x.completionsBy(last), x.good(), x.endings(), x.neededKeys(),
                x.neededDoors(), x.ahead(0, last), x.atPlace(0, 0), x.atPlace(last, last), x.behind(0, last), x.rounds(),
                x.without(0), x.toursFrom(x.property(2))};
            for (int i = 0; i < zeros.length; i++) Check.is("15: without tours, answer " + i + " of " + text, zeros[i], 0);
            Check.same("38: 0.0 without tours", x.share(0, 0), 0.0);
            Check.is("19: NONE if there is no tour", x.wrong(), KeyTour.NONE);
            Check.is("21: NONE if it is no tour", x.rank(), KeyTour.NONE);
            Check.is("40: NONE without tours", x.leastCoins(), KeyTour.NONE);
            for (long rank : new long[] {-1, 0, 1, Long.MIN_VALUE, Long.MAX_VALUE}) {
                Check.iae("20: there is no tour with rank " + rank, () -> x.tour(rank, 0));
                Check.iae("46: there is no tour with rank " + rank, () -> x.walk(rank));
                Check.iae("59: there is no tour with rank " + rank, () -> x.writeTour(rank));
            }
            Check.ise("45: there is none", x::complete);
            Check.same("58: an exclamation mark, if no tour begins with it", Check.output(x, x.writeWalk()).endsWith("!"), true);
        }
    }

    private static void oneTour() {
        KeyTour x = Check.level(Levels.CHAIN);
        long[] ones = {x.tours(), x.completions(), x.completionsBy(1), x.ahead(0, 10), x.ahead(9, 10), x.atPlace(0, 0),
            x.atPlace(10, 10), x.behind(0, 1), x.behind(9, 10), x.toursTo(10), x.toursFrom(0), x.toursFrom(10)};
        for (int i = 0; i < ones.length; i++) Check.is("15: one tour, answer " + i, ones[i], 1);
        for (int place = 0; place < 11; place++) Check.is("20: of rank 0 at " + place, x.tour(0, place), place);
        Check.is("24: one ending", x.endings(), 1024);
        Check.is("25: from either end", x.starts(), 1025);
        Check.is("32: each door is needed", x.neededDoors(), 1023);
    }

    /** Model lists every walk of the fullest level, so this does not lean on how KeyTour counts them. */
    private static void fullLevelAsListed() {
        KeyTour x = Check.level(Levels.FULL);
        Model y = new Model();
        for (int at = 0; at < 500; at += 20) {
            int[] fours = new int[5];
            for (int i = 0; i < 20; i++) {
                int sign = at + i < Levels.FULL.length() ? Levels.FULL.charAt(at + i) : ' ';
                fours[i / 4] = fours[i / 4] << 8 | sign;
            }
            y.append(fours[0], fours[1], fours[2], fours[3], fours[4]);
        }
        Check.is("4: load of the fullest text", y.load(), 11);
        Check.is("15: tours of the fullest level", x.tours(), y.tours());
        long last = y.tours() - 1;
        for (int place = 0; place < 11; place++) {
            Check.is("20: the last tour at " + place, x.tour(last, place), y.tour(last, place));
            Check.is("36: at place " + place, x.atPlace(5, place), y.atPlace(5, place));
            Check.is("27: to room " + place, x.toursTo(place), y.toursTo(place));
            if (place != 4) Check.is("37: behind room 4, room " + place, x.behind(4, place), y.behind(4, place));
            if (place != 4) Check.is("35: room 4 ahead of " + place, x.ahead(4, place), y.ahead(4, place));
        }
        for (int door : new int[] {0, 9, 10, 19}) Check.is("31: without door " + door, x.toursWithout(door), y.toursWithout(door));
        Check.is("26: from the last room", x.toursFrom(10), y.toursFrom(10));
        Check.is("41: rounds", x.rounds(), y.rounds());
        Check.is("24: endings", x.endings(), y.endings());
        Check.iae("20: behind the last tour", () -> x.tour(last + 1, 0));
    }

    // ---- 16 to 19

    private static void completionsOfEachLength() {
        KeyTour x = Check.level(Levels.STAR);
        long[] due = {24, 6, 2, 1, 1};
        for (int room = 0; room < 5; room++) {
            if (room > 0) x.go(room);
            Check.is("16: tours that begin with a walk of " + (room + 1), x.completions(), due[room]);
        }
        x.setEnd(3);
        Check.is("16: a walk of all rooms that is no tour", x.completions(), 0);
        Check.is("16: none begins with a wrong walk", walked(TRAP, 2).completions(), 0);
    }

    private static void completionsByEachRoom() {
        KeyTour x = walked(TRAP);
        int[] due = {0, 1, 0, 0};
        for (int room = 0; room < 4; room++) Check.is("17: by room " + room, x.completionsBy(room), due[room]);
        KeyTour wheel = Check.level(Levels.WHEEL);
        for (int room = 0; room < 11; room++) Check.is("17: by room " + room, wheel.completionsBy(room), room == 0 ? 0 : 2);
        for (int room : NO_ROOMS_OF_11) Check.ioobe("17: room " + room, () -> wheel.completionsBy(room));
        for (int room : NO_ROOMS_OF_1) Check.ioobe("17: room " + room, () -> new KeyTour().completionsBy(room));
        wheel.walk(0);
        for (int room = 0; room < 11; room++) Check.is("17: 0 when the walk has all rooms", wheel.completionsBy(room), 0);
        KeyTour closed = Check.level("room a;room b key 1;door a b key 1;");
        Check.is("17: 0 if the walk cannot go on to it", closed.completionsBy(1), 0);
    }

    private static void goodRooms() {
        Check.is("18: all that it can go on to", Check.level(Levels.WHEEL).good(), 2046);
        Check.is("18: one of two", Check.level(TRAP).good(), 2);
        Check.is("18: none on a wrong walk", walked(TRAP, 2).good(), 0);
        Check.is("18: none behind a tour", walked(TRAP, 1, 2, 3).good(), 0);
        Check.is("18: the last room", walked(Levels.CHAIN, 1, 2, 3, 4, 5, 6, 7, 8, 9).good(), 1024);
        Check.is("18: the first room", walked(Levels.CHAIN + "start k;", 9, 8, 7, 6, 5, 4, 3, 2, 1).good(), 1);
        Check.is("18: not the end too early", Check.level(Levels.STAR + "end e;").good(), 14);
    }

    private static void wrongRooms() {
        Check.is("19: none", walked(TRAP, 1).wrong(), 0);
        Check.is("19: none of a tour", walked(TRAP, 1, 2, 3).wrong(), 0);
        Check.is("19: the last one", walked(TRAP, 2).wrong(), 1);
        Check.is("19: all but the start", walked(TRAP, 2, 1).wrong(), 2);
        KeyTour x = Check.level(Levels.WHEEL);
        x.walk(19);
        Check.is("19: none of eleven", x.wrong(), 0);
        x.setEnd(x.walked(9));
        // From the hub the tours to this end begin the other way, or at its other side.
        Check.is("19: all but the start, of eleven", x.wrong(), 10);
        x.setEnd(0);
        Check.is("19: NONE if there is no tour", x.wrong(), KeyTour.NONE);
    }

    // ---- 20, 21

    private static void toursByRankAndPlace() {
        KeyTour x = Check.level(Levels.STAR);
        int[] last = {0, 4, 3, 2, 1};
        for (int place = 0; place < 5; place++) {
            Check.is("20: rank 0 at " + place, x.tour(0, place), place);
            Check.is("20: the last rank at " + place, x.tour(23, place), last[place]);
        }
        for (long rank : new long[] {-1, 24, 25, 1L << 32, -1L << 32, Long.MIN_VALUE, Long.MAX_VALUE}) {
            Check.iae("20: rank " + rank, () -> x.tour(rank, 0));
            Check.iae("20: rank " + rank + " and place", () -> x.tour(rank, 5));
        }
        for (int place : new int[] {-1, 5, 11, MIN, MAX}) {
            Check.iae("20: place " + place, () -> x.tour(0, place));
            Check.iae("20: place " + place, () -> x.tour(23, place));
        }
        int[] before = {-1};
        for (int rank = 0; rank < 24; rank++) {
            int[] tour = new int[5];
            for (int place = 0; place < 5; place++) tour[place] = x.tour(rank, place);
            Check.same("20: the lower one at the first place comes first", java.util.Arrays.compare(before, tour) < 0, true);
            before = tour;
        }
        KeyTour eleven = Check.level(Levels.CHAIN);
        Check.is("20: place 10 of eleven", eleven.tour(0, 10), 10);
        Check.iae("20: place 11 of eleven", () -> eleven.tour(0, 11));
        Check.is("20: the room alone", new KeyTour().tour(0, 0), 0);
        Check.iae("20: behind the room alone", () -> new KeyTour().tour(0, 1));
        Check.iae("20: one tour alone", () -> new KeyTour().tour(1, 0));
    }

    /** The other tests of ranks begin in room 0; here it is the last one, so that room 0 can come behind it. */
    private static void toursFromTheLastRoom() {
        KeyTour x = Check.level(Levels.STAR + "start e;");
        int[] first = {4, 0, 1, 2, 3};
        int[] last = {4, 3, 2, 1, 0};
        for (int place = 0; place < 5; place++) {
            Check.is("20: rank 0 from the last room at " + place, x.tour(0, place), first[place]);
            Check.is("20: the last rank from the last room at " + place, x.tour(23, place), last[place]);
        }
        for (int rank = 0; rank < 24; rank++) {
            x.walk(rank);
            Check.is("21: the rank from the last room", x.rank(), rank);
            for (int place = 0; place < 5; place++) {
                Check.is("20: the tour that is the walk", x.tour(rank, place), x.walked(place));
            }
        }
        Check.is("36: the last room at place 0", x.atPlace(4, 0), 24);
        Check.is("41: rounds to the last room", x.rounds(), 24);
        Check.is("41: rounds from room 0", Check.level(Levels.CHAIN + "start k;door a k oneway;").rounds(), 1);
        KeyTour closed = Check.level("room a;room b key 0;door b a key 0;start b;");
        Check.is("15: what lies in the start, the last room", closed.tours(), 1);
    }

    private static void rankOfTheWalk() {
        KeyTour x = Check.level(Levels.STAR);
        for (int rank : new int[] {0, 1, 5, 6, 22, 23}) {
            x.walk(rank);
            Check.is("21: the rank of the walk", x.rank(), rank);
        }
        x.back(1);
        Check.is("21: NONE one room short of a tour", x.rank(), KeyTour.NONE);
        x.again();
        Check.is("21: NONE for the start alone", x.rank(), KeyTour.NONE);
        x.walk(23);
        x.setEnd(1);
        Check.is("21: among the tours to the end", x.rank(), 5);
        x.setEnd(4);
        Check.is("21: NONE for a walk of all rooms to another end", x.rank(), KeyTour.NONE);
        Check.is("21: the room alone", new KeyTour().rank(), 0);
        KeyTour end = Check.level("room a;room b;end a;door a b;");
        end.go(1);
        Check.is("21: NONE without tours", end.rank(), KeyTour.NONE);
    }

    // ---- 22, 23

    private static void longestFrom1To11() {
        for (int doors = 0; doors <= 10; doors++) {
            KeyTour x = Check.level(Levels.ROOMS_11 + Levels.CHAIN_DOORS.substring(0, 9 * doors));
            Check.is("22: with " + doors + " doors", x.longest(), doors + 1);
            Check.is("23: with " + doors + " doors", x.longestOn(), doors + 1);
        }
        Check.is("22: whatever end is told", Check.level(Levels.CHAIN + "end b;").longest(), 11);
        Check.is("22: the greater of two ways", Check.level(Levels.CHAIN + "start c;").longest(), 9);
        Check.is("22: a closed door", Check.level("room a;room b key 0;door a b key 0;").longest(), 1);
        Check.is("22: the room alone", new KeyTour().longest(), 1);
    }

    private static void longestOnFromTheWalk() {
        KeyTour x = Check.level(Levels.CHAIN + "start c;");
        Check.is("23: both ways are ahead", x.longestOn(), 9);
        x.go(1);
        Check.is("23: the shorter way", x.longestOn(), 3);
        x.go(0);
        Check.is("23: no way ahead", x.longestOn(), 3);
        Check.is("22: from the start all the same", x.longest(), 9);
        x.setStart(0);
        for (int room = 1; room < 11; room++) {
            x.go(room);
            Check.is("23: on to the last room", x.longestOn(), 11);
        }
        Check.is("23: the room alone", new KeyTour().longestOn(), 1);
        Check.is("23: keys of the walk count", walked("room a;room b key 0;room c;door a b;door b c key 0;", 1).longestOn(), 3);
    }

    // ---- 24 to 28

    private static void endingsOfNoneAndAll() {
        Check.is("24: 0 without tours", Check.level(Levels.STUCK).endings(), 0);
        Check.is("24: all but the start", Check.level(Levels.WHEEL).endings(), 2046);
        Check.is("24: the end alone", Check.level(Levels.WHEEL + "end k;").endings(), 1024);
        Check.is("24: the room alone", new KeyTour().endings(), 1);
        Check.is("24: room 0", Check.level(Levels.CHAIN + "start k;").endings(), 1);
        Check.is("24: no matter where the walk is", walked(Levels.STAR, 4).endings(), 30);
    }

    private static void startsOfNoneAndAll() {
        Check.is("25: none", Check.level(Levels.ROOMS_11).starts(), 0);
        Check.is("25: all", Check.level(Levels.WHEEL).starts(), 2047);
        Check.is("25: not the end", Check.level(Levels.WHEEL + "end a;").starts(), 2046);
        Check.is("25: the last room alone", Check.level(Levels.CHAIN + "end a;").starts(), 1024);
        Check.is("25: the first room alone", Check.level(Levels.CHAIN + "end k;start f;").starts(), 1);
        Check.is("25: the room alone", new KeyTour().starts(), 1);
    }

    private static void fromAndToEachRoom() {
        KeyTour x = Check.level(Levels.CHAIN + "start f;");
        for (int room = 0; room < 11; room++) {
            Check.is("26: from room " + room, x.toursFrom(room), room % 10 == 0 ? 1 : 0);
            Check.is("27: to room " + room, x.toursTo(room), 0);
        }
        x.setStart(10);
        for (int room = 0; room < 11; room++) Check.is("27: to room " + room, x.toursTo(room), room == 0 ? 1 : 0);
        x.setEnd(5);
        Check.is("26: with the end that is told", x.toursFrom(0), 0);
        Check.is("27: whatever end is told", x.toursTo(0), 1);
        for (int room : NO_ROOMS_OF_11) {
            Check.ioobe("26: room " + room, () -> x.toursFrom(room));
            Check.ioobe("27: room " + room, () -> x.toursTo(room));
        }
        for (int room : NO_ROOMS_OF_1) {
            Check.ioobe("26: room " + room + " of one", () -> new KeyTour().toursFrom(room));
            Check.ioobe("27: room " + room + " of one", () -> new KeyTour().toursTo(room));
        }
        Check.is("26: the start stays", x.property(2), 10);
        Check.is("27: the start of more rooms", Check.level(Levels.WHEEL).toursTo(0), 0);
    }

    private static void reachableFromOneToAll() {
        Check.is("28: the start alone", Check.level(Levels.ROOMS_11).reachable(), 1);
        Check.is("28: the last room alone", Check.level(Levels.ROOMS_11 + "start k;").reachable(), 1024);
        Check.is("28: all, one after another", Check.level(Levels.CHAIN + "start k;").reachable(), 2047);
        Check.is("28: all, at once", Check.level(Levels.WHEEL).reachable(), 2047);
        Check.is("28: the start may be entered again", Check.level("room a;room b key 0;room c;door a b;door a c key 0;")
            .reachable(), 7);
        Check.is("28: what lies in the start counts", Check.level("room a key 0;room b;door a b key 0;").reachable(), 3);
        Check.is("28: what lies behind the door does not", Check.level("room a;room b key 0;door a b key 0;").reachable(), 1);
        Check.is("28: coins count once", Check.level("room a coins 4;room b coins 5;room c;door a b;door b c toll 9;")
            .reachable(), 7);
        Check.is("28: coins count once", Check.level("room a coins 4;room b coins 5;room c;door a b;door b c toll 10;")
            .reachable(), 3);
        Check.is("28: not what the walk has found", walked("room a;room b;door a b;", 1).reachable(), 3);
    }

    // ---- 29 to 34

    private static void withoutEachKey() {
        KeyTour x = Check.level("room a key 0;room b key 7;room c;door a b key 0;door b c key 7;");
        for (int key = 0; key < 8; key++) Check.is("29: without key " + key, x.without(key), key % 7 == 0 ? 0 : 1);
        for (int key : new int[] {-1, 8, 9, 31, 32, 40, MIN, MAX}) Check.ioobe("29: key " + key, () -> x.without(key));
        Check.is("29: keys lie where they did", x.room(0, 0), 1);
        Check.is("29: in several rooms", Check.level("room a key 3;room b key 3;room c key 3;door a b;door b c key 3;")
            .without(3), 0);
        Check.is("29: nothing lies anywhere", new KeyTour().without(7), 1);
    }

    private static void neededKeysOfNoneAndAll() {
        Check.is("30: 0 without tours", Check.level(Levels.STUCK).neededKeys(), 0);
        Check.is("30: none", Check.level(Levels.FULL).neededKeys(), 0);
        KeyTour x = Check.level("room a key 0,1,2,3,4,5,6,7;room b;room c;room d;room e;room f;room g;room h;room i;"
            + "door a b key 0;door b c key 1;door c d key 2;door d e key 3;door e f key 4;door f g key 5;door g h key 6;"
            + "door h i key 7;");
        Check.is("30: all", x.neededKeys(), 255);
        x.setEnd(0);
        Check.is("30: 0 without tours to the end", x.neededKeys(), 0);
        KeyTour either = Check.level("room a key 0,7;room b;door a b key 0;door a b key 7;");
        Check.is("30: one of two is enough", either.neededKeys(), 0);
        either.removeDoor(0);
        Check.is("30: key 7", either.neededKeys(), 128);
        either.setLock(0, KeyTour.KEY, 0);
        Check.is("30: key 0", either.neededKeys(), 1);
    }

    private static void withoutEachDoor() {
        KeyTour x = Check.level(Levels.WHEEL);
        // Each door of the hub is the first step of two tours, each of the rim is left out by two of the twenty.
        for (int door = 0; door < 20; door++) Check.is("31: without door " + door, x.toursWithout(door), door < 10 ? 18 : 2);
        for (int door : new int[] {-1, 20, 21, MIN, MAX}) Check.ioobe("31: door " + door, () -> x.toursWithout(door));
        Check.is("31: the doors stay", x.property(1), 20);
        Check.ioobe("31: without doors", () -> new KeyTour().toursWithout(0));
    }

    private static void neededDoorsOfNoneAndAll() {
        Check.is("32: 0 without tours", Check.level(Levels.STUCK).neededDoors(), 0);
        Check.is("32: 0 without doors", new KeyTour().neededDoors(), 0);
        Check.is("32: none", Check.level(Levels.WHEEL).neededDoors(), 0);
        Check.is("32: all", Check.level(Levels.CHAIN).neededDoors(), 1023);
        KeyTour x = Check.level("room a;room b;room c;room d;door a b;" + "door b c;".repeat(18) + "door c d;");
        Check.is("32: the first and the last of 20", x.neededDoors(), 1 | 1 << 19);
    }

    private static void ifEachDoorIsOpen() {
        KeyTour x = Check.level("room a;room b;door b a key 7 oneway;" + "door a b toll 999;".repeat(17)
            + "door b a oneway;door a b key 0 oneway;");
        Check.is("15: no door is open", x.tours(), 0);
        for (int door = 0; door < 20; door++) Check.is("33: free, and in either direction, " + door, x.toursIfOpen(door), 1);
        for (int door : new int[] {-1, 20, 21, MIN, MAX}) Check.ioobe("33: door " + door, () -> x.toursIfOpen(door));
        int[] due = {1, 0, KeyTour.KEY, 7, 1, 0};
        for (int what = 0; what < 6; what++) Check.is("33: the door stays", x.door(0, what), due[what]);
        Check.ioobe("33: without doors", () -> new KeyTour().toursIfOpen(0));
        Check.is("33: an open door changes nothing", Check.level(Levels.WHEEL).toursIfOpen(19), 20);
        // Each of the two closed doors would give one tour; if one stayed open, both together would give two.
        KeyTour y = Check.level("room a;room b;room c;door a b key 0;door a c key 1;door b c;");
        for (int time = 0; time < 2; time++) {
            for (int door = 0; door < 3; door++) {
                Check.is("33: what would be does not stay, " + door, y.toursIfOpen(door), door < 2 ? 1 : 0);
            }
        }
        y.setLock(0, KeyTour.FREE, 0);
        Check.is("33: of the level as it is now", y.toursIfOpen(1), 2);
        y.setLock(0, KeyTour.KEY, 0);
        Check.is("33: of the level as it is now", y.toursIfOpen(1), 1);
        y.setKey(0, 0, true);
        Check.is("29: of the level as it is now", y.without(0), 0);
        Check.is("29: of the level as it is now", y.without(1), 1);
        Check.is("31: of the level as it is now", y.toursWithout(1), 1);
        Check.is("31: of the level as it is now", y.toursWithout(0), 0);
        Check.is("33: still no tour", Check.level(Levels.STUCK).toursIfOpen(1), 0);
    }

    private static void bestDoorOfNoneAndSeveral() {
        Check.is("34: NONE without doors", Check.level(Levels.ROOMS_11).bestDoor(), KeyTour.NONE);
        Check.is("34: the lowest of several", Check.level(Levels.WHEEL).bestDoor(), 0);
        Check.is("34: the lowest of several without tours", Check.level(Levels.STUCK).bestDoor(), 0);
        Check.is("34: the last of 20", Check.level("room a;room b;room c;" + "door a b;".repeat(19) + "door c b oneway;")
            .bestDoor(), 19);
        Check.is("34: the lower of two behind others", Check.level("room a;room b;room c;door a b;door c b oneway;door b c key 1;")
            .bestDoor(), 1);
        // a b c and, with the toll gone, a c b.
        Check.is("34: more tours, not only some", Check.level("room a;room b;room c;door a b;door b c;door a c toll 1;")
            .bestDoor(), 2);
    }

    // ---- 35 to 38

    private static void aheadAndBehind() {
        KeyTour x = Check.level(Levels.WHEEL);
        for (int room = 1; room < 11; room++) {
            Check.is("35: the start ahead of " + room, x.ahead(0, room), 20);
            Check.is("35: ahead of the start, " + room, x.ahead(room, 0), 0);
            Check.is("37: directly behind the start, " + room, x.behind(0, room), 2);
            Check.is("37: the start behind " + room, x.behind(room, 0), 0);
        }
        // Of the tours one way round, nine have these two behind one another, and so the other way.
        Check.is("37: two rooms of the rim", x.behind(9, 10), 9);
        Check.is("37: two rooms of the rim", x.behind(10, 9), 9);
        Check.is("37: two rooms that are apart", x.behind(1, 3), 0);
        Check.is("35: two rooms of the rim", x.ahead(1, 10) + x.ahead(10, 1), 20);
        for (int room : NO_ROOMS_OF_11) {
            Check.ioobe("35: no such room " + room, () -> x.ahead(room, 0));
            Check.ioobe("35: no such other room " + room, () -> x.ahead(0, room));
            Check.ioobe("35: no such room twice " + room, () -> x.ahead(room, room));
            Check.ioobe("37: no such room " + room, () -> x.behind(room, 0));
            Check.ioobe("37: no such other room " + room, () -> x.behind(0, room));
            Check.ioobe("37: no such room twice " + room, () -> x.behind(room, room));
        }
        for (int room = 0; room < 11; room++) {
            int same = room;
            Check.iae("35: both are the same, " + room, () -> x.ahead(same, same));
            Check.iae("37: both are the same, " + room, () -> x.behind(same, same));
        }
        Check.iae("35: the room alone", () -> new KeyTour().ahead(0, 0));
        Check.iae("37: the room alone", () -> new KeyTour().behind(0, 0));
    }

    private static void roomsAtPlaces() {
        KeyTour x = Check.level(Levels.WHEEL);
        for (int room = 0; room < 11; room++) {
            for (int place = 0; place < 11; place++) {
                int due = place == 0 ? (room == 0 ? 20 : 0) : room == 0 ? 0 : 2;
                Check.is("36: room " + room + " at place " + place, x.atPlace(room, place), due);
            }
        }
        for (int bad : NO_ROOMS_OF_11) {
            Check.iae("36: place " + bad, () -> x.atPlace(0, bad));
            Check.iae("36: place " + bad, () -> x.atPlace(10, bad));
            Check.ioobe("36: room " + bad, () -> x.atPlace(bad, 0));
            Check.ioobe("36: room and place " + bad, () -> x.atPlace(bad, bad));
            Check.iae("38: place " + bad, () -> x.share(0, bad));
            Check.iae("38: place " + bad, () -> x.share(10, bad));
            Check.ioobe("38: room " + bad, () -> x.share(bad, 0));
            Check.ioobe("38: room and place " + bad, () -> x.share(bad, bad));
        }
        Check.is("36: the room alone", new KeyTour().atPlace(0, 0), 1);
        Check.iae("36: behind the room alone", () -> new KeyTour().atPlace(0, 1));
        Check.iae("38: behind the room alone", () -> new KeyTour().share(0, 1));
        Check.ioobe("38: another room than the only one", () -> new KeyTour().share(1, 1));
    }

    private static void shares() {
        KeyTour x = Check.level(Levels.WHEEL);
        Check.same("38: all", x.share(0, 0), 1.0);
        Check.same("38: none", x.share(10, 0), 0.0);
        Check.same("38: a tenth", x.share(10, 10), 2.0 / 20.0);
        Check.same("38: 0.0 without tours", Check.level(Levels.STUCK).share(3, 3), 0.0);
        KeyTour third = Check.level("room a;room b;room c;room d;door a b;door b c;door c d;door b d;door a c;door a d;");
        Check.same("38: a third, as doubles", third.share(3, 3), 2.0 / 6.0);
    }

    private static void shownParts() {
        KeyTour x = Check.level(Levels.CHAIN);
        for (int length = 1; length <= 11; length++) {
            if (length > 1) x.go(length - 1);
            Check.same("39: " + length + " of 11", x.shown(), (float) length / 11.0f);
        }
        Check.same("39: all", x.shown(), 1.0f);
        Check.same("39: a third, as floats", Check.level("room a;room b;room c;").shown(), 1.0f / 3.0f);
        Check.same("39: the room alone", new KeyTour().shown(), 1.0f);
    }

    private static void leastCoinsOfNoneAndAll() {
        Check.is("40: NONE without tours", Check.level(Levels.STUCK).leastCoins(), KeyTour.NONE);
        Check.is("40: 0 without coins", Check.level(Levels.CHAIN).leastCoins(), 0);
        Check.is("40: all but those of the last room", Check.level(Levels.FULL).leastCoins(), 990);
        KeyTour x = Check.level(Levels.STAR);
        x.setCoins(1, 7);
        x.setCoins(4, 8);
        Check.is("40: over all tours", x.leastCoins(), 7);
        x.setCoins(1, 8);
        Check.is("40: over all tours", x.leastCoins(), 8);
        x.setCoins(0, 99);
        Check.is("40: those of the start are always found", x.leastCoins(), 107);
        x.setEnd(2);
        Check.is("40: over the tours to the end", x.leastCoins(), 115);
        x.setEnd(0);
        Check.is("40: NONE without tours to the end", x.leastCoins(), KeyTour.NONE);
        KeyTour alone = new KeyTour();
        alone.setCoins(0, 99);
        Check.is("40: the room alone", alone.leastCoins(), 0);
    }

    private static void roundsOfNoneAndAll() {
        Check.is("41: none without tours", Check.level(Levels.STUCK).rounds(), 0);
        Check.is("41: none", Check.level(Levels.CHAIN).rounds(), 0);
        Check.is("41: all", Check.level(Levels.WHEEL).rounds(), 20);
        Check.is("41: the room alone", new KeyTour().rounds(), 0);
        String line = "room a coins 99;room b coins 99;room c coins 2;door a b;door b c;";
        Check.is("41: a toll of all that is found", Check.level(line + "door c a toll 200 oneway;").rounds(), 1);
        Check.is("41: a toll of one more", Check.level(line + "door c a toll 201 oneway;").rounds(), 0);
        Check.is("41: a door the other way", Check.level(line + "door a c oneway;end c;").rounds(), 0);
        KeyTour full = Check.level(Levels.CHAIN);
        for (int room = 0; room < 11; room++) full.setCoins(room, 91);
        full.addDoor(10, 0, true);
        full.setLock(10, KeyTour.TOLL, 999);
        Check.is("41: the greatest toll", full.rounds(), 1);
        full.setCoins(10, 88);
        Check.is("41: the greatest toll with 998", full.rounds(), 0);
        full.setCoins(10, 89);
        Check.is("41: the greatest toll with 999", full.rounds(), 1);
    }
}
