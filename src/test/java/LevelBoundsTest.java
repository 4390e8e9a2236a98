import java.util.function.Consumer;

/** The bounds of section 2, ROOMS AND DOORS, and of promises 1 and 8 to 14: the level and the walk as they are. */
public final class LevelBoundsTest {
    private static final int MIN = Integer.MIN_VALUE, MAX = Integer.MAX_VALUE;
    // One key in each room from b to i.
    private static final String KEYS_ON_THE_WAY = "room a;room b key 0;room c key 1;room d key 2;room e key 3;room f key 4;"
        + "room g key 5;room h key 6;room i key 7;room j;room k;" + Levels.CHAIN_DOORS;

    public static void main(String[] args) {
        aNewObject();
        answersOfANewObject();
        severalDoorsBetweenTwoRooms();
        foundAreAllKeysAndTheSumOfCoins();
        openWithAsManyCoinsAsItsToll();
        coinsAreNotSpent();
        foundUpToTheRoomItselfIncluded();
        noRoomTwice();
        aTourEndsInTheEnd();
        propertyWhat0To8();
        propertiesOfTheLeastAndTheMost();
        roomWhat0To4();
        doorsOfARoom();
        placeInTheWalk();
        doorWhat0To5();
        doorIsOpen();
        walkedFrom0ToTheLength();
        foundAtKeys0To7();
        whyItIsInTheWalk();
        whyNoDoorLeadsThere();
        whyTheDoorsAreNotOpen();
        whyForEachRoom();
        exitsOfNoneAndAll();
        Check.end("LevelBoundsTest");
    }

    private static KeyTour walked(String text, int... rooms) {
        KeyTour x = Check.level(text);
        for (int room : rooms) x.go(room);
        return x;
    }

    // ---- 1

    private static void aNewObject() {
        KeyTour x = new KeyTour();
        int[] due = {1, 0, 0, KeyTour.NONE, 1, 0, 1, 0, 0};
        for (int what = 0; what < 9; what++) Check.is("1: property " + what, x.property(what), due[what]);
        for (int what = 0; what < 5; what++) Check.is("1: in which nothing lies, " + what, x.room(0, what), 0);
        Check.ioobe("1: one room", () -> x.room(1, 0));
        Check.ioobe("1: no door", () -> x.door(0, 0));
        Check.is("1: without a name", x.writeWalk(), 0);
        Check.is("1: nothing to undo", x.undoCount(), 0);
        Check.is("1: an empty input buffer", Look.inputLength(x), 0);
        Check.nsee("1: an empty output buffer", () -> new KeyTour().outputByte(0));
        Check.ise("1: an empty slot 0", () -> new KeyTour().restore(0));
        Check.ise("1: an empty slot 1", () -> new KeyTour().restore(1));
        Check.ise("1: nothing to undo", () -> new KeyTour().undo());
        Consumer<KeyTour> none = y -> { };
        KeyTour other = Check.level(Levels.FULL);
        other.keep(0);
        Check.same("1: another object changes nothing in it", Look.whole(none).contains("\nslot empty\nslot empty"), true);
    }

    private static void answersOfANewObject() {
        KeyTour x = new KeyTour();
        long[] ones = {x.tours(), x.completions(), x.longest(), x.longestOn(), x.endings(), x.starts(), x.toursFrom(0),
            x.toursTo(0), x.reachable(), x.atPlace(0, 0), x.without(0), x.without(7), x.why(0)};
        for (int i = 0; i < ones.length; i++) Check.is("1: one tour, answer " + i, ones[i], 1);
        long[] zeros = {x.exits(), x.completionsBy(0), x.good(), x.wrong(), x.tour(0, 0), x.rank(), x.neededKeys(),
            x.neededDoors(), x.leastCoins(), x.rounds(), x.walked(0), x.writeTour(0), x.errorCode()};
        for (int i = 0; i < zeros.length; i++) Check.is("1: nothing else, answer " + i, zeros[i], 0);
        Check.is("1: bestDoor", x.bestDoor(), KeyTour.NONE);
        Check.is("1: errorPosition", x.errorPosition(), KeyTour.NONE);
        Check.same("1: share", x.share(0, 0), 1.0);
        Check.same("1: shown", x.shown(), 1.0f);
        for (int key = 0; key < 8; key++) Check.is("1: foundAt " + key, x.foundAt(key), KeyTour.NONE);
    }

    // ---- Section 2

    private static void severalDoorsBetweenTwoRooms() {
        String sentence = "15: several doors may lead from one room to another one";
        KeyTour x = Check.level("room a;room b;" + "door a b;".repeat(10) + "door b a;".repeat(10));
        Check.is(sentence + ", one tour all the same", x.tours(), 1);
        Check.is(sentence + ", one exit", x.exits(), 2);
        Check.is(sentence + ", behind", x.behind(0, 1), 1);
        KeyTour y = Check.level("room a;room b;door a b key 1;door a b toll 1;door b a;");
        Check.is(sentence + ", one of them is open", y.why(1), 0);
        y.removeDoor(2);
        Check.is(sentence + ", none of them is open", y.why(1), 4);
        y.setCoins(0, 1);
        Check.is(sentence + ", the second one is open", y.tours(), 1);
    }

    private static void foundAreAllKeysAndTheSumOfCoins() {
        KeyTour x = walked(Levels.FULL);
        for (int room = 0; room < 11; room++) {
            if (room > 0) x.go(room);
            Check.is("8: the sum of their coins", x.property(8), 99 * (room + 1));
            Check.is("8: all keys that lie in them", x.property(7), 255);
        }
        KeyTour y = walked(KEYS_ON_THE_WAY);
        for (int room = 0; room < 11; room++) {
            if (room > 0) y.go(room);
            Check.is("8: all keys that lie in them", y.property(7), (1 << Math.min(room, 8)) - 1);
        }
        KeyTour z = walked("room a key 3;room b key 3;door a b;", 1);
        Check.is("8: a key that lies in two of them", z.property(7), 8);
        z.back(1);
        Check.is("8: a key that lies in one of them", z.property(7), 8);
        z.setKey(0, 3, false);
        Check.is("8: a key that lies in none of them", z.property(7), 0);
    }

    private static void openWithAsManyCoinsAsItsToll() {
        String sentence = "10: open if at least as many coins as its toll are found";
        for (int toll : new int[] {0, 1, 98, 99, 100, 197, 198, 199, 989, 990, 991, 999}) {
            KeyTour x = Check.level(Levels.FULL);
            x.setLock(19, KeyTour.TOLL, toll);
            for (int room = 0; room < 11; room++) {
                if (room > 0) x.go(room);
                int due = 99 * (room + 1) >= toll ? 1 : 0;
                Check.is(sentence + ", toll " + toll + " with " + 99 * (room + 1), x.door(19, 5), due);
            }
        }
        for (int toll = 0; toll < 4; toll++) {
            KeyTour x = Check.level("room a coins 2;room b coins 99;door a b toll " + toll + ";");
            Check.is(sentence + ", tours", x.tours(), toll <= 2 ? 1 : 0);
            Check.is(sentence + ", exits", x.exits(), toll <= 2 ? 2 : 0);
            Check.is(sentence + ", longest", x.longest(), toll <= 2 ? 2 : 1);
            Check.is(sentence + ", reachable", x.reachable(), toll <= 2 ? 3 : 1);
        }
        Check.is("10: open if its key is found", walked("room a key 0;room b;door a b key 0;").door(0, 5), 1);
        Check.is("10: open if its key is found", walked("room a key 7;room b;door a b key 7;").door(0, 5), 1);
        Check.is("10: closed with another key", walked("room a key 6,0;room b;door a b key 7;").door(0, 5), 0);
        Check.is("10: closed with another key", walked("room a key 1,7;room b;door a b key 0;").door(0, 5), 0);
        Check.is("10: open if it is free", walked("room a;room b;door a b;").door(0, 5), 1);
    }

    private static void coinsAreNotSpent() {
        KeyTour x = walked("room a coins 5;room b;room c;door a b toll 5;door b c toll 5;", 1);
        Check.is("8: coins are not spent", x.property(8), 5);
        Check.is("13: coins are not spent", x.why(2), 0);
        Check.is("15: coins are not spent", x.tours(), 1);
        x.setLock(1, KeyTour.TOLL, 6);
        Check.is("15: nor are they more", x.tours(), 0);
    }

    private static void foundUpToTheRoomItselfIncluded() {
        String sentence = "15: with what is found in the rooms up to it, itself included";
        Check.is(sentence + ", a key in the first room", Check.level("room a key 0;room b;door a b key 0;").tours(), 1);
        Check.is(sentence + ", a key in the next room", Check.level("room a;room b key 0;door a b key 0;").tours(), 0);
        Check.is(sentence + ", coins in the next room", Check.level("room a;room b coins 9;door a b toll 9;").tours(), 0);
        String three = "room a;room b key 0 coins 9;room c;door a b;";
        Check.is(sentence + ", a key in the last room", Check.level(three + "door b c key 0;").tours(), 1);
        Check.is(sentence + ", coins in the last room", Check.level(three + "door b c toll 9;").tours(), 1);
        String early = "room a key 0;room b;room c;door a b;door b c key 0;";
        Check.is(sentence + ", a key in a room ahead", Check.level(early).tours(), 1);
        Check.is(sentence + ", not from another start", Check.level(early + "start b;").tours(), 0);
    }

    private static void noRoomTwice() {
        KeyTour x = Check.level("room a;room b;room c;door a b;door a c;");
        Check.is("15: a walk is a row of rooms, none of them twice", x.tours(), 0);
        Check.is("22: none of them twice", x.longest(), 2);
        Check.is("28: but rooms may be entered again and again", x.reachable(), 7);
    }

    private static void aTourEndsInTheEnd() {
        String sentence = "15: if an end is told, the last room of a tour is the end";
        KeyTour x = Check.level(Levels.STAR);
        Check.is(sentence + ", none told", x.tours(), 24);
        for (int end = 0; end < 5; end++) {
            x.setEnd(end);
            Check.is(sentence + ", " + end, x.tours(), end == 0 ? 0 : 6);
        }
        KeyTour alone = Check.level("room a;end a;");
        Check.is(sentence + ", the start alone", alone.tours(), 1);
        Check.is("15: a tour is a walk of all rooms", Check.level("room a;room b;end a;").tours(), 0);
    }

    // ---- 8, 9, 10

    private static void propertyWhat0To8() {
        KeyTour x = walked(Levels.HOUSE + "start vault;end hall;", 0);
        int[] due = {4, 5, 1, 0, 2, 0, 3, 2, 5};
        for (int what = 0; what < 9; what++) Check.is("8: what " + what, x.property(what), due[what]);
        for (int what : new int[] {-1, 9, 10, MIN, MAX}) Check.iae("8: what " + what, () -> x.property(what));
    }

    private static void propertiesOfTheLeastAndTheMost() {
        int[] least = {1, 0, 0, -1, 1, 0, 1, 0, 0};
        KeyTour small = Check.level("room a;");
        for (int what = 0; what < 9; what++) Check.is("8: the least of " + what, small.property(what), least[what]);
        KeyTour x = Check.level(Levels.FULL);
        x.setEnd(10);
        for (int room = 1; room < 11; room++) x.go(room);
        int[] most = {11, 20, 0, 10, 11, 10, 2047, 255, 1089};
        for (int what = 0; what < 9; what++) Check.is("8: the most of " + what, x.property(what), most[what]);
        x.setStart(10);
        Check.is("8: the last room as the start", x.property(2), 10);
        Check.is("8: the set of the last room", x.property(6), 1024);
        x.setEnd(0);
        Check.is("8: room 0 as the end", x.property(3), 0);
    }

    private static void roomWhat0To4() {
        KeyTour x = walked(Levels.FULL, 1);
        int[] first = {255, 99, 1 | 1 << 10 | 1 << 19, 1 | 1 << 10 | 1 << 19, 0};
        int[] last = {0, 99, 1 << 9 | 1 << 18 | 1 << 19, 1 << 9 | 1 << 18 | 1 << 19, KeyTour.NONE};
        for (int what = 0; what < 5; what++) {
            Check.is("9: the first room, what " + what, x.room(0, what), first[what]);
            Check.is("9: the last room, what " + what, x.room(10, what), last[what]);
        }
        for (int room : new int[] {-1, 11, 12, MIN, MAX}) Check.ioobe("9: room " + room, () -> x.room(room, 0));
        for (int what : new int[] {-1, 5, MIN, MAX}) {
            Check.iae("9: what " + what, () -> x.room(0, what));
            Check.iae("9: what " + what, () -> x.room(10, what));
            Check.ioobe("9: no such room comes first", () -> x.room(11, what));
            Check.ioobe("9: no such room comes first", () -> x.room(-1, what));
        }
    }

    private static void doorsOfARoom() {
        KeyTour x = Check.level("room a;room b;" + "door a b;".repeat(20));
        Check.is("9: left by all doors", x.room(0, 2), (1 << 20) - 1);
        Check.is("9: entered by all doors", x.room(1, 3), (1 << 20) - 1);
        KeyTour y = Check.level("room a;room b;room c;" + "door a b oneway;".repeat(20));
        int[][] due = {{(1 << 20) - 1, 0}, {0, (1 << 20) - 1}, {0, 0}};
        for (int room = 0; room < 3; room++) {
            Check.is("9: left by oneway doors, " + room, y.room(room, 2), due[room][0]);
            Check.is("9: entered by oneway doors, " + room, y.room(room, 3), due[room][1]);
        }
        KeyTour z = Check.level("room a;room b;door a b key 1;door b a toll 9;");
        Check.is("9: open or not, left", z.room(0, 2), 3);
        Check.is("9: open or not, entered", z.room(0, 3), 3);
    }

    private static void placeInTheWalk() {
        KeyTour x = walked(Levels.CHAIN);
        for (int length = 1; length <= 11; length++) {
            if (length > 1) x.go(length - 1);
            for (int room = 0; room < 11; room++) {
                Check.is("9: its place in the walk, NONE if it is not in it", x.room(room, 4), room < length ? room : -1);
            }
        }
        KeyTour y = walked(Levels.CHAIN + "start k;", 9, 8);
        int[] due = {-1, -1, -1, -1, -1, -1, -1, -1, 2, 1, 0};
        for (int room = 0; room < 11; room++) Check.is("9: the place, not the room", y.room(room, 4), due[room]);
        y.back(1);
        Check.is("9: NONE for a room that has gone", y.room(8, 4), KeyTour.NONE);
    }

    private static void doorWhat0To5() {
        KeyTour x = Check.level(Levels.FULL);
        x.setLock(0, KeyTour.KEY, 7);
        x.setLock(19, KeyTour.TOLL, 999);
        int[] first = {0, 1, 1, 7, 0, 1};
        int[] last = {10, 0, 2, 999, 0, 0};
        for (int what = 0; what < 6; what++) {
            Check.is("10: the first door, what " + what, x.door(0, what), first[what]);
            Check.is("10: the last door, what " + what, x.door(19, what), last[what]);
        }
        for (int door : new int[] {-1, 20, 21, MIN, MAX}) Check.ioobe("10: door " + door, () -> x.door(door, 0));
        for (int what : new int[] {-1, 6, MIN, MAX}) {
            Check.iae("10: what " + what, () -> x.door(0, what));
            Check.iae("10: what " + what, () -> x.door(19, what));
            Check.ioobe("10: no such door comes first", () -> x.door(20, what));
            Check.ioobe("10: no such door comes first", () -> x.door(-1, what));
        }
        Check.ioobe("10: without doors", () -> new KeyTour().door(0, 0));
        KeyTour one = Check.level("room a;room b;door b a oneway;");
        int[] due = {1, 0, KeyTour.FREE, 0, 1, 1};
        for (int what = 0; what < 6; what++) Check.is("10: a oneway door, what " + what, one.door(0, what), due[what]);
        Check.ioobe("10: behind the only door", () -> one.door(1, 0));
    }

    private static void doorIsOpen() {
        KeyTour x = Check.level("room a;room b key 5 coins 7;room c;door a b;door b c key 5;door b c toll 7;");
        int[] alone = {1, 0, 0};
        int[] both = {1, 1, 1};
        for (int door = 0; door < 3; door++) Check.is("10: with what is found in the start", x.door(door, 5), alone[door]);
        x.go(1);
        for (int door = 0; door < 3; door++) Check.is("10: with what is found in the walk", x.door(door, 5), both[door]);
        x.again();
        for (int door = 0; door < 3; door++) Check.is("10: with what is found no more", x.door(door, 5), alone[door]);
    }

    // ---- 11, 12

    private static void walkedFrom0ToTheLength() {
        KeyTour x = walked(Levels.CHAIN + "start k;");
        for (int length = 1; length <= 11; length++) {
            if (length > 1) x.go(11 - length);
            for (int place = 0; place < length; place++) Check.is("11: place " + place, x.walked(place), 10 - place);
            for (int place : new int[] {-1, length, length + 1, MIN, MAX}) {
                Check.nsee("11: place " + place + " of " + length, () -> x.walked(place));
            }
        }
        x.back(5);
        Check.is("11: the last place when the walk is shorter", x.walked(5), 5);
        Check.nsee("11: behind it", () -> x.walked(6));
        Check.is("11: place 0 of a new object", new KeyTour().walked(0), 0);
        Check.nsee("11: place 1 of a new object", () -> new KeyTour().walked(1));
    }

    private static void foundAtKeys0To7() {
        KeyTour x = walked(KEYS_ON_THE_WAY);
        for (int length = 1; length <= 11; length++) {
            if (length > 1) x.go(length - 1);
            for (int key = 0; key < 8; key++) {
                int due = key + 1 < length ? key + 1 : KeyTour.NONE;
                Check.is("12: key " + key + " in a walk of " + length, x.foundAt(key), due);
            }
        }
        for (int key : new int[] {-1, 8, 9, 31, 32, 40, MIN, MAX}) Check.ioobe("12: key " + key, () -> x.foundAt(key));
        KeyTour last = walked(Levels.CHAIN, 1, 2, 3, 4, 5, 6, 7, 8, 9, 10);
        last.setKey(10, 7, true);
        Check.is("12: found at the last place", last.foundAt(7), 10);
        last.setKey(9, 7, true);
        Check.is("12: found first", last.foundAt(7), 9);
        last.setKey(0, 7, true);
        Check.is("12: found at the start", last.foundAt(7), 0);
        KeyTour turned = walked(Levels.CHAIN + "start k;", 9);
        turned.setKey(9, 0, true);
        turned.setKey(0, 0, true);
        Check.is("12: the place, not the room", turned.foundAt(0), 1);
        turned.back(1);
        Check.is("12: NONE if it was not", turned.foundAt(0), KeyTour.NONE);
    }

    // ---- 13, 14

    private static void whyItIsInTheWalk() {
        KeyTour x = walked("room a;room b;room c;door a b;door b c;door c a;", 1);
        int[] due = {1, 1, 0};
        for (int room = 0; room < 3; room++) Check.is("13: 1, it is in the walk, " + room, x.why(room), due[room]);
        x.go(2);
        // A free door leads from c to a, which is in the walk all the same.
        for (int room = 0; room < 3; room++) Check.is("13: 1, it is in the walk, " + room, x.why(room), 1);
    }

    private static void whyNoDoorLeadsThere() {
        Check.is("13: 2, no door at all", Check.level("room a;room b;").why(1), 2);
        Check.is("13: 2, a oneway door the other way", Check.level("room a;room b;door b a oneway;").why(1), 2);
        Check.is("13: 0, a oneway door", Check.level("room a;room b;door a b oneway;").why(1), 0);
        KeyTour x = walked("room a;room b;room c;door a b;door a c;", 1);
        Check.is("13: 2, a door from another room of the walk", x.why(2), 2);
        KeyTour y = Check.level("room a;room b;door b a oneway;door b a key 1 oneway;door b a toll 1 oneway;");
        Check.is("13: 2, no lock counts of doors that lead away", y.why(1), 2);
    }

    private static void whyTheDoorsAreNotOpen() {
        String rooms = "room a key 7 coins 4;room b key 0 coins 9;";
        String[] doors = {"key 0", "key 0;door a b key 1", "toll 5", "toll 5;door a b toll 999", "key 0;door a b toll 5",
            "toll 5;door b a key 0", "key 0;door b a oneway", "key 0;door b a toll 1 oneway", "key 7", "toll 4", "toll 0",
            "key 0;door a b key 7", "toll 5;door a b", "toll 5;door a b key 0;door b a toll 3", "key 0;door a b toll 5 oneway"};
        int[] due = {3, 3, 4, 4, 4, 4, 3, 3, 0, 0, 0, 0, 0, 0, 4};
        for (int i = 0; i < doors.length; i++) {
            KeyTour x = Check.level(rooms + "door a b " + doors[i] + ";");
            Check.is("13: doors " + doors[i], x.why(1), due[i]);
            Check.is("14: doors " + doors[i], x.exits(), due[i] == 0 ? 2 : 0);
        }
    }

    private static void whyForEachRoom() {
        KeyTour x = Check.level(Levels.CHAIN);
        for (int room = 0; room < 11; room++) Check.is("13: room " + room, x.why(room), room == 0 ? 1 : room == 1 ? 0 : 2);
        for (int room : new int[] {-1, 11, MIN, MAX}) Check.ioobe("13: room " + room, () -> x.why(room));
        KeyTour alone = new KeyTour();
        Check.is("13: the only room", alone.why(0), 1);
        for (int room : new int[] {-1, 1, MIN, MAX}) Check.ioobe("13: room " + room, () -> alone.why(room));
    }

    private static void exitsOfNoneAndAll() {
        Check.is("14: to no room without doors", Check.level("room a;room b;").exits(), 0);
        Check.is("14: to all ten others", Check.level(Levels.WHEEL).exits(), 2046);
        KeyTour x = walked(Levels.WHEEL, 1);
        Check.is("14: to no room of the walk", x.exits(), 4 | 1024);
        x.complete();
        Check.is("14: to no room from the last one", x.exits(), 0);
        Check.is("14: from the last room down", Check.level(Levels.CHAIN + "start k;").exits(), 512);
    }
}
