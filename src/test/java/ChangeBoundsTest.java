/** The bounds of promises 42 to 53, and what section 3 says of the walk when the level is changed. */
public final class ChangeBoundsTest {
    private static final int MIN = Integer.MIN_VALUE, MAX = Integer.MAX_VALUE;
    private static final int[] NO_ROOMS_OF_11 = {-1, 11, 12, MIN, MAX};
    // The key to each door lies in the room that it leads out of, and so do the coins of the second one of each two.
    private static final String KEYS_AT_HAND = "room a key 0;room b key 1;room c key 2;room d key 3;room e;"
        + "door a b key 0;door b c key 1;door c d key 2;door d e key 3;";
    private static final String COINS_AT_HAND = "room a coins 9;room b coins 9;room c coins 9;room d coins 9;room e;"
        + "door a b toll 9;door b c toll 18;door c d toll 27;door d e toll 36;";

    public static void main(String[] args) {
        goWhereWhyIsZero();
        goToEachRoom();
        goReturnsTheTours();
        backFrom1ToAllButTheStart();
        againFromEachLength();
        completeFromEachLength();
        completeOnlyIfThereIsATour();
        walkOfEachRank();
        setKeyOfEachRoomAndKey();
        setKeyReturnsWhetherItDid();
        setKeyCutsTheWalk();
        setCoins0To99();
        setCoinsCutsTheWalk();
        setLockKindsAndNumbers();
        setLockReturnsWhatWasBefore();
        setLockCutsTheWalk();
        addDoorUpTo20();
        addDoorIsFreeAndBehindTheOthers();
        removeDoorDownToNone();
        removeDoorMovesThoseBehind();
        removeDoorCutsTheWalk();
        setStartOfEachRoom();
        setEndOfEachRoomAndNone();
        theWalkDoesNotGrow();
        theWalkIsCutAheadOfTheFirstRoom();
        Check.end("ChangeBoundsTest");
    }

    private static KeyTour walked(String text, int... rooms) {
        KeyTour x = Check.level(text);
        for (int room : rooms) x.go(room);
        return x;
    }

    private static void walkIs(String sentence, KeyTour x, String due) {
        Check.same(sentence + ", the walk", Check.walk(x), due);
    }

    // ---- 42

    private static void goWhereWhyIsZero() {
        String[] doors = {"", "door b a oneway;", "door a b key 1;", "door a b toll 5;", "door a b toll 5;door a b key 1;",
            "door a b toll 4;", "door a b key 0;", "door a b oneway;", "door b a;", "door a b toll 0;"};
        int[] due = {2, 2, 3, 4, 4, 0, 0, 0, 0, 0};
        for (int i = 0; i < doors.length; i++) {
            String text = "room a key 0 coins 4;room b key 1 coins 9;" + doors[i];
            KeyTour x = Check.level(text);
            Check.is("42: why, " + doors[i], x.why(1), due[i]);
            if (due[i] == 0) Check.is("42: it can, " + doors[i], x.go(1), 1);
            else Check.ise("42: it cannot, " + doors[i], () -> x.go(1));
            walkIs("42: " + doors[i], x, due[i] == 0 ? "0 1" : "0");
            Check.ise("42: it is in the walk, " + doors[i], () -> x.go(0));
            Check.is("42: what can be undone, " + doors[i], x.undoCount(), due[i] == 0 ? 2 : 1);
        }
    }

    private static void goToEachRoom() {
        KeyTour x = Check.level(Levels.WHEEL);
        for (int room = 1; room < 11; room++) {
            x.go(room);
            walkIs("42: go to " + room, x, "0 " + room);
            x.back(1);
        }
        for (int room : NO_ROOMS_OF_11) Check.ioobe("42: room " + room, () -> x.go(room));
        x.complete();
        for (int room = 0; room < 11; room++) {
            int in = room;
            Check.ise("42: the walk has all rooms, " + room, () -> x.go(in));
        }
        Check.ioobe("42: no such room of a full walk", () -> x.go(11));
        KeyTour alone = new KeyTour();
        Check.ise("42: the room alone", () -> alone.go(0));
        Check.ioobe("42: another room than the only one", () -> alone.go(1));
        KeyTour turned = Check.level(Levels.CHAIN + "start k;");
        for (int room = 9; room >= 0; room--) Check.is("42: down to room " + room, turned.go(room), 1);
        Check.is("42: a walk of 11", turned.property(4), 11);
    }

    private static void goReturnsTheTours() {
        KeyTour x = Check.level(Levels.STAR + "end e;");
        Check.is("42: the number of tours that begin with it then", x.go(1), 2);
        Check.is("42: one that ends too early", x.go(4), 0);
        Check.is("42: on without tours", x.go(2), 0);
        x.back(2);
        Check.is("42: one of two", x.go(2), 1);
        Check.is("42: the last but one", x.go(3), 1);
        Check.is("42: the end", x.go(4), 1);
    }

    // ---- 43, 44

    private static void backFrom1ToAllButTheStart() {
        for (int length = 1; length <= 11; length++) {
            for (int rooms = 1; rooms < length; rooms++) {
                KeyTour x = walkedTo(length);
                Check.is("43: back " + rooms + " of " + length, x.back(rooms), length - 1 - rooms);
                Check.is("43: its rooms then", x.property(4), length - rooms);
            }
            KeyTour x = walkedTo(length);
            for (int rooms : new int[] {0, -1, length, length + 1, MIN, MAX, -MAX}) {
                Check.iae("43: back " + rooms + " of " + length, () -> x.back(rooms));
            }
            Check.is("43: it has changed nothing", x.property(4), length);
        }
        Check.iae("43: the room alone", () -> new KeyTour().back(1));
        Check.iae("43: the room alone", () -> new KeyTour().back(0));
    }

    private static KeyTour walkedTo(int length) {
        KeyTour x = Check.level(Levels.CHAIN);
        for (int room = 1; room < length; room++) x.go(room);
        return x;
    }

    private static void againFromEachLength() {
        for (int length = 1; length <= 11; length++) {
            KeyTour x = walkedTo(length);
            Check.is("44: how many rooms it had", x.again(), length);
            walkIs("44: the start alone", x, "0");
        }
        KeyTour x = walked(Levels.CHAIN + "start k;", 9);
        Check.is("44: from another start", x.again(), 2);
        walkIs("44: another start", x, "10");
        Check.is("44: the room alone", new KeyTour().again(), 1);
    }

    // ---- 45, 46

    private static void completeFromEachLength() {
        for (int length = 1; length <= 11; length++) {
            KeyTour x = walkedTo(length);
            Check.is("45: how many rooms were added to " + length, x.complete(), 11 - length);
            walkIs("45: the tour", x, "0 1 2 3 4 5 6 7 8 9 10");
        }
        Check.is("45: the room alone", new KeyTour().complete(), 0);
        KeyTour x = walked(Levels.STAR, 4);
        x.complete();
        walkIs("45: the first tour that begins with it", x, "0 4 1 2 3");
        x.complete();
        walkIs("45: a tour stays", x, "0 4 1 2 3");
        x.setEnd(1);
        x.back(3);
        x.complete();
        walkIs("45: the first tour to the end", x, "0 4 2 3 1");
    }

    private static void completeOnlyIfThereIsATour() {
        KeyTour x = walked(Levels.STAR + "end e;", 4);
        Check.ise("45: none begins with it", x::complete);
        walkIs("45: it has changed nothing", x, "0 4");
        Check.is("45: nor what can be undone", x.undoCount(), 2);
        x.back(1);
        Check.is("45: but one begins with the start", x.complete(), 4);
        x.setEnd(1);
        Check.ise("45: a walk of all rooms that is no tour", x::complete);
        Check.ise("45: none at all", Check.level(Levels.STUCK)::complete);
    }

    private static void walkOfEachRank() {
        KeyTour x = Check.level(Levels.STAR);
        Check.is("46: rank 0", x.walk(0), 4);
        walkIs("46: rank 0", x, "0 1 2 3 4");
        Check.is("46: the last rank", x.walk(23), 1);
        walkIs("46: the last rank", x, "0 4 3 2 1");
        Check.is("46: another one from a tour", x.walk(6), 4);
        walkIs("46: rank 6", x, "0 2 1 3 4");
        for (long rank : new long[] {-1, 24, 25, 1L << 32, Long.MIN_VALUE, Long.MAX_VALUE}) {
            Check.iae("46: rank " + rank, () -> x.walk(rank));
        }
        walkIs("46: it has changed nothing", x, "0 2 1 3 4");
        x.setEnd(2);
        Check.is("46: the last rank to the end", x.walk(5), 2);
        Check.iae("46: the rank behind it", () -> x.walk(6));
        KeyTour turned = Check.level(Levels.STAR + "start e;");
        Check.is("46: the last rank from the last room", turned.walk(23), 0);
        walkIs("46: the last rank from the last room", turned, "4 3 2 1 0");
        turned.back(4);
        Check.is("45: from the last room", turned.complete(), 4);
        walkIs("45: from the last room", turned, "4 0 1 2 3");
        Check.is("46: from a walk with which no tour begins", walked(Levels.STAR + "end e;", 4).walk(0), 4);
        Check.is("46: the room alone", new KeyTour().walk(0), 0);
        Check.iae("46: one tour alone", () -> new KeyTour().walk(1));
        Check.iae("46: no tours", () -> Check.level(Levels.STUCK).walk(0));
    }

    // ---- 47, 48

    private static void setKeyOfEachRoomAndKey() {
        KeyTour x = Check.level(Levels.ROOMS_11);
        for (int room : new int[] {0, 5, 10}) {
            for (int key = 0; key < 8; key++) {
                Check.same("47: key " + key + " comes", x.setKey(room, key, true), false);
                Check.is("47: keys 0 to " + key, x.room(room, 0), (2 << key) - 1);
            }
            for (int key = 7; key >= 0; key--) {
                Check.same("47: key " + key + " goes", x.setKey(room, key, false), true);
                Check.is("47: keys below " + key, x.room(room, 0), (1 << key) - 1);
            }
        }
        for (int room : NO_ROOMS_OF_11) {
            Check.ioobe("47: room " + room, () -> x.setKey(room, 0, true));
            Check.ioobe("47: room " + room + " and no such key", () -> x.setKey(room, 8, false));
        }
        for (int key : new int[] {-1, 8, 9, 31, 32, 40, MIN, MAX}) {
            Check.ioobe("47: key " + key, () -> x.setKey(0, key, true));
            Check.ioobe("47: key " + key, () -> x.setKey(10, key, false));
        }
        for (int room = 0; room < 11; room++) Check.is("47: other rooms", x.room(room, 0), 0);
        KeyTour alone = new KeyTour();
        Check.same("47: the room alone", alone.setKey(0, 7, true), false);
        Check.is("47: the room alone has it", alone.property(7), 128);
        Check.ioobe("47: another room than the only one", () -> alone.setKey(1, 0, true));
    }

    private static void setKeyReturnsWhetherItDid() {
        KeyTour x = Check.level("room a key 0,7;");
        for (int key : new int[] {0, 7}) {
            Check.same("47: it did and does", x.setKey(0, key, true), true);
            Check.same("47: it did and does not", x.setKey(0, key, false), true);
            Check.same("47: it did not and does not", x.setKey(0, key, false), false);
            Check.same("47: it did not and does", x.setKey(0, key, true), false);
            Check.same("47: it does", x.setKey(0, key, true), true);
        }
        Check.is("47: both lie there", x.room(0, 0), 129);
    }

    private static void setKeyCutsTheWalk() {
        String[] due = {"0", "0 1", "0 1 2", "0 1 2 3"};
        for (int room = 0; room < 4; room++) {
            KeyTour x = walked(KEYS_AT_HAND, 1, 2, 3, 4);
            x.setKey(room, room, false);
            walkIs("47: without the key of room " + room, x, due[room]);
            KeyTour y = walked(KEYS_AT_HAND, 1, 2, 3, 4);
            y.setKey(4, room, true);
            y.setKey(room, room, false);
            walkIs("47: a key that is found too late, " + room, y, due[room]);
            KeyTour z = walked(KEYS_AT_HAND, 1, 2, 3, 4);
            z.setKey(0, room, true);
            if (room > 0) z.setKey(room, room, false);
            walkIs("47: a key that is found ahead, " + room, z, "0 1 2 3 4");
        }
    }

    private static void setCoins0To99() {
        KeyTour x = Check.level(Levels.ROOMS_11);
        int before = 0;
        for (int coins : new int[] {0, 1, 98, 99, 99, 0, 99}) {
            Check.is("48: its coins before", x.setCoins(0, coins), before);
            Check.is("48: its coins before", x.setCoins(10, coins), before);
            Check.is("48: its coins", x.room(0, 1), coins);
            Check.is("48: its coins", x.room(10, 1), coins);
            before = coins;
        }
        for (int coins : new int[] {-1, 100, 101, MIN, MAX}) {
            Check.iae("48: coins " + coins, () -> x.setCoins(0, coins));
            Check.iae("48: coins " + coins, () -> x.setCoins(10, coins));
            Check.ioobe("48: no such room comes first", () -> x.setCoins(11, coins));
            Check.ioobe("48: no such room comes first", () -> x.setCoins(-1, coins));
        }
        for (int room : NO_ROOMS_OF_11) Check.ioobe("48: room " + room, () -> x.setCoins(room, 0));
        Check.is("48: it has changed nothing", x.room(10, 1), 99);
        KeyTour alone = new KeyTour();
        Check.is("48: the room alone", alone.setCoins(0, 99), 0);
        Check.ioobe("48: another room than the only one", () -> alone.setCoins(1, 0));
    }

    private static void setCoinsCutsTheWalk() {
        String[] due = {"0", "0 1", "0 1 2", "0 1 2 3"};
        for (int room = 0; room < 4; room++) {
            KeyTour x = walked(COINS_AT_HAND, 1, 2, 3, 4);
            x.setCoins(room, 8);
            walkIs("48: one coin too few in room " + room, x, due[room]);
            KeyTour y = walked(COINS_AT_HAND, 1, 2, 3, 4);
            y.setCoins(room, 10);
            y.setCoins(4, 99);
            walkIs("48: one coin more in room " + room, y, "0 1 2 3 4");
            if (room < 3) y.setCoins(room + 1, 8);
            walkIs("48: just as many as the tolls", y, "0 1 2 3 4");
        }
    }

    // ---- 49

    private static void setLockKindsAndNumbers() {
        KeyTour x = Check.level(Levels.WHEEL);
        int[][] allowed = {{0, 0}, {1, 0}, {1, 1}, {1, 6}, {1, 7}, {2, 0}, {2, 1}, {2, 998}, {2, 999}, {0, 0}};
        for (int[] lock : allowed) {
            for (int door : new int[] {0, 19}) {
                x.setLock(door, lock[0], lock[1]);
                Check.is("49: kind " + lock[0], x.door(door, 2), lock[0]);
                Check.is("49: number " + lock[1], x.door(door, 3), lock[1]);
            }
        }
        int[][] refused = {{-1, 0}, {3, 0}, {4, 0}, {MIN, 0}, {MAX, 0}, {0, 1}, {0, -1}, {0, 7}, {0, MIN}, {0, MAX}, {1, -1},
            {1, 8}, {1, 999}, {1, MIN}, {1, MAX}, {2, -1}, {2, 1000}, {2, 1001}, {2, MIN}, {2, MAX}, {3, 1000}, {-1, -1}};
        for (int[] lock : refused) {
            Check.iae("49: " + lock[0] + " " + lock[1], () -> x.setLock(0, lock[0], lock[1]));
            Check.iae("49: " + lock[0] + " " + lock[1], () -> x.setLock(19, lock[0], lock[1]));
            for (int door : new int[] {-1, 20, MIN, MAX}) {
                Check.ioobe("49: no such door comes first", () -> x.setLock(door, lock[0], lock[1]));
                Check.ioobe("49: no such door", () -> x.setLock(door, 0, 0));
            }
        }
        Check.is("49: it has changed nothing", x.door(19, 2), KeyTour.FREE);
        Check.ioobe("49: without doors", () -> new KeyTour().setLock(0, 0, 0));
    }

    private static void setLockReturnsWhatWasBefore() {
        KeyTour x = Check.level("room a;room b;door a b;");
        int[][] locks = {{0, 0}, {1, 0}, {1, 7}, {2, 0}, {2, 999}, {0, 0}, {2, 7}, {1, 7}, {0, 0}};
        int before = 0;
        for (int[] lock : locks) {
            Check.is("49: 1000 times its kind before, plus its number", x.setLock(0, lock[0], lock[1]), before);
            before = 1000 * lock[0] + lock[1];
        }
        KeyTour y = Check.level("room a;room b;door a b oneway;");
        y.setLock(0, KeyTour.TOLL, 1);
        Check.is("49: oneway stays", y.door(0, 4), 1);
        Check.is("49: other doors stay", walkedTo(1).setLock(9, KeyTour.KEY, 0), 0);
    }

    private static void setLockCutsTheWalk() {
        for (int door = 0; door < 4; door++) {
            String due = "0 1 2 3 4".substring(0, 2 * door + 1);
            KeyTour x = walked(KEYS_AT_HAND, 1, 2, 3, 4);
            x.setLock(door, KeyTour.KEY, 7);
            walkIs("49: a key that lies nowhere, " + door, x, due);
            KeyTour y = walked(COINS_AT_HAND, 1, 2, 3, 4);
            y.setLock(door, KeyTour.TOLL, 9 * door + 10);
            walkIs("49: a toll of one more, " + door, y, due);
            KeyTour z = walked(COINS_AT_HAND, 1, 2, 3, 4);
            z.setLock(door, KeyTour.TOLL, 9 * door + 8);
            z.setLock(door, KeyTour.FREE, 0);
            walkIs("49: a toll of one less, and free, " + door, z, "0 1 2 3 4");
        }
        KeyTour two = walked("room a;room b;door a b;door a b;", 1);
        two.setLock(0, KeyTour.KEY, 0);
        walkIs("49: another door leads there", two, "0 1");
        two.setLock(1, KeyTour.TOLL, 1);
        walkIs("49: no door leads there", two, "0");
    }

    // ---- 50, 51

    private static void addDoorUpTo20() {
        KeyTour x = Check.level(Levels.ROOMS_11);
        for (int door = 0; door < 20; door++) {
            Check.is("50: its number", x.addDoor(door % 11, (door + 1) % 11, false), door);
            Check.is("50: doors", x.property(1), door + 1);
        }
        Check.ise("50: there are 20 doors", () -> x.addDoor(0, 10, false));
        Check.ise("50: there are 20 doors", () -> x.addDoor(10, 0, true));
        for (int room : NO_ROOMS_OF_11) {
            Check.ioobe("50: no such room comes first", () -> x.addDoor(room, 0, true));
            Check.ioobe("50: no such other room comes first", () -> x.addDoor(0, room, true));
            Check.ioobe("50: no such room twice", () -> x.addDoor(room, room, true));
        }
        Check.iae("50: the same comes ahead of 20 doors", () -> x.addDoor(0, 0, true));
        Check.iae("50: the same comes ahead of 20 doors", () -> x.addDoor(10, 10, false));
        Check.is("50: it has changed nothing", x.property(1), 20);
        x.removeDoor(0);
        Check.is("50: one more when one has gone", x.addDoor(10, 0, true), 19);
        KeyTour y = Check.level(Levels.CHAIN);
        for (int room : NO_ROOMS_OF_11) {
            Check.ioobe("50: no such room", () -> y.addDoor(room, 10, false));
            Check.ioobe("50: no such other room", () -> y.addDoor(10, room, false));
        }
        Check.iae("50: both are the same", () -> y.addDoor(5, 5, false));
        Check.iae("50: the room alone", () -> new KeyTour().addDoor(0, 0, false));
        Check.ioobe("50: another room than the only one", () -> new KeyTour().addDoor(0, 1, false));
        Check.ise("50: 20 doors of a text", () -> Check.level(Levels.FULL).addDoor(0, 1, false));
    }

    private static void addDoorIsFreeAndBehindTheOthers() {
        KeyTour x = Check.level("room a;room b;room c;door a b toll 999 oneway;");
        x.removeDoor(0);
        x.addDoor(2, 0, false);
        x.addDoor(1, 2, true);
        int[][] due = {{2, 0, 0, 0, 0, 1}, {1, 2, 0, 0, 1, 1}};
        for (int door = 0; door < 2; door++) {
            for (int what = 0; what < 6; what++) Check.is("50: a free door, " + what, x.door(door, what), due[door][what]);
        }
        Check.is("50: in either direction", x.why(2), 0);
        x.go(2);
        Check.is("50: one way alone", x.why(1), 2);
        Check.is("50: no tour by it", x.tours(), 0);
    }

    private static void removeDoorDownToNone() {
        KeyTour x = Check.level(Levels.FULL);
        for (int doors = 19; doors >= 0; doors--) {
            int last = doors + 1;
            Check.ioobe("51: no such door", () -> x.removeDoor(last));
            Check.is("51: how many doors there are then", x.removeDoor(doors % 2 == 0 ? 0 : doors), doors);
        }
        for (int door : new int[] {-1, 0, 1, MIN, MAX}) Check.ioobe("51: without doors, " + door, () -> x.removeDoor(door));
        Check.is("51: none is left", x.property(1), 0);
        KeyTour y = Check.level(Levels.FULL);
        for (int door : new int[] {-1, 20, 21, MIN, MAX}) Check.ioobe("51: door " + door, () -> y.removeDoor(door));
        Check.ioobe("51: a new object", () -> new KeyTour().removeDoor(0));
    }

    private static void removeDoorMovesThoseBehind() {
        String text = "room a;room b;room c;door a b key 7 oneway;door b c toll 999;door c a;door c b key 1 oneway;";
        int[][] doors = {{0, 1, 1, 7, 1}, {1, 2, 2, 999, 0}, {2, 0, 0, 0, 0}, {2, 1, 1, 1, 1}};
        for (int removed = 0; removed < 4; removed++) {
            KeyTour x = Check.level(text);
            x.removeDoor(removed);
            for (int door = 0; door < 3; door++) {
                int[] due = doors[door < removed ? door : door + 1];
                for (int what = 0; what < 5; what++) {
                    Check.is("51: without " + removed + ", door " + door + ", " + what, x.door(door, what), due[what]);
                }
            }
            Check.ioobe("51: the last number", () -> x.door(3, 0));
        }
    }

    private static void removeDoorCutsTheWalk() {
        for (int door = 0; door < 10; door++) {
            KeyTour x = walkedTo(11);
            x.removeDoor(door);
            Check.is("51: ahead of the first room that no door leads to", x.property(4), door + 1);
            Check.is("51: its last room", x.property(5), door);
        }
        KeyTour two = walked("room a;room b;door a b;door b a;", 1);
        two.removeDoor(0);
        walkIs("51: another door leads there", two, "0 1");
        two.removeDoor(0);
        walkIs("51: none leads there", two, "0");
        KeyTour other = walked("room a;room b;room c;door a b;door b c;door a c;", 1, 2);
        other.removeDoor(2);
        walkIs("51: a door beside the walk", other, "0 1 2");
    }

    // ---- 52, 53

    private static void setStartOfEachRoom() {
        KeyTour x = walkedTo(11);
        Check.is("52: the same start", x.setStart(0), 0);
        Check.is("52: the walk stays", x.property(4), 11);
        for (int room = 1; room < 11; room++) {
            Check.is("52: the start before", x.setStart(room), room - 1);
            walkIs("52: it has the start alone", x, "" + room);
            x.go(room - 1);
        }
        for (int room : NO_ROOMS_OF_11) Check.ioobe("52: room " + room, () -> x.setStart(room));
        walkIs("52: it has changed nothing", x, "10 9");
        Check.is("52: the last one before", x.setStart(0), 10);
        Check.is("52: the room alone", new KeyTour().setStart(0), 0);
        Check.ioobe("52: another room than the only one", () -> new KeyTour().setStart(1));
    }

    private static void setEndOfEachRoomAndNone() {
        KeyTour x = walkedTo(11);
        Check.is("53: NONE if none was told", x.setEnd(KeyTour.NONE), KeyTour.NONE);
        int before = KeyTour.NONE;
        for (int room = 0; room < 11; room++) {
            Check.is("53: the end before", x.setEnd(room), before);
            Check.is("53: the end", x.property(3), room);
            Check.is("53: tours to it", x.tours(), room == 10 ? 1 : 0);
            before = room;
        }
        for (int room : new int[] {-2, -3, 11, 12, MIN, MAX}) Check.ioobe("53: room " + room, () -> x.setEnd(room));
        Check.is("53: it has changed nothing", x.property(3), 10);
        Check.is("53: the last room before", x.setEnd(KeyTour.NONE), 10);
        Check.is("53: any room", x.property(3), KeyTour.NONE);
        Check.is("53: the walk stays", x.property(4), 11);
        KeyTour alone = new KeyTour();
        Check.is("53: the room alone", alone.setEnd(0), KeyTour.NONE);
        Check.is("53: the room alone is a tour", alone.tours(), 1);
        Check.ioobe("53: another room than the only one", () -> alone.setEnd(1));
        Check.is("53: the end of a text", Check.level("room a;room b;end b;").setEnd(0), 1);
    }

    // ---- Section 3

    private static void theWalkDoesNotGrow() {
        KeyTour x = walked(KEYS_AT_HAND, 1, 2, 3, 4);
        x.setKey(1, 1, false);
        x.setKey(1, 1, true);
        walkIs("47: as long as it still is a walk, no longer", x, "0 1");
        x.addDoor(1, 2, false);
        walkIs("50: as long as it still is a walk, no longer", x, "0 1");
        KeyTour y = walkedTo(4);
        y.setStart(5);
        y.setStart(0);
        walkIs("52: the start alone, also when it is the old one again", y, "0");
    }

    private static void theWalkIsCutAheadOfTheFirstRoom() {
        // One key for three doors: all of them close, and the walk goes ahead of the first.
        String text = "room a;room b key 0;room c;room d;room e;door a b;door b c key 0;door c d key 0;door d e key 0;";
        KeyTour x = walked(text, 1, 2, 3, 4);
        x.setKey(1, 0, false);
        walkIs("47: it is cut ahead of the first room", x, "0 1");
        // The key lies in a room that is cut off: what is behind it stays only if it is found ahead of the cut.
        KeyTour y = walked("room a;room b key 1;room c key 0;room d;door a b;door b c key 1;door c d key 0;", 1, 2, 3);
        y.setKey(2, 0, false);
        walkIs("47: the last room alone", y, "0 1 2");
        y.setKey(1, 1, false);
        walkIs("47: one more", y, "0 1");
        KeyTour turned = walked("room a;room b coins 5;room c key 0;door c b key 0;door b a toll 5;start c;", 1, 0);
        turned.setCoins(2, 1);
        turned.setCoins(1, 4);
        walkIs("48: what lies in a start that is not room 0 counts", turned, "2 1 0");
        turned.setCoins(2, 0);
        walkIs("48: from a start that is not room 0", turned, "2 1");
        turned.setKey(2, 0, false);
        walkIs("47: from a start that is not room 0", turned, "2");
        KeyTour whole = walkedTo(11);
        whole.setLock(0, KeyTour.TOLL, 1);
        walkIs("49: the start always stays", whole, "0");
        KeyTour alone = new KeyTour();
        alone.setKey(0, 0, true);
        alone.setKey(0, 0, false);
        alone.setCoins(0, 9);
        walkIs("48: the start alone stays", alone, "0");
    }
}
