import java.util.ArrayList;
import java.util.List;
import java.util.NoSuchElementException;
import java.util.function.Consumer;

/**
 * The section EXCEPTIONS: in states from the emptiest to the fullest, each call that has to be refused is refused with
 * the exception that is due, and changes nothing; nor do the questions, and those of what would be.
 */
public final class RefusalsTest {
    private static final int MIN = Integer.MIN_VALUE, MAX = Integer.MAX_VALUE;
    private static final Class<? extends RuntimeException> NO_INDEX = IndexOutOfBoundsException.class;
    private static final Class<? extends RuntimeException> NO_ARGUMENT = IllegalArgumentException.class;
    private static final Class<? extends RuntimeException> NO_STATE = IllegalStateException.class;
    private static final Class<? extends RuntimeException> NO_ELEMENT = NoSuchElementException.class;

    private final String state;
    private final Consumer<KeyTour> way;
    private final String before;
    private final int rooms;
    private final int doors;
    private final int length;
    private final long tours;
    private int refused = 0;

    private RefusalsTest(String state, Consumer<KeyTour> way) {
        this.state = state;
        this.way = way;
        before = Look.whole(way);
        KeyTour x = Look.made(way);
        rooms = x.property(0);
        doors = x.property(1);
        length = x.property(4);
        tours = x.tours();
    }

    public static void main(String[] args) {
        check("a new object", x -> { });
        check("an empty level that was loaded", x -> Check.load(x, "room a;room b;"));
        check("half way", RefusalsTest::halfWay);
        check("a tour", RefusalsTest::tour);
        check("no tours", RefusalsTest::stuck);
        check("full", RefusalsTest::full);
        check("the fullest text", RefusalsTest::fullestText);
        check("undone", RefusalsTest::undone);
        Check.end("RefusalsTest");
    }

    private static void check(String state, Consumer<KeyTour> way) {
        RefusalsTest test = new RefusalsTest(state, way);
        test.buffers();
        test.noRooms();
        test.noDoors();
        test.noKeysAndSlots();
        test.noArguments();
        test.noPlaces();
        test.noTours();
        test.noMoves();
        test.noSuchState();
        Check.same(state + ": many calls are refused", test.refused > 150, true);
        test.questions();
    }

    // ---- The states

    private static void halfWay(KeyTour x) {
        Check.load(x, Levels.HOUSE);
        x.writeTour(1);
        x.go(2);
        x.keep(1);
        Check.feed(x, "hall");
    }

    private static void tour(KeyTour x) {
        Check.load(x, Levels.HOUSE + "start vault;end yard;");
        x.keep(0);
        x.complete();
        x.writeWalk();
        Check.load(x, "room a key 8;");
        Check.feed(x, "room p;room q;door p q;");
    }

    private static void stuck(KeyTour x) {
        Check.load(x, Levels.STUCK);
        x.go(1);
        x.writeWalk();
        x.keep(0);
        x.keep(1);
        Check.load(x, "");
    }

    /** Buffers, level, walk, what can be undone and slots: all are full. */
    private static void full(KeyTour x) {
        Check.load(x, Levels.LONG_NAMES);
        for (int door = 10; door < 20; door++) x.addDoor(door - 10, (door - 8) % 11, door == 15);
        for (int key = 0; key < 8; key++) x.setKey(10, key, true);
        x.keep(0);
        for (int room = 0; room < 11; room++) x.setCoins(room, 99);
        x.setLock(19, KeyTour.TOLL, 999);
        x.walk(0);
        x.setEnd(0);
        x.keep(1);
        Check.is("58: the output is full", x.writeWalk(), 77);
        Check.feed(x, Levels.FULL + "\n\n \n");
        Check.is("57: what can be undone is full", x.undoCount(), 6);
    }

    private static void fullestText(KeyTour x) {
        Check.load(x, Levels.FULL);
        x.keep(1);
        x.walk(x.tours() - 1);
        x.writeWalk();
        Check.feed(x, "k");
    }

    private static void undone(KeyTour x) {
        Check.load(x, Levels.HOUSE);
        x.keep(0);
        x.writeDoor(4);
        x.undo();
        x.append(MIN, MAX, -1, 0, 1);
    }

    // ---- What is refused

    private void refuse(String call, Class<? extends RuntimeException> due, Consumer<KeyTour> tried) {
        refused++;
        Check.fails(state + ": " + call, due, () -> {
            tried.accept(Look.made(way));
            return "nothing";
        });
        Check.same(state + ": a call that throws changes nothing, " + call, Look.whole(way.andThen(quietly(tried))), before);
    }

    private static Consumer<KeyTour> quietly(Consumer<KeyTour> tried) {
        return x -> {
            try {
                tried.accept(x);
            } catch (RuntimeException e) {
                // What was thrown is looked at elsewhere.
            }
        };
    }

    private static List<Integer> outside(int least, int most) {
        List<Integer> values = new ArrayList<>(List.of(least - 1, most + 1, MIN, MAX));
        if (least - 1 == KeyTour.NONE) values.add(-2);
        return values;
    }

    private void buffers() {
        KeyTour x = Look.made(way);
        int input = Look.inputLength(x);
        if (input > 480) refuse("append", NO_STATE, y -> y.append(1, 2, 3, 4, 5));
        for (int bad : outside(0, input)) refuse("truncate " + bad, NO_ARGUMENT, y -> y.truncate(bad));
        String output = Look.output(Look.made(way));
        int written = Integer.parseInt(output.substring(output.lastIndexOf(' ') + 1));
        for (int bad : outside(0, written - 1)) refuse("outputByte " + bad, NO_ELEMENT, y -> y.outputByte(bad));
        for (int bad : outside(0, length - 1)) refuse("walked " + bad, NO_ELEMENT, y -> y.walked(bad));
    }

    private void noRooms() {
        for (int bad : outside(0, rooms - 1)) {
            refuse("room " + bad, NO_INDEX, x -> x.room(bad, 0));
            refuse("room and what " + bad, NO_INDEX, x -> x.room(bad, 5));
            refuse("why " + bad, NO_INDEX, x -> x.why(bad));
            refuse("completionsBy " + bad, NO_INDEX, x -> x.completionsBy(bad));
            refuse("toursFrom " + bad, NO_INDEX, x -> x.toursFrom(bad));
            refuse("toursTo " + bad, NO_INDEX, x -> x.toursTo(bad));
            refuse("atPlace " + bad, NO_INDEX, x -> x.atPlace(bad, 0));
            refuse("atPlace and place " + bad, NO_INDEX, x -> x.atPlace(bad, rooms));
            refuse("share " + bad, NO_INDEX, x -> x.share(bad, 0));
            refuse("share and place " + bad, NO_INDEX, x -> x.share(bad, -1));
            refuse("go " + bad, NO_INDEX, x -> x.go(bad));
            refuse("setKey " + bad, NO_INDEX, x -> x.setKey(bad, 0, true));
            refuse("setKey and key " + bad, NO_INDEX, x -> x.setKey(bad, 8, false));
            refuse("setCoins " + bad, NO_INDEX, x -> x.setCoins(bad, 0));
            refuse("setCoins and coins " + bad, NO_INDEX, x -> x.setCoins(bad, 100));
            refuse("setStart " + bad, NO_INDEX, x -> x.setStart(bad));
            if (bad != KeyTour.NONE) refuse("setEnd " + bad, NO_INDEX, x -> x.setEnd(bad));
        }
        for (int bad : outside(0, rooms - 1)) {
            refuse("ahead " + bad, NO_INDEX, x -> x.ahead(bad, 0));
            refuse("ahead of " + bad, NO_INDEX, x -> x.ahead(0, bad));
            refuse("ahead twice " + bad, NO_INDEX, x -> x.ahead(bad, bad));
            refuse("behind " + bad, NO_INDEX, x -> x.behind(bad, 0));
            refuse("behind of " + bad, NO_INDEX, x -> x.behind(0, bad));
            refuse("behind twice " + bad, NO_INDEX, x -> x.behind(bad, bad));
            refuse("addDoor " + bad, NO_INDEX, x -> x.addDoor(bad, 0, true));
            refuse("addDoor to " + bad, NO_INDEX, x -> x.addDoor(0, bad, false));
            refuse("addDoor twice " + bad, NO_INDEX, x -> x.addDoor(bad, bad, false));
        }
    }

    private void noDoors() {
        for (int bad : outside(0, doors - 1)) {
            refuse("door " + bad, NO_INDEX, x -> x.door(bad, 0));
            refuse("door and what " + bad, NO_INDEX, x -> x.door(bad, 6));
            refuse("toursWithout " + bad, NO_INDEX, x -> x.toursWithout(bad));
            refuse("toursIfOpen " + bad, NO_INDEX, x -> x.toursIfOpen(bad));
            refuse("setLock " + bad, NO_INDEX, x -> x.setLock(bad, KeyTour.FREE, 0));
            refuse("setLock and kind " + bad, NO_INDEX, x -> x.setLock(bad, 3, 0));
            refuse("setLock and number " + bad, NO_INDEX, x -> x.setLock(bad, KeyTour.KEY, 8));
            refuse("removeDoor " + bad, NO_INDEX, x -> x.removeDoor(bad));
            refuse("writeDoor " + bad, NO_INDEX, x -> x.writeDoor(bad));
        }
    }

    private void noKeysAndSlots() {
        for (int bad : outside(0, 7)) {
            refuse("foundAt " + bad, NO_INDEX, x -> x.foundAt(bad));
            refuse("without " + bad, NO_INDEX, x -> x.without(bad));
            refuse("setKey of key " + bad, NO_INDEX, x -> x.setKey(rooms - 1, bad, true));
            refuse("setKey off key " + bad, NO_INDEX, x -> x.setKey(0, bad, false));
        }
        for (int bad : outside(0, 1)) {
            refuse("keep " + bad, NO_INDEX, x -> x.keep(bad));
            refuse("restore " + bad, NO_INDEX, x -> x.restore(bad));
        }
    }

    private void noArguments() {
        for (int bad : outside(0, 8)) refuse("property " + bad, NO_ARGUMENT, x -> x.property(bad));
        for (int bad : outside(0, 4)) refuse("room 0 " + bad, NO_ARGUMENT, x -> x.room(0, bad));
        for (int bad : outside(0, 99)) refuse("setCoins 0 " + bad, NO_ARGUMENT, x -> x.setCoins(0, bad));
        refuse("addDoor of the same", NO_ARGUMENT, x -> x.addDoor(0, 0, true));
        refuse("addDoor of the last same", NO_ARGUMENT, x -> x.addDoor(rooms - 1, rooms - 1, false));
        refuse("ahead of the same", NO_ARGUMENT, x -> x.ahead(0, 0));
        refuse("ahead of the last same", NO_ARGUMENT, x -> x.ahead(rooms - 1, rooms - 1));
        refuse("behind the same", NO_ARGUMENT, x -> x.behind(0, 0));
        refuse("behind the last same", NO_ARGUMENT, x -> x.behind(rooms - 1, rooms - 1));
        if (doors == 0) return;
        for (int bad : outside(0, 5)) refuse("door 0 " + bad, NO_ARGUMENT, x -> x.door(0, bad));
        for (int bad : outside(0, 2)) refuse("setLock 0 kind " + bad, NO_ARGUMENT, x -> x.setLock(0, bad, 0));
        int[] most = {0, 7, 999};
        for (int kind = 0; kind <= 2; kind++) {
            int locked = kind;
            for (int bad : outside(0, most[kind])) {
                refuse("setLock " + kind + " " + bad, NO_ARGUMENT, x -> x.setLock(doors - 1, locked, bad));
            }
        }
    }

    private void noPlaces() {
        for (int bad : outside(0, rooms - 1)) {
            refuse("atPlace 0 " + bad, NO_ARGUMENT, x -> x.atPlace(0, bad));
            refuse("share 0 " + bad, NO_ARGUMENT, x -> x.share(0, bad));
            refuse("tour 0 " + bad, NO_ARGUMENT, x -> x.tour(0, bad));
        }
    }

    private void noTours() {
        for (long bad : new long[] {-1, tours, tours + 1, tours + (1L << 32), Long.MIN_VALUE, Long.MAX_VALUE}) {
            refuse("tour " + bad, NO_ARGUMENT, x -> x.tour(bad, 0));
            refuse("tour and place " + bad, NO_ARGUMENT, x -> x.tour(bad, rooms));
            refuse("walk " + bad, NO_ARGUMENT, x -> x.walk(bad));
            refuse("writeTour " + bad, NO_ARGUMENT, x -> x.writeTour(bad));
        }
    }

    private void noMoves() {
        for (int room = 0; room < rooms; room++) {
            int closed = room;
            if (Look.made(way).why(room) != 0) refuse("go to " + room, NO_STATE, x -> x.go(closed));
        }
        for (int bad : outside(1, length - 1)) refuse("back " + bad, NO_ARGUMENT, x -> x.back(bad));
        if (Look.made(way).completions() == 0) refuse("complete", NO_STATE, KeyTour::complete);
    }

    private void noSuchState() {
        if (doors == 20) refuse("addDoor of a 21st door", NO_STATE, x -> x.addDoor(0, rooms - 1, false));
        if (Look.made(way).undoCount() == 0) refuse("undo", NO_STATE, KeyTour::undo);
        for (int slot = 0; slot < 2; slot++) {
            int empty = slot;
            if (Look.slot(Look.made(way), slot).equals("\nslot empty")) refuse("restore " + slot, NO_STATE, x -> x.restore(empty));
        }
    }

    // ---- What does not change anything

    private void questions() {
        unchanged("questions of the level", x -> {
            x.errorCode();
            x.errorPosition();
            x.undoCount();
            for (int what = 0; what < 9; what++) x.property(what);
            for (int what = 0; what < 5; what++) x.room(rooms - 1, what);
            for (int what = 0; what < 6 && doors > 0; what++) x.door(doors - 1, what);
            x.walked(length - 1);
            x.foundAt(7);
            x.why(0);
            x.exits();
        });
        unchanged("longestOn", KeyTour::longestOn);
        unchanged("starts", KeyTour::starts);
        unchanged("toursFrom", x -> x.toursFrom(rooms - 1));
        unchanged("without", x -> x.without(1));
        unchanged("neededKeys", KeyTour::neededKeys);
        unchanged("neededDoors", KeyTour::neededDoors);
        unchanged("bestDoor", KeyTour::bestDoor);
        if (doors > 0) unchanged("toursWithout", x -> x.toursWithout(0));
        if (doors > 0) unchanged("toursIfOpen", x -> x.toursIfOpen(doors - 1));
        unchanged("questions of tours", x -> {
            x.tours();
            x.completionsBy(rooms - 1);
            x.good();
            x.wrong();
            x.rank();
            x.longest();
            x.endings();
            x.toursTo(0);
            x.reachable();
            x.atPlace(0, rooms - 1);
            x.share(rooms - 1, 0);
            x.shown();
            x.leastCoins();
            x.rounds();
            if (rooms > 1) x.ahead(0, 1);
            if (rooms > 1) x.behind(1, 0);
            if (tours > 0) x.tour(tours - 1, rooms - 1);
        });
    }

    private void unchanged(String call, Consumer<KeyTour> asked) {
        Check.same(state + ": " + call + " does not change anything", Look.whole(way.andThen(asked)), before);
    }
}
