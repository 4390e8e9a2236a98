/** The bounds of promises 58 to 61: what is written, and the output buffer when it is empty and when it is full. */
public final class OutputBoundsTest {
    private static final int MIN = Integer.MIN_VALUE, MAX = Integer.MAX_VALUE;
    private static final String ALL_NAMES =
        "aaaaaa>bbbbbb>cccccc>dddddd>eeeeee>ffffff>gggggg>hhhhhh>iiiiii>jjjjjj>kkkkkk";

    public static void main(String[] args) {
        writeWalkOfEachLength();
        exclamationMarkIfNoTourBeginsWithIt();
        namesOf0To6Letters();
        writeTourOfEachRank();
        writeDoorOfEachKind();
        writeDoorOfEachNumber();
        writeDoorOfEachDoor();
        replacingItsContent();
        refusedWritesLeaveIt();
        outputByteFrom0ToTheLength();
        otherCallsLeaveIt();
        Check.end("OutputBoundsTest");
    }

    private static void writes(String sentence, KeyTour x, int length, String due) {
        Check.is(sentence + ", the length", length, due.length());
        Check.same(sentence, Check.output(x, length), due);
    }

    private static void writeWalkOfEachLength() {
        KeyTour x = Check.level(Levels.LONG_NAMES);
        for (int length = 1; length <= 11; length++) {
            if (length > 1) x.go(length - 1);
            writes("58: the names with > between them", x, x.writeWalk(), ALL_NAMES.substring(0, 7 * length - 1));
        }
        x.setEnd(0);
        writes("58: the longest output", x, x.writeWalk(), ALL_NAMES + "!");
        Check.is("58: the longest output", x.writeWalk(), 77);
        KeyTour turned = Check.level(Levels.LONG_NAMES + "start kkkkkk;");
        turned.go(9);
        writes("58: in the order of the walk", turned, turned.writeWalk(), "kkkkkk>jjjjjj");
    }

    private static void exclamationMarkIfNoTourBeginsWithIt() {
        KeyTour x = Check.level(Levels.STAR + "end e;");
        writes("58: a tour begins with the start", x, x.writeWalk(), "a");
        x.go(4);
        writes("58: no tour begins with it", x, x.writeWalk(), "a>e!");
        x.back(1);
        x.go(1);
        writes("58: a tour begins with it", x, x.writeWalk(), "a>b");
        x.walk(0);
        writes("58: it is a tour", x, x.writeWalk(), "a>b>c>d>e");
        x.setEnd(1);
        writes("58: a walk of all rooms, but no tour", x, x.writeWalk(), "a>b>c>d>e!");
        KeyTour stuck = Check.level(Levels.STUCK);
        writes("58: no tour at all", stuck, stuck.writeWalk(), "a!");
    }

    private static void namesOf0To6Letters() {
        KeyTour none = new KeyTour();
        writes("58: the room without a name", none, none.writeWalk(), "");
        writes("59: the room without a name", none, none.writeTour(0), "");
        for (int length = 1; length <= 6; length++) {
            String name = "zyxabc".substring(0, length);
            KeyTour x = Check.level("room " + name + ";room q;door " + name + " q;");
            writes("58: a name of " + length, x, x.writeWalk(), name);
            writes("59: a name of " + length, x, x.writeTour(0), name + ">q");
            writes("60: a name of " + length, x, x.writeDoor(0), name + "-q");
        }
    }

    private static void writeTourOfEachRank() {
        KeyTour x = Check.level(Levels.STAR);
        writes("59: rank 0", x, x.writeTour(0), "a>b>c>d>e");
        writes("59: the last rank", x, x.writeTour(23), "a>e>d>c>b");
        for (long rank : new long[] {-1, 24, 25, 1L << 32, Long.MIN_VALUE, Long.MAX_VALUE}) {
            Check.iae("59: rank " + rank, () -> x.writeTour(rank));
        }
        Check.same("59: it has changed nothing", Check.output(x, 9), "a>e>d>c>b");
        Check.same("59: the walk stays", Check.walk(x), "0");
        Check.is("59: nothing to undo", x.undoCount(), 1);
        KeyTour turned = Check.level(Levels.STAR + "start e;");
        writes("59: rank 0 from the last room", turned, turned.writeTour(0), "e>a>b>c>d");
        writes("59: the last rank from the last room", turned, turned.writeTour(23), "e>d>c>b>a");
        KeyTour y = Check.level(Levels.LONG_NAMES);
        writes("59: the longest one", y, y.writeTour(0), ALL_NAMES);
        y.setStart(1);
        Check.iae("59: no tours", () -> y.writeTour(0));
        KeyTour wrong = Check.level(Levels.STAR + "end e;");
        wrong.go(4);
        writes("59: no exclamation mark", wrong, wrong.writeTour(0), "a>b>c>d>e");
        Check.iae("59: one tour alone", () -> new KeyTour().writeTour(1));
    }

    private static void writeDoorOfEachKind() {
        KeyTour x = Check.level("room a;room bb;door a bb;door bb a oneway;door a bb key 0;door bb a key 7 oneway;"
            + "door a bb toll 0;door bb a toll 999 oneway;");
        String[] due = {"a-bb", "bb>a", "a-bb k0", "bb>a k7", "a-bb t0", "bb>a t999"};
        for (int door = 0; door < 6; door++) writes("60: door " + door, x, x.writeDoor(door), due[door]);
        x.setLock(5, KeyTour.FREE, 0);
        writes("60: nothing behind a free one", x, x.writeDoor(5), "bb>a");
        KeyTour y = Check.level(Levels.LONG_NAMES);
        y.addDoor(10, 0, true);
        y.setLock(10, KeyTour.TOLL, 999);
        writes("60: the longest one", y, y.writeDoor(10), "kkkkkk>aaaaaa t999");
    }

    private static void writeDoorOfEachNumber() {
        KeyTour x = Check.level("room a;room b;door a b;");
        for (int key = 0; key <= 7; key++) {
            x.setLock(0, KeyTour.KEY, key);
            writes("60: key " + key, x, x.writeDoor(0), "a-b k" + key);
        }
        for (int toll : new int[] {0, 1, 9, 10, 11, 19, 20, 90, 99, 100, 101, 109, 110, 200, 909, 990, 998, 999}) {
            x.setLock(0, KeyTour.TOLL, toll);
            writes("60: toll " + toll, x, x.writeDoor(0), "a-b t" + toll);
        }
    }

    private static void writeDoorOfEachDoor() {
        KeyTour x = Check.level(Levels.WHEEL);
        for (int door = 0; door < 20; door++) {
            String due = door < 10 ? "a-" + (char) ('b' + door)
                : door < 19 ? (char) ('b' + door - 10) + "-" + (char) ('c' + door - 10) : "k-b";
            writes("60: door " + door, x, x.writeDoor(door), due);
        }
        for (int door : new int[] {-1, 20, 21, MIN, MAX}) Check.ioobe("60: door " + door, () -> x.writeDoor(door));
        writes("60: it has changed nothing", x, 3, "k-b");
        Check.ioobe("60: without doors", () -> new KeyTour().writeDoor(0));
        KeyTour one = Check.level("room a;room b;door a b;");
        Check.ioobe("60: behind the only door", () -> one.writeDoor(1));
    }

    private static void replacingItsContent() {
        KeyTour x = Check.level(Levels.LONG_NAMES);
        x.complete();
        x.setEnd(0);
        writes("58: the longest", x, x.writeWalk(), ALL_NAMES + "!");
        writes("60: a shorter one in its place", x, x.writeDoor(0), "aaaaaa-bbbbbb");
        x.setEnd(KeyTour.NONE);
        writes("59: a longer one in its place", x, x.writeTour(0), ALL_NAMES);
        x.again();
        writes("58: a shorter one in its place", x, x.writeWalk(), "aaaaaa");
        KeyTour none = new KeyTour();
        none.keep(0);
        Check.load(none, Levels.LONG_NAMES);
        none.writeTour(0);
        none.restore(0);
        writes("58: an empty one in its place", none, none.writeWalk(), "");
    }

    private static void refusedWritesLeaveIt() {
        KeyTour x = Check.level(Levels.STAR + "end a;");
        x.writeDoor(9);
        Check.iae("59: no tours", () -> x.writeTour(0));
        Check.ioobe("60: no such door", () -> x.writeDoor(10));
        writes("59: a refused call leaves the output", x, 3, "d-e");
        KeyTour empty = new KeyTour();
        Check.iae("59: no such rank", () -> empty.writeTour(1));
        Check.ioobe("60: no such door", () -> empty.writeDoor(0));
        writes("59: a refused call leaves the output empty", empty, 0, "");
    }

    private static void outputByteFrom0ToTheLength() {
        KeyTour x = Check.level(Levels.LONG_NAMES + "end aaaaaa;");
        for (int room = 1; room < 11; room++) x.go(room);
        String due = ALL_NAMES + "!";
        x.writeWalk();
        for (int index = 0; index < 77; index++) Check.is("61: index " + index, x.outputByte(index), due.charAt(index));
        for (int index : new int[] {-1, 77, 78, 500, MIN, MAX}) Check.nsee("61: index " + index, () -> x.outputByte(index));
        x.writeDoor(0);
        Check.is("61: the last one of a shorter output", x.outputByte(12), 'b');
        Check.nsee("61: behind a shorter output", () -> x.outputByte(13));
        Check.nsee("61: the end of the longer output", () -> x.outputByte(76));
        KeyTour empty = new KeyTour();
        for (int index : new int[] {-1, 0, 1, MIN, MAX}) Check.nsee("61: empty, " + index, () -> empty.outputByte(index));
        empty.writeWalk();
        Check.nsee("61: nothing was written", () -> empty.outputByte(0));
    }

    private static void otherCallsLeaveIt() {
        KeyTour x = Check.level(Levels.HOUSE);
        x.writeDoor(1);
        Check.load(x, Levels.STAR);
        Check.load(x, "room;");
        x.keep(0);
        x.restore(0);
        x.walk(3);
        x.tour(5, 2);
        x.removeDoor(0);
        Check.feed(x, "b");
        x.find();
        x.undo();
        writes("61: other calls leave the output", x, 14, "vault-attic k1");
    }
}
