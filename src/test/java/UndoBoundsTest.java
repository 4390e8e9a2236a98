import java.util.function.Consumer;

/** The bounds of section 3, UNDO, and of promises 54 to 57: what can be undone and the two slots. */
public final class UndoBoundsTest {
    private static final int MIN = Integer.MIN_VALUE, MAX = Integer.MAX_VALUE;
    // The walk is hall, vault; slot 0 keeps it so.
    private static final Consumer<KeyTour> HALF_WAY = x -> {
        Check.load(x, Levels.HOUSE);
        x.go(1);
        x.keep(0);
    };
    // The walk is the tour of rank 0; slot 0 keeps it so.
    private static final Consumer<KeyTour> AT_THE_END = x -> {
        Check.load(x, Levels.HOUSE);
        x.walk(0);
        x.keep(0);
    };

    private record Step(String call, Consumer<KeyTour> made) {
    }

    private static final Step[] CHANGES = {
        new Step("load", x -> Check.load(x, Levels.STAR + "start b;end c;")),
        new Step("go", x -> x.go(2)),
        new Step("back", x -> x.back(1)),
        new Step("again", KeyTour::again),
        new Step("complete", KeyTour::complete),
        new Step("walk", x -> x.walk(1)),
        new Step("setKey", x -> x.setKey(3, 7, true)),
        new Step("setKey false", x -> x.setKey(0, 1, false)),
        new Step("setCoins", x -> x.setCoins(1, 6)),
        new Step("setLock", x -> x.setLock(0, KeyTour.TOLL, 999)),
        new Step("addDoor", x -> x.addDoor(3, 0, true)),
        new Step("removeDoor", x -> x.removeDoor(0)),
        new Step("setStart", x -> x.setStart(3)),
        new Step("setEnd", x -> x.setEnd(3)),
        new Step("restore", x -> {
            x.keep(1);
            x.restore(1);
        })};

    private static final Step[] NO_CHANGES = {
        new Step("again", x -> {
            x.again();
            x.again();
        }),
        new Step("complete", KeyTour::complete),
        new Step("walk", x -> x.walk(0)),
        new Step("setKey", x -> x.setKey(0, 1, true)),
        new Step("setKey false", x -> x.setKey(0, 0, false)),
        new Step("setCoins", x -> x.setCoins(1, 5)),
        new Step("setLock", x -> x.setLock(2, KeyTour.TOLL, 8)),
        new Step("setLock of a free one", x -> x.setLock(0, KeyTour.FREE, 0)),
        new Step("setStart", x -> x.setStart(0)),
        new Step("setEnd", x -> x.setEnd(KeyTour.NONE)),
        new Step("restore", x -> x.restore(0))};

    public static void main(String[] args) {
        eachChangeCanBeUndone();
        alsoIfNothingChanges();
        loadCanBeUndone();
        theLast6AreKept();
        undoCountFrom0To6();
        nothingToUndo();
        undoLeavesTheBuffers();
        undoLeavesTheParseError();
        undoLeavesTheSlots();
        undoRestoresAllElse();
        keepInEachSlot();
        keepReturnsTheRoomsOfTheWalk();
        keepTakesThePlaceOfWhatWasThere();
        restoreFromAnEmptySlot();
        theSlotKeepsIt();
        notWhatCanBeUndone();
        Check.end("UndoBoundsTest");
    }

    // ---- What can be undone

    private static void eachChangeCanBeUndone() {
        for (Step step : CHANGES) {
            KeyTour x = Look.made(HALF_WAY.andThen(step.made()));
            Check.is("57: one more after " + step.call(), x.undoCount(), 3);
            Check.is("56: undo of " + step.call(), x.undo(), 2);
            Check.same("56: undo of " + step.call(), Look.level(x), Look.level(Look.made(HALF_WAY)));
            KeyTour y = Look.made(HALF_WAY.andThen(step.made()));
            // Answers about tours before and behind: none may be that of the level that was undone.
            y.tours();
            y.undo();
            Check.same("56: answers after undo of " + step.call(), Look.answers(y), Look.answers(Look.made(HALF_WAY)));
        }
    }

    private static void alsoIfNothingChanges() {
        for (Step step : NO_CHANGES) {
            int more = step.call().equals("again") ? 2 : 1;
            KeyTour x = Look.made(AT_THE_END.andThen(step.made()));
            Check.is("57: one more, also if nothing changes, " + step.call(), x.undoCount(), 2 + more);
            if (more == 1) Check.same("57: nothing changes, " + step.call(), Look.level(x), Look.level(Look.made(AT_THE_END)));
            KeyTour y = Look.made(AT_THE_END.andThen(step.made()));
            Check.is("56: undo, also if nothing has changed, " + step.call(), y.undo(), 1 + more);
            Check.is("56: the next undo is that of the call ahead, " + step.call(), y.undo(), more);
            Check.is("56: its walk, " + step.call(), y.property(4), more == 1 ? 1 : 4);
        }
        KeyTour x = Check.level("room a;");
        Check.load(x, "room a;");
        Check.is("57: a load of the same text", x.undoCount(), 2);
    }

    private static void loadCanBeUndone() {
        KeyTour x = new KeyTour();
        Check.load(x, "room;");
        Check.is("57: a load with an error cannot be undone", x.undoCount(), 0);
        Check.load(x, Levels.HOUSE);
        Check.is("57: a successful load can be undone", x.undoCount(), 1);
        x.go(2);
        Check.load(x, "room b coins 5;room c;start c;end b;");
        Check.is("57: what could be undone ahead of a load still can", x.undoCount(), 3);
        Check.is("56: undo of a load", x.undo(), 2);
        Check.is("56: the level before", x.property(0), 4);
        Check.same("56: the walk before", Check.walk(x), "0 2");
        x.undo();
        Check.is("56: undo of the first load", x.undo(), 0);
        Check.same("56: the room without a name", Look.level(x), Look.level(new KeyTour()));
    }

    private static void theLast6AreKept() {
        for (int calls = 1; calls <= 14; calls++) {
            KeyTour x = new KeyTour();
            for (int coins = 1; coins <= calls; coins++) x.setCoins(0, coins);
            int kept = Math.min(6, calls);
            Check.is("57: of " + calls + " calls the last 6 are kept", x.undoCount(), kept);
            for (int less = 1; less <= kept; less++) {
                Check.is("56: how many can still be undone", x.undo(), kept - less);
                Check.is("56: the latest call", x.room(0, 1), calls - less);
            }
            Check.ise("56: no more than 6", x::undo);
            Check.is("56: it has changed nothing", x.room(0, 1), calls - kept);
        }
        // Also when undo and other calls take turns.
        KeyTour x = new KeyTour();
        for (int coins = 1; coins <= 40; coins++) {
            x.setCoins(0, coins);
            if (coins % 3 == 0) x.undo();
        }
        // Each third call was undone, so what stays are 40, 38, 37, 35, 34, 32 and 31.
        int[] due = {38, 37, 35, 34, 32, 31};
        Check.is("57: undo and other calls in turns", x.undoCount(), 6);
        for (int coins : due) {
            x.undo();
            Check.is("56: undo and other calls in turns", x.room(0, 1), coins);
        }
        Check.ise("56: undo and other calls in turns", x::undo);
        for (Step step : CHANGES) {
            Consumer<KeyTour> six = y -> {
                for (int coins = 1; coins <= 6; coins++) y.setCoins(3, coins);
            };
            KeyTour y = Look.made(HALF_WAY.andThen(six).andThen(step.made()));
            Check.is("57: still 6 after " + step.call(), y.undoCount(), 6);
            Check.is("56: then 5 after " + step.call(), y.undo(), 5);
            for (int i = 0; i < 5; i++) y.undo();
            Check.is("56: the oldest has gone, " + step.call(), y.room(3, 1), 1);
        }
    }

    private static void undoCountFrom0To6() {
        KeyTour x = new KeyTour();
        Check.is("57: of a new object", x.undoCount(), 0);
        for (int i = 1; i <= 8; i++) {
            x.again();
            Check.is("57: after " + i + " calls", x.undoCount(), Math.min(i, 6));
        }
        for (int i = 5; i >= 0; i--) {
            x.undo();
            Check.is("57: after undo", x.undoCount(), i);
        }
        Check.ise("56: nothing is left", x::undo);
        Check.is("57: after undo that was refused", x.undoCount(), 0);
        x.again();
        Check.is("57: from 0 again", x.undoCount(), 1);
        Check.is("56: undo itself cannot be undone", x.undo(), 0);
    }

    private static void nothingToUndo() {
        Check.ise("56: a new object", () -> new KeyTour().undo());
        KeyTour x = new KeyTour();
        Check.load(x, "");
        x.keep(0);
        x.writeWalk();
        x.tours();
        Check.ise("56: questions, keep and a load with an error leave nothing to undo", x::undo);
        KeyTour y = Check.level("room a;");
        y.undo();
        Check.ise("56: twice", y::undo);
        Check.ise("56: three times", y::undo);
    }

    // ---- What undo restores

    private static void undoLeavesTheBuffers() {
        KeyTour x = Check.level(Levels.HOUSE);
        x.writeTour(0);
        x.setEnd(2);
        x.writeDoor(2);
        Check.feed(x, "yard");
        x.undo();
        Check.same("56: the output stays", Check.output(x, 13), "attic>yard t8");
        Check.is("56: the input stays", Look.inputLength(x), 4);
        x.truncate(4);
        Check.is("56: the bytes of the input stay", x.find(), 3);
        KeyTour y = new KeyTour();
        for (int i = 0; i < 25; i++) y.append(0, 0, 0, 0, 0);
        y.again();
        y.undo();
        Check.ise("56: a full input stays full", () -> y.append(0, 0, 0, 0, 0));
        KeyTour z = Check.level(Levels.HOUSE);
        z.undo();
        Check.iae("56: the text of a load does not come back", () -> {
            z.truncate(1);
            return "nothing";
        });
    }

    private static void undoLeavesTheParseError() {
        KeyTour x = Check.level(Levels.HOUSE);
        x.go(1);
        Check.load(x, "room a key 8;");
        x.undo();
        Check.same("56: the parse error stays", Look.error(x), "\nerror 2 at 11");
        Check.load(x, "room a;");
        x.undo();
        Check.same("56: the parse error ahead of a load does not come back", Look.error(x), "\nerror 0 at -1");
    }

    private static void undoLeavesTheSlots() {
        KeyTour x = Check.level(Levels.HOUSE);
        x.go(1);
        x.keep(1);
        x.undo();
        x.undo();
        Check.ise("56: an empty slot stays empty", () -> x.restore(0));
        Check.is("56: a slot keeps what is undone", x.restore(1), 2);
        Check.same("56: a slot keeps what is undone", Check.walk(x), "0 1");
        x.undo();
        Check.is("56: undo of restore", x.property(0), 1);
        Check.is("56: the slot is still kept", x.restore(1), 2);
    }

    private static void undoRestoresAllElse() {
        Consumer<KeyTour> before = x -> {
            Check.load(x, Levels.FULL);
            x.setStart(3);
            x.setEnd(8);
            x.setLock(19, KeyTour.TOLL, 999);
            x.go(4);
        };
        Consumer<KeyTour> load = x -> Check.load(x, Levels.LONG_NAMES);
        KeyTour x = Look.made(before.andThen(load));
        x.undo();
        Check.same("56: undo restores the fullest level", Look.level(x), Look.level(Look.made(before)));
        KeyTour y = Look.made(before.andThen(load));
        y.undo();
        Check.same("56: undo restores its answers", Look.answers(y), Look.answers(Look.made(before)));
        KeyTour z = Look.made(before.andThen(KeyTour::again));
        z.undo();
        Check.same("56: undo restores the walk", Check.walk(z), "3 4");
    }

    // ---- 54, 55

    private static void keepInEachSlot() {
        for (int slot = 0; slot < 2; slot++) {
            int kept = slot;
            KeyTour x = Check.level(Levels.HOUSE);
            x.go(2);
            Check.is("54: keep in slot " + slot, x.keep(slot), 2);
            Check.is("54: keep cannot be undone", x.undoCount(), 2);
            Check.ise("55: the other slot is empty", () -> x.restore(1 - kept));
            x.again();
            Check.is("55: restore from slot " + slot, x.restore(slot), 2);
        }
        KeyTour x = new KeyTour();
        for (int slot : new int[] {-1, 2, 3, MIN, MAX}) {
            Check.ioobe("54: slot " + slot, () -> x.keep(slot));
            Check.ioobe("55: slot " + slot, () -> x.restore(slot));
        }
        Check.ise("54: a refused keep keeps nothing", () -> x.restore(0));
        Check.ise("54: a refused keep keeps nothing", () -> x.restore(1));
    }

    private static void keepReturnsTheRoomsOfTheWalk() {
        KeyTour x = Check.level(Levels.CHAIN);
        for (int length = 1; length <= 11; length++) {
            if (length > 1) x.go(length - 1);
            Check.is("54: the number of rooms of the walk", x.keep(length % 2), length);
        }
        Check.is("55: the number of rooms of the walk then", x.restore(0), 10);
        Check.is("55: the number of rooms of the walk then", x.restore(1), 11);
        KeyTour alone = new KeyTour();
        Check.is("54: the room alone", alone.keep(0), 1);
        Check.load(alone, Levels.HOUSE);
        Check.is("55: the room alone", alone.restore(0), 1);
        Check.same("55: the room without a name", Look.level(alone), Look.level(new KeyTour()));
    }

    private static void keepTakesThePlaceOfWhatWasThere() {
        for (int slot = 0; slot < 2; slot++) {
            KeyTour x = Check.level(Levels.FULL);
            x.keep(0);
            x.keep(1);
            Check.load(x, Levels.HOUSE);
            x.go(1);
            x.keep(slot);
            x.again();
            x.restore(slot);
            Check.same("54: in place of what was there", Check.walk(x), "0 1");
            Check.is("54: in place of what was there", x.property(1), 5);
            x.restore(1 - slot);
            Check.is("54: not in the other slot", x.property(0), 11);
        }
    }

    private static void restoreFromAnEmptySlot() {
        KeyTour x = Check.level(Levels.HOUSE);
        for (int slot = 0; slot < 2; slot++) {
            int empty = slot;
            Check.ise("55: nothing is kept in slot " + slot, () -> x.restore(empty));
        }
        Check.is("55: it has changed nothing", x.undoCount(), 1);
        Check.is("55: it has changed nothing", x.property(0), 4);
    }

    private static void theSlotKeepsIt() {
        KeyTour x = Look.made(HALF_WAY);
        String kept = "0 1";
        for (int time = 0; time < 3; time++) {
            x.setKey(0, 1, false);
            x.removeDoor(0);
            x.setCoins(3, 99);
            Check.is("55: the slot keeps it, " + time, x.restore(0), 2);
            Check.same("55: the slot keeps it, " + time, Check.walk(x), kept);
        }
        Check.same("55: everything as it was kept", Look.level(x), Look.level(Look.made(HALF_WAY)));
        KeyTour y = Look.made(HALF_WAY.andThen(z -> Check.load(z, Levels.FULL)).andThen(z -> z.restore(0)));
        Check.same("55: answers as they were", Look.answers(y), Look.answers(Look.made(HALF_WAY)));
        KeyTour buffers = Look.made(HALF_WAY);
        int length = buffers.writeDoor(0);
        Check.feed(buffers, "attic");
        buffers.restore(0);
        Check.same("55: not the output buffer", Check.output(buffers, length), "hall-vault");
        Check.is("55: not the input buffer", buffers.find(), 2);
        Check.load(buffers, "");
        buffers.restore(0);
        Check.same("55: not the parse error", Look.error(buffers), "\nerror 1 at 0");
    }

    private static void notWhatCanBeUndone() {
        KeyTour x = Look.made(HALF_WAY);
        x.again();
        Check.is("55: restore can itself be undone", x.undoCount(), 3);
        x.restore(0);
        Check.is("55: what can be undone is not kept", x.undoCount(), 4);
        x.undo();
        Check.same("56: undo of restore", Check.walk(x), "0");
        KeyTour y = new KeyTour();
        y.keep(0);
        for (int i = 0; i < 6; i++) y.again();
        y.restore(0);
        Check.is("55: 6 stay 6", y.undoCount(), 6);
        KeyTour z = Check.level("room a;");
        z.keep(0);
        z.undo();
        z.restore(0);
        Check.is("55: nor does it come back", z.undoCount(), 1);
    }
}
