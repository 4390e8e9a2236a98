import java.util.NoSuchElementException;
import java.util.function.Consumer;

/**
 * Tells all that can be seen of an object as a text. Looking changes an object, so each part is looked at in a
 * new object that the same calls have brought there; so none of them has more than 512 calls.
 */
final class Look {
    private Look() {
    }

    static KeyTour made(Consumer<KeyTour> way) {
        KeyTour x = new KeyTour();
        way.accept(x);
        return x;
    }

    static String whole(Consumer<KeyTour> way) {
        return butInput(way) + error(made(way)) + input(way);
    }

    /** All but the input buffer and the parse error. */
    static String butInput(Consumer<KeyTour> way) {
        return answers(made(way)) + undos(way) + slot(made(way), 0) + slot(made(way), 1) + output(made(way));
    }

    /** The level and the walk as they are, and as they were ahead of each call that can be undone. */
    static String undos(Consumer<KeyTour> way) {
        int count = made(way).undoCount();
        StringBuilder text = new StringBuilder("\nundo " + count);
        for (int less = 0; less <= count; less++) {
            KeyTour x = made(way);
            for (int i = 0; i < less; i++) text.append(" ").append(x.undo());
            text.append(level(x));
        }
        return text.toString();
    }

    static String level(KeyTour x) {
        StringBuilder text = new StringBuilder("\nlevel");
        for (int what = 0; what < 9; what++) text.append(' ').append(x.property(what));
        text.append(", walk ").append(Check.walk(x));
        for (int room = 0; room < x.property(0); room++) {
            text.append(", room");
            for (int what = 0; what < 5; what++) text.append(' ').append(x.room(room, what));
        }
        for (int door = 0; door < x.property(1); door++) {
            text.append(", door");
            for (int what = 0; what < 6; what++) text.append(' ').append(x.door(door, what));
        }
        return text.append(names(x)).toString();
    }

    /** Only from the output can a name be read, so this leaves another start and another output. */
    private static String names(KeyTour x) {
        StringBuilder text = new StringBuilder(", names");
        for (int room = 0; room < x.property(0); room++) {
            x.setStart(room);
            text.append(' ').append(Check.output(x, x.writeWalk()));
        }
        return text.toString();
    }

    /** The cheap questions come first: they would show tables that are not those of the level. */
    static String answers(KeyTour x) {
        StringBuilder text = new StringBuilder("answers");
        long[] first = {x.tours(), x.completions(), x.good(), x.wrong(), x.rank(), x.endings(), x.leastCoins(), x.rounds(),
            x.longest(), x.exits(), x.reachable(), x.toursTo(x.property(0) - 1)};
        for (long answer : first) text.append(' ').append(answer);
        text.append(' ').append(x.shown());
        for (int key = 0; key < 8; key++) text.append(' ').append(x.foundAt(key));
        for (int room = 0; room < x.property(0); room++) {
            text.append(' ').append(x.why(room)).append(' ').append(x.completionsBy(room));
            text.append(' ').append(x.share(room, x.property(0) - 1));
        }
        long[] dear = {x.longestOn(), x.completions(), x.starts(), x.tours(), x.neededKeys(), x.good(), x.longestOn()};
        for (long answer : dear) text.append(' ').append(answer);
        return text.toString();
    }

    static String slot(KeyTour x, int slot) {
        try {
            x.restore(slot);
        } catch (IllegalStateException e) {
            return "\nslot empty";
        }
        return "\nslot" + level(x);
    }

    static String output(KeyTour x) {
        StringBuilder text = new StringBuilder("\noutput ");
        for (int index = 0; index < 500; index++) {
            try {
                text.append((char) x.outputByte(index));
            } catch (NoSuchElementException e) {
                return text.append(" of ").append(index).toString();
            }
        }
        return text.toString();
    }

    static String error(KeyTour x) {
        return "\nerror " + x.errorCode() + " at " + x.errorPosition();
    }

    /** Its length, and what its bytes are when they are read as a name and as a text. */
    static String input(Consumer<KeyTour> way) {
        KeyTour loaded = made(way);
        int answer = loaded.load();
        return "\ninput " + inputLength(made(way)) + " find " + made(way).find() + " load " + answer + error(loaded)
            + level(loaded);
    }

    static int inputLength(KeyTour x) {
        try {
            return x.append(0, 0, 0, 0, 0) - 20;
        } catch (IllegalStateException e) {
            return longInputLength(x);
        }
    }

    private static int longInputLength(KeyTour x) {
        for (int length = 500; length > 480; length--) {
            try {
                x.truncate(length);
                return length;
            } catch (IllegalArgumentException e) {
                // The buffer is not so long.
            }
        }
        return -1;
    }
}
