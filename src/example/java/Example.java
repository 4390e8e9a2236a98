import java.nio.ByteBuffer;
import java.nio.charset.StandardCharsets;
import java.util.Arrays;

public final class Example {
    public static void main(String[] args) {
        KeyTour x = new KeyTour();
        put(x, "room hall key 1; room yard coins 5; room attic; room cellar coins 2;\n"
            + "door hall yard key 1; door yard attic toll 5; door attic cellar;\n"
            + "door hall cellar; door cellar yard oneway;");
        System.out.println(x.load() + " rooms, " + x.property(1) + " doors, " + x.tours() + " tours");
        for (long rank = 0; rank < x.tours(); rank++) {
            System.out.println("tour " + rank + ": " + output(x, x.writeTour(rank)));
        }
        System.out.println("door 1: " + output(x, x.writeDoor(1)));

        int yard = room(x, "yard"), attic = room(x, "attic"), cellar = room(x, "cellar");
        System.out.println("hall to attic: " + x.why(attic));
        System.out.println("tours by the cellar: " + x.go(cellar) + ", by the attic then: " + x.go(attic));
        System.out.println(output(x, x.writeWalk()) + " is wrong by " + x.wrong() + ", attic to yard: " + x.why(yard));
        x.undo();
        x.keep(0);
        System.out.println(x.complete() + " rooms more: " + output(x, x.writeWalk()) + " with rank " + x.rank());
        x.setCoins(yard, 2);
        System.out.println("with 2 coins in the yard: " + output(x, x.writeWalk()));
        x.restore(0);
        System.out.println("as it was kept: " + output(x, x.writeWalk()) + ", calls to undo: " + x.undoCount());

        try {
            x.go(4);
        } catch (IndexOutOfBoundsException e) {
            System.out.println("there is no room 4");
        }
        put(x, "room hall; room hall;");
        if (x.load() == KeyTour.PARSE_ERROR) {
            System.out.println("error " + x.errorCode() + " at byte " + x.errorPosition());
        }
    }

    /** Puts a text into the empty input buffer. */
    private static void put(KeyTour x, String text) {
        byte[] signs = text.getBytes(StandardCharsets.ISO_8859_1);
        ByteBuffer bytes = ByteBuffer.wrap(Arrays.copyOf(signs, (signs.length + 19) / 20 * 20));
        while (bytes.hasRemaining()) {
            x.append(bytes.getInt(), bytes.getInt(), bytes.getInt(), bytes.getInt(), bytes.getInt());
        }
        x.truncate(signs.length);
    }

    private static int room(KeyTour x, String name) {
        put(x, name);
        return x.find();
    }

    private static String output(KeyTour x, int length) {
        StringBuilder text = new StringBuilder();
        for (int index = 0; index < length; index++) {
            text.append((char) x.outputByte(index));
        }
        return text.toString();
    }
}
