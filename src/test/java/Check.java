/** What the tests share: comparing answers with those that are due, and putting a text into the input buffer. */
final class Check {
    interface Call {
        Object run();
    }

    private static int wrong = 0;

    private Check() {
    }

    static void same(String call, Object got, Object due) {
        if (got.equals(due)) return;
        wrong++;
        if (wrong <= 50) System.out.println(call + " answered " + got + ", due is " + due);
    }

    static void is(String call, long got, long due) {
        same(call, got, due);
    }

    static void fails(String call, Class<? extends RuntimeException> due, Call tried) {
        Object got;
        try {
            got = tried.run();
        } catch (RuntimeException e) {
            got = e.getClass();
        }
        same(call, got, due);
    }

    static void ioobe(String call, Call tried) {
        fails(call, IndexOutOfBoundsException.class, tried);
    }

    static void iae(String call, Call tried) {
        fails(call, IllegalArgumentException.class, tried);
    }

    static void ise(String call, Call tried) {
        fails(call, IllegalStateException.class, tried);
    }

    static void nsee(String call, Call tried) {
        fails(call, java.util.NoSuchElementException.class, tried);
    }

    /** Puts a text into the empty input buffer, each char as a byte. */
    static void feed(KeyTour x, String text) {
        for (int at = 0; at < text.length(); at += 20) {
            x.append(four(text, at), four(text, at + 4), four(text, at + 8), four(text, at + 12), four(text, at + 16));
        }
        x.truncate(text.length());
    }

    private static int four(String text, int at) {
        int value = 0;
        for (int i = at; i < at + 4; i++) {
            value = value << 8 | (i < text.length() ? text.charAt(i) & 255 : '#');
        }
        return value;
    }

    static int load(KeyTour x, String text) {
        feed(x, text);
        return x.load();
    }

    static KeyTour level(String text) {
        KeyTour x = new KeyTour();
        if (load(x, text) < 0) {
            same("load of " + text, "error " + x.errorCode() + " at " + x.errorPosition(), "no error");
        }
        return x;
    }

    static String output(KeyTour x, int length) {
        StringBuilder text = new StringBuilder();
        for (int i = 0; i < length; i++) {
            text.append((char) x.outputByte(i));
        }
        nsee("outputByte behind the output", () -> x.outputByte(length));
        return text.toString();
    }

    static String walk(KeyTour x) {
        StringBuilder rooms = new StringBuilder();
        for (int place = 0; place < x.property(4); place++) {
            rooms.append(place == 0 ? "" : " ").append(x.walked(place));
        }
        return rooms.toString();
    }

    static void end(String test) {
        System.out.println(test + ": " + (wrong == 0 ? "all answers are as due" : wrong + " answers are not as due"));
        if (wrong != 0) System.exit(1);
    }
}
