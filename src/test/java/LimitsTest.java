import java.lang.reflect.Constructor;
import java.lang.reflect.Executable;
import java.lang.reflect.Field;
import java.lang.reflect.Method;
import java.lang.reflect.Modifier;
import java.nio.file.Files;
import java.nio.file.Path;
import java.util.Arrays;
import java.util.TreeSet;

/** The largest levels, what the calls make, the face of the class, and what LANGUAGE.md says of its text. */
public final class LimitsTest {
    private static final String FACE =
        "int append(int int int int int) IllegalStateException;void truncate(int) IllegalArgumentException;int load();"
        + "int errorCode();int errorPosition();int find();int property(int) IllegalArgumentException;"
        + "int room(int int) IndexOutOfBoundsException IllegalArgumentException;"
        + "int door(int int) IndexOutOfBoundsException IllegalArgumentException;int walked(int) NoSuchElementException;"
        + "int foundAt(int) IndexOutOfBoundsException;int why(int) IndexOutOfBoundsException;int exits();long tours();"
        + "long completions();long completionsBy(int) IndexOutOfBoundsException;int good();int wrong();"
        + "int tour(long int) IllegalArgumentException;long rank();int longest();int longestOn();int endings();"
        + "int starts();long toursFrom(int) IndexOutOfBoundsException;long toursTo(int) IndexOutOfBoundsException;"
        + "int reachable();long without(int) IndexOutOfBoundsException;int neededKeys();"
        + "long toursWithout(int) IndexOutOfBoundsException;int neededDoors();"
        + "long toursIfOpen(int) IndexOutOfBoundsException;int bestDoor();"
        + "long ahead(int int) IndexOutOfBoundsException IllegalArgumentException;"
        + "long atPlace(int int) IndexOutOfBoundsException IllegalArgumentException;"
        + "long behind(int int) IndexOutOfBoundsException IllegalArgumentException;"
        + "double share(int int) IndexOutOfBoundsException IllegalArgumentException;float shown();int leastCoins();"
        + "long rounds();long go(int) IndexOutOfBoundsException IllegalStateException;"
        + "int back(int) IllegalArgumentException;int again();int complete() IllegalStateException;"
        + "int walk(long) IllegalArgumentException;boolean setKey(int int boolean) IndexOutOfBoundsException;"
        + "int setCoins(int int) IndexOutOfBoundsException IllegalArgumentException;"
        + "int setLock(int int int) IndexOutOfBoundsException IllegalArgumentException;"
        + "int addDoor(int int boolean) IndexOutOfBoundsException IllegalArgumentException IllegalStateException;"
        + "int removeDoor(int) IndexOutOfBoundsException;int setStart(int) IndexOutOfBoundsException;"
        + "int setEnd(int) IndexOutOfBoundsException;int keep(int) IndexOutOfBoundsException;"
        + "int restore(int) IndexOutOfBoundsException IllegalStateException;int undo() IllegalStateException;"
        + "int undoCount();int writeWalk();int writeTour(long) IllegalArgumentException;"
        + "int writeDoor(int) IndexOutOfBoundsException;int outputByte(int) NoSuchElementException;";
    // A wheel of ten rooms round one: 20 doors.
    private static final String WHEEL = "room a;room b;room c;room d;room e;room f;room g;room h;room i;room j;room k;"
        + "door a b;door a c;door a d;door a e;door a f;door a g;door a h;door a i;door a j;door a k;"
        + "door b c;door c d;door d e;door e f;door f g;door g h;door h i;door i j;door j k;door k b;";

    public static void main(String[] args) throws Exception {
        face();
        text();
        wheel();
        dense();
        heap();
        Check.end("LimitsTest");
    }

    private static void face() {
        StringBuilder face = new StringBuilder();
        TreeSet<String> open = new TreeSet<>();
        for (Method method : KeyTour.class.getDeclaredMethods()) {
            if (!Modifier.isPrivate(method.getModifiers())) open.add(signature(method));
        }
        Check.same("the methods of the face", open, new TreeSet<>(Arrays.asList(FACE.split(";"))));
        for (Field field : KeyTour.class.getDeclaredFields()) {
            if (!Modifier.isPrivate(field.getModifiers())) face.append(Modifier.toString(field.getModifiers())).append(' ')
                .append(field.getType()).append(' ').append(field.getName()).append(';');
            boolean fixed = Modifier.isFinal(field.getModifiers());
            Check.same("static and final: " + field.getName(), !Modifier.isStatic(field.getModifiers()) || fixed, true);
        }
        String constant = "public static final int ";
        Check.same("the constants of the face", face.toString(), constant + "NONE;" + constant + "PARSE_ERROR;" + constant
            + "FREE;" + constant + "KEY;" + constant + "TOLL;");
        Constructor<?>[] made = KeyTour.class.getDeclaredConstructors();
        Check.same("constructors", made.length, 1);
        Check.same("the constructor is public", Modifier.isPublic(made[0].getModifiers()), true);
        Check.same("the class is public and final", Modifier.toString(KeyTour.class.getModifiers()), "public final");
        TreeSet<String> names = new TreeSet<>();
        for (Method method : KeyTour.class.getDeclaredMethods()) {
            if (Modifier.isPublic(method.getModifiers())) names.add(method.getName());
        }
        for (Class<?> inside : KeyTour.class.getDeclaredClasses()) {
            Check.same("static: " + inside, Modifier.isStatic(inside.getModifiers()), true);
            for (Method method : inside.getDeclaredMethods()) {
                Check.same("a method inside with a name of the face: " + method, names.contains(method.getName()), false);
            }
        }
    }

    private static String signature(Method method) {
        StringBuilder text = new StringBuilder(method.getReturnType().toString());
        text.append(' ').append(method.getName()).append('(').append(types(method.getParameterTypes())).append(')');
        String thrown = types(((Executable) method).getExceptionTypes());
        return thrown.isEmpty() ? text.toString() : text.append(' ').append(thrown).toString();
    }

    private static String types(Class<?>[] types) {
        StringBuilder text = new StringBuilder();
        for (Class<?> type : types) text.append(text.length() == 0 ? "" : " ").append(type.getSimpleName());
        return text.toString();
    }

    private static void text() throws Exception {
        String source = Files.readString(Path.of("src/main/java/KeyTour.java"));
        for (String out : new String[] {"->", "::", "catch", "finally", "Exact", "synchronized", "assert", "static {",
            "package ", "protected ", "System.out", "System.nano", "System.current", "Random", "Thread"}) {
            boolean there = source.contains(out);
            Check.same("the text of the class has " + out, there, false);
        }
        int imports = source.split("\nimport ", -1).length - 1 + (source.startsWith("import ") ? 1 : 0);
        Check.same("imports", imports, 2);
        for (String line : source.split("\n")) {
            Check.same("no long line: " + line, line.length() <= 120, true);
        }
    }

    private static void wheel() {
        KeyTour x = Check.level(WHEEL);
        // From the hub to any room of the rim, then round in one of two ways.
        Check.same("tours of the wheel", x.tours(), 20L);
        // From b: the hub at one of ten places, then round the rest; a tour leaves the rim at most once.
        long from = 0;
        for (int room = 0; room < 11; room++) from += x.toursFrom(room);
        long to = 0;
        for (int room = 0; room < 11; room++) {
            x.setStart(room);
            to += x.tours();
        }
        Check.same("tours from all rooms", to, from);
        Check.same("rounds from the last start", x.rounds(), x.toursTo(0) + x.toursTo(1) + x.toursTo(9));
        Check.same("starts", x.starts(), 2047);
        Check.same("longest", x.longest(), 11);
        Check.same("complete", x.complete(), 10);
        Check.same("rank", x.rank(), 0L);
        x.walk(x.tours() - 1);
        Check.same("rank of the last tour", x.rank(), x.tours() - 1);
        Check.ise("a 21st door", () -> x.addDoor(0, 1, true));
    }

    /** Two rows of doors over each other give more tours than any other test here. */
    private static void dense() {
        KeyTour x = Check.level("room a;room b;room c;room d;room e;room f;room g;room h;room i;room j;room k;"
            + "door a b;door b c;door c d;door d e;door e f;door f g;door g h;door h i;door i j;door j k;"
            + "door a c;door b d;door c e;door d f;door e g;door f h;door g i;door h j;door i k;door k a;");
        long tours = x.tours();
        long sum = 0;
        for (int place = 0; place < 11; place++) {
            long atPlace = 0;
            for (int room = 0; room < 11; room++) atPlace += x.atPlace(room, place);
            Check.same("rooms at place " + place, atPlace, tours);
        }
        for (int room = 0; room < 11; room++) sum += x.toursTo(room);
        Check.same("tours by their ends", sum, tours);
        for (int room = 1; room < 11; room++) {
            Check.same("ahead or not", x.ahead(room, room - 1) + x.ahead(room - 1, room), tours);
        }
    }

    /** 512 of the dearest calls of one object stay far below the room that one run has. */
    private static void heap() {
        com.sun.management.ThreadMXBean threads =
            (com.sun.management.ThreadMXBean) java.lang.management.ManagementFactory.getThreadMXBean();
        long before = threads.getCurrentThreadAllocatedBytes();
        KeyTour x = new KeyTour();
        long made = threads.getCurrentThreadAllocatedBytes() - before;
        Check.same("bytes of an object below 1,000,000: " + made, made < 1_000_000, true);
        Check.load(x, WHEEL);
        before = threads.getCurrentThreadAllocatedBytes();
        for (int call = 0; call < 50; call++) {
            dear(x, call);
        }
        made = threads.getCurrentThreadAllocatedBytes() - before;
        Check.same("bytes of 600 calls below 5,000: " + made, made < 5_000, true);
        before = threads.getCurrentThreadAllocatedBytes();
        for (int call = 0; call < 512; call++) {
            x.load();
        }
        made = threads.getCurrentThreadAllocatedBytes() - before;
        Check.same("bytes of 512 loads below 60,000: " + made, made < 60_000, true);
    }

    private static void dear(KeyTour x, int call) {
        x.bestDoor();
        x.neededDoors();
        x.neededKeys();
        x.starts();
        x.setCoins(0, call);
        x.walk(call % 20);
        x.writeTour(0);
        x.keep(0);
        x.restore(0);
        x.undo();
        x.longestOn();
        x.behind(3, 4);
    }
}
