import java.lang.reflect.InvocationTargetException;
import java.lang.reflect.Method;
import java.util.ArrayList;
import java.util.Arrays;
import java.util.Comparator;
import java.util.List;

/** Puts long rows of calls to KeyTour and to Model, and compares each answer and each exception. */
public final class RandomRunsTest {
    private static final List<String> NOT_BY_CHANCE = List.of("append", "truncate", "load", "find");
    private static final List<String> DEAR =
            List.of("starts", "neededKeys", "neededDoors", "bestDoor", "good", "endings", "toursIfOpen", "toursWithout");
    // Too many of these leave no level that has tours, and no walk that has a length.
    private static final List<String> CHANGES =
            List.of("setStart", "setEnd", "setKey", "setLock", "removeDoor", "restore", "again", "addDoor");
    private static final List<Method> METHODS = methods();

    private final KeyTour tour = new KeyTour();
    private final Model model = new Model();
    private final Dice dice;
    private final int run;
    private int calls = 0;

    private RandomRunsTest(int run) {
        this.run = run;
        dice = new Dice(run);
    }

    public static void main(String[] args) throws Exception {
        Check.same("methods of the face", METHODS.size(), 56);
        for (int run = 0; run < 1500; run++) {
            new RandomRunsTest(run).play();
        }
        Check.end("RandomRunsTest");
    }

    private static List<Method> methods() {
        List<Method> methods = new ArrayList<>();
        for (Method method : KeyTour.class.getDeclaredMethods()) {
            boolean open = java.lang.reflect.Modifier.isPublic(method.getModifiers());
            if (open && !NOT_BY_CHANCE.contains(method.getName())) methods.add(method);
        }
        methods.sort(Comparator.comparing(Method::getName));
        return methods;
    }

    private void play() throws Exception {
        int rooms = 2 + (run % 10 == 0 ? 9 : dice.below(7));
        boolean large = rooms > 8;
        loadLevel(rooms, large ? 15 + dice.below(6) : dice.below(2 * rooms + 1));
        int most = large ? 120 : 500;
        while (calls < most) {
            if (dice.once(60)) loadLevel(rooms, dice.below(21));
            if (dice.once(40)) loadText(Texts.damaged(dice, Texts.level(dice, 1 + dice.below(4) + 1, dice.below(5))));
            if (dice.once(30)) findName();
            if (dice.once(5)) goOn();
            Method method = METHODS.get(dice.below(METHODS.size()));
            if (large && DEAR.contains(method.getName()) && !dice.once(8)) continue;
            if (CHANGES.contains(method.getName()) && !dice.once(4)) continue;
            call(method, arguments(method));
            if (method.getName().startsWith("write")) readOutput();
        }
    }

    private void goOn() throws Exception {
        int rooms = dice.once(2) && model.good() != 0 ? model.good() : model.exits();
        for (int room = 0; room < model.property(0); room++) {
            if ((rooms >> room & 1) == 0 || rooms >> room > 1 && dice.once(3)) continue;
            call(KeyTour.class.getMethod("go", int.class), new Object[] {room});
            return;
        }
    }

    private void readOutput() throws Exception {
        Method outputByte = KeyTour.class.getMethod("outputByte", int.class);
        for (int index = 0; index < 12; index++) {
            call(outputByte, new Object[] {dice.below(30)});
        }
    }

    private void loadLevel(int rooms, int doors) throws Exception {
        String text = Texts.level(dice, rooms, doors);
        while (text.length() > 500) {
            text = text.substring(0, text.lastIndexOf("door"));
        }
        loadText(text);
    }

    private void loadText(String text) throws Exception {
        if (calls > 470) return;
        feed(text);
        call(KeyTour.class.getMethod("load"), new Object[0]);
        call(KeyTour.class.getMethod("errorCode"), new Object[0]);
        call(KeyTour.class.getMethod("errorPosition"), new Object[0]);
    }

    private void findName() throws Exception {
        String[] names = {"", "a", "hall", "hall ", "Hall", "\0", "\0a", "cellar", "cellars", "bb", "zz"};
        feed(names[dice.below(names.length)]);
        call(KeyTour.class.getMethod("find"), new Object[0]);
    }

    private void feed(String text) throws Exception {
        Method append = KeyTour.class.getMethod("append", int.class, int.class, int.class, int.class, int.class);
        StringBuilder padded = new StringBuilder(text);
        while (padded.length() % 20 != 0) {
            padded.append((char) dice.below(256));
        }
        for (int at = 0; at < padded.length(); at += 20) {
            Object[] fours = new Object[5];
            for (int i = 0; i < 5; i++) {
                int four = 0;
                for (int j = 0; j < 4; j++) {
                    four = four << 8 | padded.charAt(at + 4 * i + j) & 255;
                }
                fours[i] = four;
            }
            call(append, fours);
        }
        call(KeyTour.class.getMethod("truncate", int.class), new Object[] {text.length()});
        if (dice.once(8)) call(KeyTour.class.getMethod("truncate", int.class), new Object[] {text.length() + 1});
        if (dice.once(8)) call(KeyTour.class.getMethod("truncate", int.class), new Object[] {-1});
    }

    private Object[] arguments(Method method) {
        Class<?>[] types = method.getParameterTypes();
        Object[] given = new Object[types.length];
        for (int i = 0; i < types.length; i++) {
            if (types[i] == boolean.class) given[i] = dice.once(2);
            else if (types[i] == long.class) given[i] = someRank();
            else given[i] = dice.once(40) ? odd() : usual(method.getName(), i, given);
        }
        return given;
    }

    private Object someRank() {
        long tours = model.tours();
        if (dice.once(20)) return dice.once(2) ? Long.MAX_VALUE : Long.MIN_VALUE;
        if (dice.once(12)) return dice.once(2) ? -1L : tours;
        return tours == 0 ? 0L : (long) dice.below((int) tours);
    }

    private Object odd() {
        int[] values = {-1, -2, Integer.MAX_VALUE, Integer.MIN_VALUE, 31, 32, 64, 11, 20, 8};
        return values[dice.below(values.length)];
    }

    private Object usual(String name, int i, Object[] given) {
        int rooms = model.property(0);
        int doors = model.property(1);
        boolean doorFirst = List.of("door", "toursWithout", "toursIfOpen", "setLock", "removeDoor", "writeDoor").contains(name);
        if (i == 0 && doorFirst) return dice.below(doors + 1);
        switch (name + i) {
            case "property0": return dice.below(10);
            case "room1": return dice.below(6);
            case "door1": return dice.below(7);
            case "walked0": return dice.below(model.property(4) + 1);
            case "back0": return dice.below(model.property(4) + 1);
            case "foundAt0", "without0", "setKey1": return dice.below(dice.once(2) ? 4 : 9);
            case "setCoins1": return dice.once(20) ? 99 + dice.below(2) : dice.below(9);
            case "setLock1": return dice.below(3);
            case "setLock2": return number(given[1].equals(1) ? 7 : given[1].equals(2) ? 999 : 0);
            case "keep0", "restore0": return dice.below(2);
            case "setEnd0": return dice.below(rooms + 1) - 1;
            case "outputByte0": return dice.below(40);
            default: return dice.once(30) ? rooms : dice.below(rooms);
        }
    }

    private int number(int greatest) {
        if (dice.once(10)) return greatest + dice.below(2);
        return dice.below(Math.min(greatest, 9) + 1);
    }

    private void call(Method method, Object[] given) throws Exception {
        calls++;
        Method same = Model.class.getMethod(method.getName(), method.getParameterTypes());
        Object due = answer(same, model, given);
        Object got = answer(method, tour, given);
        Check.same("run " + run + ", call " + calls + ": " + method.getName() + Arrays.toString(given), got, due);
    }

    private static Object answer(Method method, Object on, Object[] given) throws IllegalAccessException {
        try {
            Object answer = method.invoke(on, given);
            return answer == null ? "nothing" : answer;
        } catch (InvocationTargetException e) {
            return e.getCause().getClass();
        }
    }
}
