/** Texts of the levels that several tests use: common ones, the smallest and the fullest. */
final class Levels {
    /** hall 0, vault 1, attic 2, yard 3; the tours are 0 1 2 3 and 0 2 1 3. */
    static final String HOUSE = "room hall key 1;room vault coins 5;room attic key 2 coins 3;room yard;"
        + "door hall vault;door vault attic key 1;door attic yard toll 8 oneway;door vault yard key 2;door hall attic;";
    /** A door between any two of five rooms: each order of the four behind the start is a tour. */
    static final String STAR = "room a;room b;room c;room d;room e;door a b;door a c;door a d;door a e;"
        + "door b c;door b d;door b e;door c d;door c e;door d e;";
    static final String LINE = "room a;room b;room c;room d;door a b;door b c;door c d;";
    /** No tours: the way into c is closed by a key that lies behind it, and d is apart. */
    static final String STUCK = "room a coins 9;room b;room c key 3;room d;door a b;door b c key 3;";
    static final String ROOMS_11 = "room a;room b;room c;room d;room e;room f;room g;room h;room i;room j;room k;";
    /** Ten rooms behind one another: one tour from either end. */
    static final String CHAIN_DOORS = "door a b;door b c;door c d;door d e;door e f;door f g;door g h;door h i;door i j;"
        + "door j k;";
    static final String CHAIN = ROOMS_11 + CHAIN_DOORS;
    /** A hub and a rim of ten rooms, 20 doors: from a to any room of the rim and round it in two ways, 20 tours. */
    static final String WHEEL = ROOMS_11 + "door a b;door a c;door a d;door a e;door a f;door a g;door a h;door a i;"
        + "door a j;door a k;door b c;door c d;door d e;door e f;door f g;door g h;door h i;door i j;door j k;door k b;";
    /** As much as a text can hold: 11 rooms, 20 doors, 99 coins in each room, all keys in seven rooms; 496 bytes. */
    static final String FULL = everything("abcdefg") + fewer("hijk") + CHAIN_DOORS
        + "door a c;door b d;door c e;door d f;door e g;door f h;door g i;door h j;door i k;door k a;";
    /** Names of six letters; 322 bytes. */
    static final String LONG_NAMES = longNames();

    private Levels() {
    }

    private static String everything(String names) {
        StringBuilder text = new StringBuilder();
        for (char name : names.toCharArray()) text.append("room " + name + " key 0,1,2,3,4,5,6,7 coins 99;");
        return text.toString();
    }

    private static String fewer(String names) {
        StringBuilder text = new StringBuilder();
        for (char name : names.toCharArray()) text.append("room " + name + " coins 99;");
        return text.toString();
    }

    private static String longNames() {
        StringBuilder rooms = new StringBuilder();
        StringBuilder doors = new StringBuilder();
        for (char name = 'a'; name <= 'k'; name++) {
            rooms.append("room " + six(name) + ";");
            if (name > 'a') doors.append("door " + six((char) (name - 1)) + " " + six(name) + ";");
        }
        return rooms.toString() + doors;
    }

    private static String six(char name) {
        return String.valueOf(name).repeat(6);
    }
}
