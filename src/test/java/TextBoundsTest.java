import java.util.function.Consumer;

/** The bounds that section 1, INPUT, and promises 2 to 7 name: each sentence by itself, on both sides of it. */
public final class TextBoundsTest {
    private static final int MIN = Integer.MIN_VALUE, MAX = Integer.MAX_VALUE;
    private static final String[] KEYWORDS = {"room", "key", "coins", "door", "toll", "oneway", "start", "end"};

    public static void main(String[] args) {
        inputHolds500Bytes();
        appendTakesBytesInTheirOrder();
        truncateFrom0ToTheLength();
        oneOrMoreStatements();
        eachStatementEndsWithSemicolon();
        wordsAreRunsOfLetters();
        numbersOfAnyLength();
        eachOtherByteIsASymbol();
        spacesAndNewlinesOnlySeparate();
        namesOf1To6Letters();
        namesAreNoKeywords();
        keys0To7();
        coins0To99();
        atMost11Rooms();
        doorKeys0To7AndTolls0To999();
        atMost20Doors();
        startAtMostOnce();
        endAtMostOnce();
        orderOfTheParts();
        numberedFrom0();
        stopsAtTheFirstError();
        theSmallestCodeCounts();
        theErrorPosition();
        eachCode();
        loadEmptiesTheBuffer();
        loadTakesAllFromTheText();
        loadWithAnErrorChangesNothingElse();
        theParseErrorIsThatOfTheLastLoad();
        findTakesTheWholeContent();
        findEmptiesTheBuffer();
        Check.end("TextBoundsTest");
    }

    private static KeyTour good(String sentence, String text, int rooms) {
        KeyTour x = new KeyTour();
        Check.is(sentence + ": load of " + text, Check.load(x, text), rooms);
        Check.same(sentence + ": after " + text, Look.error(x), "\nerror 0 at -1");
        return x;
    }

    private static void bad(String sentence, String text, int code, int position) {
        KeyTour x = new KeyTour();
        Check.is(sentence + ": load of " + text, Check.load(x, text), KeyTour.PARSE_ERROR);
        Check.same(sentence + ": after " + text, Look.error(x), "\nerror " + code + " at " + position);
    }

    private static Object cut(KeyTour x, int length) {
        x.truncate(length);
        return "nothing";
    }

    private static KeyTour filled(int length) {
        KeyTour x = new KeyTour();
        for (int i = 0; i < 25 && 20 * i < length; i++) x.append(0x61616161, 0, -1, MIN, MAX);
        x.truncate(length);
        return x;
    }

    // ---- The buffer

    private static void inputHolds500Bytes() {
        String sentence = "2: the input buffer holds at most 500 bytes";
        for (int length = 0; length <= 500; length++) {
            KeyTour x = filled(length);
            if (length <= 480) Check.is(sentence + ", from " + length, x.append(0, 0, 0, 0, 0), length + 20);
            else Check.ise(sentence + ", from " + length, () -> x.append(0, 0, 0, 0, 0));
            int now = length <= 480 ? length + 20 : length;
            Check.iae(sentence + ", no more than " + now, () -> cut(x, now + 1));
            x.truncate(now);
        }
        good(sentence + ", the last byte counts", "room a" + " ".repeat(493) + ";", 1);
        bad(sentence + ", the last byte counts", "room a;" + " ".repeat(492) + ",", 1, 499);
        KeyTour full = new KeyTour();
        Check.feed(full, "room a" + " ".repeat(493) + ";");
        Check.ise(sentence + ", when full", () -> full.append(0, 0, 0, 0, 0));
        Check.is("2: a refused append changes nothing", full.load(), 1);
        Check.is("2: append when it is empty again", full.append(0, 0, 0, 0, 0), 20);
    }

    private static void appendTakesBytesInTheirOrder() {
        for (int at = 0; at < 20; at++) {
            for (int sign : new int[] {0, ';', 127, 128, 160, 138, 225, 255}) {
                int[] fours = {0x20202020, 0x20202020, 0x20202020, 0x20202020, 0x20202020};
                int shift = 24 - 8 * (at % 4);
                fours[at / 4] = fours[at / 4] & ~(255 << shift) | sign << shift;
                KeyTour x = new KeyTour();
                x.append(fours[0], fours[1], fours[2], fours[3], fours[4]);
                x.load();
                Check.same("2: byte " + sign + " at " + at, Look.error(x), "\nerror 1 at " + at);
            }
        }
        KeyTour x = new KeyTour();
        x.append(0x726f6f6d, 0x20616263, 0x6465663b, 0x726f6f6d, 0x20676869);
        Check.is("2: append to what is there", x.append(0x6a6b6c3b, 0x20202020, 0x20202020, 0x20202020, 0x20202020), 40);
        Check.is("2: append to what is there, load", x.load(), 2);
        Check.feed(x, "ghijkl");
        Check.is("2: append to what is there, find", x.find(), 1);
    }

    private static void truncateFrom0ToTheLength() {
        for (int length : new int[] {0, 1, 19, 20, 21, 480, 499, 500}) {
            for (int to : new int[] {0, 1, length / 2, length - 1, length}) {
                if (to < 0 || to > length) continue;
                KeyTour x = filled(length);
                x.truncate(to);
                Check.is("3: truncate from " + length + " to " + to, Look.inputLength(x), to);
            }
            for (int to : new int[] {-1, length + 1, 501, MIN, MAX}) {
                KeyTour x = filled(length);
                Check.iae("3: truncate from " + length + " to " + to, () -> cut(x, to));
                Check.is("3: it has changed nothing", Look.inputLength(x), length);
            }
        }
        KeyTour x = Check.level(Levels.HOUSE);
        Check.iae("3: truncate behind load", () -> cut(x, 1));
        Check.feed(x, "yards");
        x.truncate(4);
        Check.iae("3: what was cut does not come back", () -> cut(x, 5));
        Check.is("3: the first bytes stay", x.find(), 3);
        Check.iae("3: truncate behind find", () -> cut(x, 1));
        x.truncate(0);
        Check.is("3: nothing to undo", x.undoCount(), 1);
    }

    // ---- Tokens

    private static void oneOrMoreStatements() {
        String sentence = "4: a text of one or more statements";
        bad(sentence, "", 1, 0);
        bad(sentence, "\n", 1, 1);
        bad(sentence, " ".repeat(500), 1, 500);
        good(sentence, "room a;", 1);
        good(sentence, "room a;room b;", 2);
        String most = Levels.ROOMS_11 + "door a b;".repeat(20) + "start k;end a;";
        KeyTour x = good(sentence, most, 11);
        Check.is(sentence + ", doors", x.property(1), 20);
        Check.is(sentence + ", start", x.property(2), 10);
        Check.is(sentence + ", end", x.property(3), 0);
        bad(sentence, most + ";", 1, most.length());
        Check.is("4: the fullest text has 496 bytes", Levels.FULL.length(), 496);
        good(sentence, Levels.FULL, 11);
    }

    private static void eachStatementEndsWithSemicolon() {
        String rooms = "room a;room b;";
        for (String statement : new String[] {"room c", "room c key 1", "room c coins 1", "room c key 1,2 coins 0",
            "door a b", "door a b key 1", "door a b toll 1", "door a b oneway", "door a b key 1 oneway", "start a", "end a"}) {
            String sentence = "4: each statement ends with ';'";
            String text = rooms + statement;
            good(sentence, text + ";", statement.startsWith("room") ? 3 : 2);
            bad(sentence, text, 1, text.length());
            bad(sentence, text + " ", 1, text.length() + 1);
            bad(sentence, text + ":", 1, text.length());
            bad(sentence, text + ";;", 1, text.length() + 1);
            bad(sentence, text + " room d;", 1, text.length() + 1);
        }
    }

    private static void wordsAreRunsOfLetters() {
        String sentence = "4: a word is a maximal run of lowercase letters a-z";
        for (char letter = 'a'; letter <= 'z'; letter++) {
            good(sentence, "room " + letter + ";", 1);
            good(sentence, "room m" + letter + ";", 1);
        }
        for (char other : new char[] {'`', '{', '@', '[', 'A', 'Z', '_', 'a' + 128, 'z' - 64}) {
            bad(sentence, "room " + other + ";", 1, 5);
            bad(sentence, "room a" + other + ";", 1, 6);
            bad(sentence, "room " + other + "a;", 1, 5);
        }
        bad(sentence, "rooma;", 1, 0);
        bad(sentence, "roo m a;", 1, 0);
        bad(sentence, "room a;roomb;", 1, 7);
        good(sentence, "room akey;", 1);
        bad(sentence, "room akey 1;", 1, 10);
    }

    private static void numbersOfAnyLength() {
        String sentence = "4: a number is a maximal run of decimal digits, of any length";
        for (int digit = 0; digit <= 9; digit++) {
            KeyTour x = good(sentence, "room a coins " + digit + ";", 1);
            Check.is(sentence, x.room(0, 1), digit);
        }
        for (char other : new char[] {'/', ':', '-', '+', '.', '0' + 128}) {
            bad(sentence, "room a coins " + other + ";", 1, 13);
            bad(sentence, "room a coins 9" + other + ";", 1, 14);
            bad(sentence, "room a coins " + other + "9;", 1, 13);
        }
        KeyTour x = good(sentence, "room a coins " + "0".repeat(484) + "99;", 1);
        Check.is(sentence + ", the longest one", x.room(0, 1), 99);
        good(sentence, "room a coins " + "0".repeat(486) + ";", 1);
        bad(sentence, "room a coins " + "0".repeat(483) + "100;", 2, 13);
        bad(sentence, "room a coins " + "9".repeat(486) + ";", 2, 13);
        bad(sentence, "room a coins 1" + "0".repeat(485) + ";", 2, 13);
        // A value that an int or a long would wrap round to a small one.
        java.math.BigInteger two = java.math.BigInteger.TWO;
        for (int bits : new int[] {8, 16, 31, 32, 33, 63, 64, 65, 128}) {
            for (int more : new int[] {0, 5, 7}) {
                String number = two.pow(bits).add(java.math.BigInteger.valueOf(more)).toString();
                bad(sentence, "room a key " + number + ";", 2, 11);
                bad(sentence, "room a coins " + number + ";", 2, 13);
                if (bits > 8) bad(sentence, "room a;room b;door a b toll " + number + ";", 2, 28);
            }
        }
    }

    private static void eachOtherByteIsASymbol() {
        for (int sign = 0; sign < 256; sign++) {
            boolean letter = sign >= 'a' && sign <= 'z';
            boolean blank = sign == ' ' || sign == '\n';
            String sentence = "4: each other byte is a symbol of its own, " + sign;
            String behind = "room a" + (char) sign + ";";
            if (letter || blank) good(sentence, behind, 1);
            else bad(sentence, behind, 1, sign == ';' ? 7 : 6);
            String between = "room" + (char) sign + "a;";
            if (blank) good(sentence, between, 1);
            else bad(sentence, between, 1, letter ? 0 : 4);
            String twice = "room a;" + (char) sign + (char) sign;
            if (blank) good(sentence, twice, 1);
            else bad(sentence, twice, 1, 7);
        }
        bad("4: a symbol of its own", "room a key 1,,2;", 1, 13);
        bad("4: a symbol of its own", "room a;;room b;", 1, 7);
    }

    private static void spacesAndNewlinesOnlySeparate() {
        String sentence = "4: spaces and newlines only separate tokens";
        KeyTour x = good(sentence, "room a key0,7coins99;room b;door a b toll999oneway;", 2);
        Check.is(sentence + ", keys", x.room(0, 0), 129);
        Check.is(sentence + ", coins", x.room(0, 1), 99);
        Check.is(sentence + ", toll", x.door(0, 3), 999);
        Check.is(sentence + ", oneway", x.door(0, 4), 1);
        good(sentence, "\n \n room\n\n a  \n key \n 0 \n , \n 7 \n coins \n 99 \n ; \n ", 1);
        bad(sentence, "ro om a;", 1, 0);
        bad(sentence, "room a b;", 1, 7);
        bad(sentence, "room a coins 1 0;", 1, 15);
        bad(sentence, "room a coins 1\n0;", 1, 15);
        bad(sentence, "room a key 1 2;", 1, 13);
        good(sentence, " ".repeat(493) + "room a;", 1);
        good(sentence, "room a;" + "\n".repeat(493), 1);
    }

    private static void namesOf1To6Letters() {
        String sentence = "4: a name is a word of 1 to 6 letters";
        for (int length = 1; length <= 14; length++) {
            String name = "z".repeat(length);
            if (length <= 6) good(sentence, "room " + name + ";", 1);
            else bad(sentence, "room " + name + ";", 1, 5);
            String told = "room z;room zzzzzz;door z " + name + ";";
            if (length > 6) bad(sentence, told, 1, 26);
            if (length == 6) good(sentence, told, 2);
            if (length > 6) bad(sentence, "room z;start " + name + ";", 1, 13);
            if (length > 6) bad(sentence, "room z;end " + name + ";", 1, 11);
        }
        bad(sentence, "room ;", 1, 5);
        bad(sentence, "room " + "a".repeat(494) + ";", 1, 5);
        // Names that are alike but for the first or the last of six letters.
        KeyTour x = good(sentence, "room abcdef;room zbcdef;room abcdez;room abcde;room bcdef;", 5);
        String[] names = {"abcdef", "zbcdef", "abcdez", "abcde", "bcdef"};
        for (int room = 0; room < names.length; room++) {
            Check.feed(x, names[room]);
            Check.is(sentence + ", find of " + names[room], x.find(), room);
        }
    }

    private static void namesAreNoKeywords() {
        String sentence = "4: a name is a word that is not a keyword";
        for (String keyword : KEYWORDS) {
            bad(sentence, "room " + keyword + ";", 1, 5);
            bad(sentence, "room a;door " + keyword + " a;", 1, 12);
            bad(sentence, "room a;door a " + keyword + ";", 1, 14);
            bad(sentence, "room a;start " + keyword + ";", 1, 13);
            bad(sentence, "room a;end " + keyword + ";", 1, 11);
            good(sentence, "room " + keyword.substring(1) + ";", 1);
            good(sentence, "room " + keyword.substring(0, keyword.length() - 1) + ";", 1);
            if (keyword.length() < 6) good(sentence, "room " + keyword + "s;start " + keyword + "s;", 1);
            if (keyword.length() < 6) good(sentence, "room x" + keyword + ";end x" + keyword + ";", 1);
            bad(sentence, keyword.toUpperCase(java.util.Locale.ROOT) + " a;", 1, 0);
            bad(sentence, "aaaa" + keyword + " a;", 1, 0);
        }
    }

    // ---- The statements

    private static void keys0To7() {
        String sentence = "4: the keys, 0 to 7, that lie in a room";
        for (int key = 0; key <= 7; key++) {
            Check.is(sentence, good(sentence, "room a key " + key + ";", 1).room(0, 0), 1 << key);
        }
        for (String key : new String[] {"8", "9", "10", "17", "70", "99"}) {
            bad(sentence, "room a key " + key + ";", 2, 11);
            bad(sentence, "room a key 7," + key + ";", 2, 13);
        }
        bad(sentence, "room a key -1;", 1, 11);
        Check.is(sentence + ", none", good(sentence, "room a;", 1).room(0, 0), 0);
        Check.is(sentence + ", all", good(sentence, "room a key 0,1,2,3,4,5,6,7;", 1).room(0, 0), 255);
        Check.is(sentence + ", all", good(sentence, "room a key 7,6,5,4,3,2,1,0;", 1).room(0, 0), 255);
        Check.is(sentence + ", other rooms", good(sentence, "room a key 7;room b key 7,0;", 2).room(1, 0), 129);
    }

    private static void coins0To99() {
        String sentence = "4: the coins, 0 to 99, that lie in a room";
        for (int coins : new int[] {0, 1, 9, 10, 98, 99}) {
            Check.is(sentence, good(sentence, "room a coins " + coins + ";", 1).room(0, 1), coins);
        }
        for (int coins : new int[] {100, 101, 199, 990, 999, 1000}) bad(sentence, "room a coins " + coins + ";", 2, 13);
        bad(sentence, "room a coins -1;", 1, 13);
        Check.is(sentence + ", none", good(sentence, "room a key 1;", 1).room(0, 1), 0);
    }

    private static void atMost11Rooms() {
        String sentence = "4: at most 11 rooms";
        for (int rooms = 1; rooms <= 11; rooms++) good(sentence, Levels.ROOMS_11.substring(0, 7 * rooms), rooms);
        bad(sentence, Levels.ROOMS_11 + "room l;", 5, 77);
        bad(sentence, Levels.ROOMS_11 + " \nroom", 5, 79);
        bad(sentence, Levels.CHAIN + "room a;", 5, Levels.CHAIN.length());
    }

    private static void doorKeys0To7AndTolls0To999() {
        String rooms = "room a;room b;";
        for (int key : new int[] {0, 1, 6, 7}) {
            KeyTour x = good("4: the key that a door needs, 0 to 7", rooms + "door a b key " + key + ";", 2);
            Check.is("4: the key that a door needs", 10 * x.door(0, 2) + x.door(0, 3), 10 + key);
        }
        for (int key : new int[] {8, 9, 10, 77}) {
            bad("4: the key that a door needs, 0 to 7", rooms + "door a b key " + key + ";", 2, 27);
        }
        for (int toll : new int[] {0, 1, 99, 100, 998, 999}) {
            KeyTour x = good("4: the toll, 0 to 999", rooms + "door a b toll " + toll + ";", 2);
            Check.is("4: the toll", 1000 * x.door(0, 2) + x.door(0, 3), 2000 + toll);
        }
        for (int toll : new int[] {1000, 1001, 9990, 9999, 10000}) {
            bad("4: the toll, 0 to 999", rooms + "door a b toll " + toll + ";", 2, 28);
        }
        KeyTour x = good("4: a door without a lock", rooms + "door a b;door a b oneway;", 2);
        for (int what = 2; what <= 3; what++) Check.is("4: a door without a lock is free", x.door(1, what), 0);
        Check.is("4: a door without oneway", x.door(0, 4), 0);
        Check.is("4: a oneway door", x.door(1, 4), 1);
        bad("4: one lock alone", rooms + "door a b key 1 key 1;", 1, 29);
        bad("4: one lock alone", rooms + "door a b toll 1 key 1;", 1, 30);
        bad("4: one key alone", rooms + "door a b key 1,2;", 1, 28);
    }

    private static void atMost20Doors() {
        String rooms = "room a;room b;";
        for (int doors = 0; doors <= 20; doors++) {
            KeyTour x = good("4: at most 20 doors", rooms + "door a b;".repeat(doors), 2);
            Check.is("4: at most 20 doors", x.property(1), doors);
        }
        bad("4: at most 20 doors", rooms + "door a b;".repeat(21), 5, 194);
        bad("4: at most 20 doors", rooms + "door a b;".repeat(20) + "\ndoor", 5, 195);
    }

    private static void startAtMostOnce() {
        String sentence = "4: start at most once";
        Check.is("4: room 0 without a start", good(sentence, "room b;room a;", 2).property(2), 0);
        for (int room = 0; room < 11; room++) {
            KeyTour x = good(sentence, Levels.ROOMS_11 + "start " + (char) ('a' + room) + ";", 11);
            Check.is(sentence, x.property(2), room);
            Check.same("4: the walk has the start alone", Check.walk(x), "" + room);
        }
        bad(sentence, "room a;start a;start a;", 5, 15);
        bad(sentence, "room a;room b;start a;end b;start b;", 5, 28);
        good(sentence, "room a;start a;end a;", 1);
        bad("4: the room told ahead where tours start", "start a;room a;", 4, 6);
        bad("4: the room told ahead where tours start", Levels.ROOMS_11 + "start l;", 4, 83);
    }

    private static void endAtMostOnce() {
        String sentence = "4: end at most once";
        Check.is("4: any room without an end", good(sentence, "room a;", 1).property(3), KeyTour.NONE);
        for (int room = 0; room < 11; room++) {
            KeyTour x = good(sentence, Levels.ROOMS_11 + "end " + (char) ('a' + room) + ";", 11);
            Check.is(sentence, x.property(3), room);
        }
        bad(sentence, "room a;end a;end a;", 5, 13);
        bad(sentence, "room a;room b;end a;start b;end b;", 5, 28);
        bad("4: the room told ahead where tours end", "room a;end b;room b;", 4, 11);
        bad("4: the room told ahead where tours end", Levels.ROOMS_11 + "end l;", 4, 81);
    }

    private static void orderOfTheParts() {
        bad("4: keys ahead of coins", "room a coins 1 key 1;", 1, 15);
        bad("4: key once", "room a key 1 key 2;", 1, 13);
        bad("4: coins once", "room a coins 1 coins 1;", 1, 15);
        bad("4: a list of keys has one at least", "room a key;", 1, 10);
        bad("4: a list of keys has one at least", "room a key coins 1;", 1, 11);
        bad("4: a comma is followed by a key", "room a key 1,;", 1, 13);
        bad("4: a number behind coins", "room a coins;", 1, 12);
        bad("4: the lock ahead of oneway", "room a;room b;door a b oneway key 1;", 1, 30);
        bad("4: oneway once", "room a;room b;door a b oneway oneway;", 1, 30);
        bad("4: two rooms for a door", "room a;room b;door a;", 1, 20);
        bad("4: two rooms for a door", "room a;room b;door a b a;", 1, 23);
        bad("4: one room for a start", "room a;room b;start a b;", 1, 22);
        bad("4: one room for an end", "room a;room b;end a b;", 1, 20);
        good("4: statements in any order", "room a;start a;room b;door b a;end b;room c;door c a;", 3);
    }

    private static void numberedFrom0() {
        KeyTour x = Check.level(Levels.FULL);
        for (int room = 0; room < 11; room++) {
            Check.feed(x, String.valueOf((char) ('a' + room)));
            Check.is("4: rooms are numbered from 0", x.find(), room);
        }
        String[] doors = {"a-b", "b-c", "c-d", "d-e", "e-f", "f-g", "g-h", "h-i", "i-j", "j-k",
            "a-c", "b-d", "c-e", "d-f", "e-g", "f-h", "g-i", "h-j", "i-k", "k-a"};
        for (int door = 0; door < 20; door++) {
            Check.same("4: doors are numbered from 0", Check.output(x, x.writeDoor(door)), doors[door]);
        }
    }

    // ---- Errors

    private static void stopsAtTheFirstError() {
        String sentence = "4: the parser stops at the first token that has an error";
        bad(sentence, "room a key 9;room a;", 2, 11);
        bad(sentence, "room a;room a key 9;", 3, 12);
        bad(sentence, "room a;door b a;room a;", 4, 12);
        bad(sentence, "room a;start a;start b;end b;", 5, 15);
        bad(sentence, "room a;end b;end;", 4, 11);
        bad(sentence, "room a key 8,8;", 2, 11);
        bad(sentence, "room a key 1,1,8;", 3, 13);
        bad(sentence, "room a;room b;door c b key 8;", 4, 19);
        bad(sentence, "room a coins 100", 2, 13);
        bad(sentence, Levels.ROOMS_11 + "room room", 5, 77);
    }

    private static void theSmallestCodeCounts() {
        String sentence = "4: if a token has several errors, the smallest code counts";
        // Each of these words is also one too many, unknown, told already or out of range where it stands.
        bad(sentence, Levels.ROOMS_11 + "start a room;", 1, 85);
        bad(sentence, Levels.ROOMS_11 + "start room;", 1, 83);
        bad(sentence, "room a;start a;end start;", 1, 19);
        bad(sentence, "room a;end a;start end;", 1, 19);
        bad(sentence, "room a;room b;" + "door a b;".repeat(20) + "end door;", 1, 198);
        bad(sentence, "room a;room a1000;", 3, 12);
        bad(sentence, "room a;room a a;", 3, 12);
        bad(sentence, "room a;room b a;", 1, 14);
        bad(sentence, "room a 1000;", 1, 7);
        bad(sentence, "room a;door a aaaaaaa;", 1, 14);
        bad(sentence, "room a;door b b;", 4, 12);
    }

    private static void theErrorPosition() {
        String sentence = "6: the error position is the offset of the token's first byte";
        bad(sentence, "abc", 1, 0);
        bad(sentence, "\n\n  abc", 1, 4);
        bad(sentence, "room abcdefgh;", 1, 5);
        bad(sentence, "room a coins 12345;", 2, 13);
        bad(sentence, "room a;room b;door a   \n  b key   99999;", 2, 34);
        bad(sentence, " ".repeat(499) + "a", 1, 499);
        bad(sentence, " ".repeat(494) + "abcdef", 1, 494);
        String end = "6: for the end of the text it is the text's length";
        for (int blanks : new int[] {0, 1, 2, 493, 494}) {
            bad(end, "room a" + " ".repeat(blanks), 1, 6 + blanks);
            bad(end, "\n".repeat(blanks), 1, blanks);
        }
        for (String text : new String[] {"room", "room a", "room a key", "room a key 1", "room a key 1,", "room a coins",
            "room a coins 7", "room a;door", "room a;door a", "room a;start", "room a;start a", "room a;end", "room a;end a"}) {
            bad(end, text, 1, text.length());
            bad(end, text + "\n ", 1, text.length() + 2);
        }
    }

    private static void eachCode() {
        bad("5: code 1, the token cannot stand here", "room 1;", 1, 5);
        bad("5: code 1, also the end of an empty text", "", 1, 0);
        bad("5: code 3, the name of another room, the first", Levels.ROOMS_11.substring(0, 70) + "room a;", 3, 75);
        bad("5: code 3, the name of another room, the last", Levels.ROOMS_11.substring(0, 70) + "room j;", 3, 75);
        good("5: code 3, another name", Levels.ROOMS_11.substring(0, 70) + "room aj;", 11);
        bad("5: code 3, the second name of a door", Levels.ROOMS_11 + "door a a;", 3, 84);
        bad("5: code 3, the second name of a door", Levels.ROOMS_11 + "door k k;", 3, 84);
        bad("5: code 3, the first key again", "room a key 0,7,0;", 3, 15);
        bad("5: code 3, the last key again", "room a key 0,7,7;", 3, 15);
        bad("5: code 3, a key again, with zeros", "room a key 0,7,007;", 3, 15);
        bad("5: code 3, a ninth key", "room a key 0,1,2,3,4,5,6,7,7;", 3, 27);
        bad("5: code 2, a ninth key", "room a key 0,1,2,3,4,5,6,7,8;", 2, 27);
        bad("5: code 4, the first name of a door", "room a;door b a;room b;", 4, 12);
        bad("5: code 4, the second name of a door", "room a;door a b;room b;", 4, 14);
        bad("5: code 4, without any room", "door a b;", 4, 5);
        bad("5: code 4, without any room", "end a;", 4, 4);
    }

    // ---- load and find

    private static void loadEmptiesTheBuffer() {
        for (String text : new String[] {"room a;", "room a", "", " ".repeat(500), "room a;" + " ".repeat(493)}) {
            KeyTour x = new KeyTour();
            Check.load(x, text);
            Check.iae("4: load empties the buffer", () -> cut(x, 1));
            Check.is("4: load empties the buffer", x.append(0, 0, 0, 0, 0), 20);
        }
        KeyTour x = Check.level("room a;");
        Check.is("4: the next load has an empty text", x.load(), KeyTour.PARSE_ERROR);
        Check.same("4: the next load has an empty text", Look.error(x), "\nerror 1 at 0");
    }

    private static void loadTakesAllFromTheText() {
        Consumer<KeyTour> fresh = x -> Check.load(x, Levels.LINE);
        Consumer<KeyTour> before = x -> {
            Check.load(x, Levels.FULL);
            x.setStart(7);
            x.setEnd(2);
            x.setLock(0, KeyTour.TOLL, 999);
            x.go(6);
        };
        Check.same("4: on success everything is that of the text", Look.level(Look.made(before.andThen(fresh))),
            Look.level(Look.made(fresh)));
        Check.same("4: on success the answers are those of the text", Look.answers(Look.made(before.andThen(fresh))),
            Look.answers(Look.made(fresh)));
        KeyTour x = Look.made(before);
        int length = x.writeDoor(19);
        x.keep(1);
        Check.is("4: load returns the number of rooms", Check.load(x, "room a;"), 1);
        Check.same("4: not the output buffer", Check.output(x, length), "k-a");
        Check.is("4: not the slots", x.restore(1), 2);
        Check.is("4: load returns the number of rooms", Check.load(x, Levels.ROOMS_11), 11);
        Check.ise("4: an empty slot stays empty", () -> x.restore(0));
    }

    private static void loadWithAnErrorChangesNothingElse() {
        Consumer<KeyTour> way = x -> {
            Check.load(x, Levels.HOUSE + "start vault;end yard;");
            x.go(0);
            x.keep(0);
            x.writeWalk();
        };
        String before = Look.butInput(way);
        for (String text : new String[] {"", "room", "room p;room q;door p q;start q;end q;room q;", "room hall;end", Levels.FULL + ";",
            "room p key 0,1,2,3,4,5,6,7,0;", Levels.ROOMS_11 + "door a b;".repeat(21)}) {
            Consumer<KeyTour> tried = x -> Check.is("4: PARSE_ERROR if there is a parse error", Check.load(x, text), -4);
            Check.same("4: only the buffer and the parse error change, " + text, Look.butInput(way.andThen(tried)), before);
            Check.same("4: also without a level, " + text, Look.butInput(tried), Look.butInput(x -> { }));
        }
    }

    private static void theParseErrorIsThatOfTheLastLoad() {
        KeyTour x = new KeyTour();
        Check.same("5: 0 if there was no load", Look.error(x), "\nerror 0 at -1");
        String[] texts = {"room a key 8;", "", "room a;room a;", "end a;", "room a;start a;start a;", "room a;",
            "room a;room b;", "\n"};
        String[] due = {"2 at 11", "1 at 0", "3 at 12", "4 at 4", "5 at 15", "0 at -1", "0 at -1", "1 at 1"};
        for (int i = 0; i < texts.length; i++) {
            Check.load(x, texts[i]);
            Check.same("5: of the last load, " + texts[i], Look.error(x), "\nerror " + due[i]);
        }
        x.keep(0);
        x.undo();
        x.restore(0);
        x.find();
        x.append(0, 0, 0, 0, 0);
        x.truncate(1);
        Check.ise("42: go to itself", () -> x.go(0));
        Check.same("6: no other call changes it", Look.error(x), "\nerror 1 at 1");
        x.truncate(0);
        Check.load(x, "room a;");
        x.undo();
        Check.same("6: undo of a load does not change it", Look.error(x), "\nerror 0 at -1");
    }

    private static void findTakesTheWholeContent() {
        String sentence = "7: the room whose name is the whole content, byte by byte";
        KeyTour x = Check.level("room a;room abcdef;room bcdef;room k;");
        String[] names = {"a", "abcdef", "bcdef", "k", "", "b", "aa", "abcde", "abcdefg", "aabcdef", "abcdef ", " a", "a ", "a\n",
            "a;", "A", "K", "\0a", "a\0", "\0\0a", "\u00e1", "a\0\0\0\0\0\0\0", "\1a", "room", "abcdeg", "bbcdef", "kkkkkkka"};
        int[] due = {0, 1, 2, 3};
        for (int i = 0; i < names.length; i++) {
            Check.feed(x, names[i]);
            Check.is(sentence + ", " + names[i], x.find(), i < due.length ? due[i] : KeyTour.NONE);
        }
        Check.feed(x, "a".repeat(500));
        Check.is(sentence + ", a full buffer", x.find(), KeyTour.NONE);
        Check.feed(x, "abcdef".repeat(83));
        Check.is(sentence + ", a name again and again", x.find(), KeyTour.NONE);
        KeyTour none = new KeyTour();
        for (String name : new String[] {"", "\0", "\0\0\0\0\0\0", "a"}) {
            Check.feed(none, name);
            Check.is("7: NONE for the room without a name", none.find(), KeyTour.NONE);
        }
        KeyTour undone = Check.level("room a;");
        undone.undo();
        Check.feed(undone, "a");
        Check.is("7: NONE when the load is undone", undone.find(), KeyTour.NONE);
        KeyTour fewer = Check.level("room a;room b;");
        Check.load(fewer, "room c;");
        Check.feed(fewer, "b");
        Check.is("7: NONE for a room of the level before", fewer.find(), KeyTour.NONE);
        KeyTour last = Check.level(Levels.ROOMS_11);
        Check.feed(last, "k");
        Check.is("7: the 11th room", last.find(), 10);
    }

    private static void findEmptiesTheBuffer() {
        Consumer<KeyTour> way = x -> Check.load(x, Levels.HOUSE);
        for (String name : new String[] {"hall", "nobody", "", "x".repeat(500)}) {
            KeyTour x = Look.made(way);
            Check.feed(x, name);
            x.find();
            Check.iae("7: the buffer is empty afterwards", () -> cut(x, 1));
            Check.is("7: find of what is empty then", x.find(), KeyTour.NONE);
            Consumer<KeyTour> found = y -> {
                Check.feed(y, name);
                y.find();
            };
            Check.same("7: find changes nothing else", Look.whole(way.andThen(found)), Look.whole(way));
        }
    }
}
