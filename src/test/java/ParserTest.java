/** Texts that are right and texts with errors, told by hand and by chance. */
public final class ParserTest {
    private static final String ROOMS_11 = "room a;room b;room c;room d;room e;room f;room g;room h;room i;room j;room k;";

    public static void main(String[] args) {
        right();
        misplaced();
        outOfRange();
        repeated();
        unknown();
        tooMany();
        smallestCode();
        byChance();
        Check.end("ParserTest");
    }

    private static void good(String text, int rooms) {
        KeyTour x = new KeyTour();
        Check.same("load of " + text, Check.load(x, text), rooms);
        Check.same("errorCode of " + text, x.errorCode(), 0);
        Check.same("errorPosition of " + text, x.errorPosition(), KeyTour.NONE);
    }

    private static void bad(String text, int code, int position) {
        KeyTour x = new KeyTour();
        Check.same("load of " + text, Check.load(x, text), KeyTour.PARSE_ERROR);
        Check.same("errorCode of " + text, x.errorCode(), code);
        Check.same("errorPosition of " + text, x.errorPosition(), position);
        Check.same("rooms after " + text, x.property(0), 1);
        Check.same("undoCount after " + text, x.undoCount(), 0);
    }

    private static void right() {
        good("room a;", 1);
        good(" \n room\na ; \n", 1);
        good("room a key0,1,2,3,4,5,6,7coins99;", 1);
        good("room a key 7 coins 0;room b coins 000099;", 2);
        good("room abcdef;room abcde;start abcde;end abcdef;", 2);
        good("room rooms;room ke;room coin;room doorss;room tol;room onewa;room starts;room ends;", 8);
        good("room a;room b;door a b;door b a oneway;door a b key 0;door a b key 7 oneway;door a b toll 0;"
            + "door a b toll 999 oneway;door a b toll0000000000000000000000000000000000000000000000999;", 2);
        good("room a;start a;room b;end b;door a b;", 2);
        good("room a;start a;end a;", 1);
        good(ROOMS_11, 11);
        good("room a;room b;" + "door a b;".repeat(20), 2);
        good("room a;" + " ".repeat(493), 1);
    }

    private static void misplaced() {
        bad("", 1, 0);
        bad(" \n ", 1, 3);
        bad(";", 1, 0);
        bad("rooms a;", 1, 0);
        bad("Room a;", 1, 0);
        bad("key 1;", 1, 0);
        bad("a;", 1, 0);
        bad("1;", 1, 0);
        bad("room", 1, 4);
        bad("room ;", 1, 5);
        bad("room a", 1, 6);
        bad("room a ", 1, 7);
        bad("room a,", 1, 6);
        bad("room a b;", 1, 7);
        bad("room a1;", 1, 6);
        bad("room abcdefg;", 1, 5);
        bad("room abcdefgroom;", 1, 5);
        bad("room 7;", 1, 5);
        bad("room A;", 1, 5);
        bad("room \u00e9;", 1, 5);
        bad("room a\t;", 1, 6);
        bad("room a\r;", 1, 6);
        bad("room a;\0", 1, 7);
        bad("room a;;", 1, 7);
        bad("room a;room b", 1, 13);
        for (String keyword : new String[] {"room", "key", "coins", "door", "toll", "oneway", "start", "end"}) {
            bad("room " + keyword + ";", 1, 5);
            bad("room a;door " + keyword + " a;", 1, 12);
            bad("room a;start " + keyword + ";", 1, 13);
        }
        bad("room a key;", 1, 10);
        bad("room a key b;", 1, 11);
        bad("room a key 1,;", 1, 13);
        bad("room a key 1 2;", 1, 13);
        bad("room a key ,1;", 1, 11);
        bad("room a key 1 key 2;", 1, 13);
        bad("room a key -1;", 1, 11);
        bad("room a coins;", 1, 12);
        bad("room a coins 1,2;", 1, 14);
        bad("room a coins 1 key 1;", 1, 15);
        bad("room a coins 1 coins 1;", 1, 15);
        bad("room a toll 1;", 1, 7);
        bad("room a oneway;", 1, 7);
        bad("room a;room b;door a;", 1, 20);
        bad("room a;room b;door a,b;", 1, 20);
        bad("room a;room b;door 1 b;", 1, 19);
        bad("room a;room b;door a b c;", 1, 23);
        bad("room a;room b;door a b 1;", 1, 23);
        bad("room a;room b;door a b key;", 1, 26);
        bad("room a;room b;door a b key 1,2;", 1, 28);
        bad("room a;room b;door a b key 1 toll 2;", 1, 29);
        bad("room a;room b;door a b coins 1;", 1, 23);
        bad("room a;room b;door a b oneway key 1;", 1, 30);
        bad("room a;room b;door a b oneway oneway;", 1, 30);
        bad("room a;room b;door a b", 1, 22);
        bad("room a;start;", 1, 12);
        bad("room a;start a", 1, 14);
        bad("room a;start a key 1;", 1, 15);
        bad("room a;end;", 1, 10);
        bad("room a;end a b;", 1, 13);
        bad("room a;end abcdefg;", 1, 11);
        bad("room a;" + " ".repeat(492) + ",", 1, 499);
    }

    private static void outOfRange() {
        bad("room a key 8;", 2, 11);
        bad("room a key 1,10;", 2, 13);
        bad("room a key 00000000000000000008;", 2, 11);
        bad("room a key 4294967296;", 2, 11);
        bad("room a key 18446744073709551616;", 2, 11);
        bad("room a coins 100;", 2, 13);
        bad("room a coins 4294967297;", 2, 13);
        bad("room a coins " + "9".repeat(400) + ";", 2, 13);
        bad("room a;room b;door a b key 8;", 2, 27);
        bad("room a;room b;door a b toll 1000;", 2, 28);
        bad("room a;room b;door a b toll 1001;", 2, 28);
        bad("room a;room b;door a b toll 10000000000;", 2, 28);
    }

    private static void repeated() {
        bad("room a;room a;", 3, 12);
        bad("room a;room b;room abc;room b;", 3, 28);
        bad("room a key 1,2,1;", 3, 15);
        bad("room a key 1,01;", 3, 13);
        bad("room a key 0,1,2,3,4,5,6,7,0;", 3, 27);
        bad("room a;room b;door b b;", 3, 21);
        bad("room a;door a a key 9;", 3, 14);
    }

    private static void unknown() {
        bad("start a;", 4, 6);
        bad("end a;room a;", 4, 4);
        bad("door a b;", 4, 5);
        bad("room a;door b a;", 4, 12);
        bad("room a;door a b;room b;", 4, 14);
        bad("room a;start b;", 4, 13);
        bad("room a;end ab;", 4, 11);
        bad("room ab;end a;", 4, 12);
    }

    private static void tooMany() {
        bad(ROOMS_11 + "room", 5, 77);
        bad(ROOMS_11 + " room a;", 5, 78);
        bad("room a;room b;" + "door a b;".repeat(20) + "door", 5, 194);
        bad("room a;start a;start a;", 5, 15);
        bad("room a;start a;end a;start", 5, 21);
        bad("room a;end a;end a;", 5, 13);
        bad("room a;end a;start a;end b;", 5, 21);
    }

    private static void smallestCode() {
        bad(ROOMS_11 + "room room;", 5, 77);
        bad(ROOMS_11 + "door a room;", 1, 84);
        bad("room a;start a start;", 1, 15);
        bad("room a;end start;", 1, 11);
        bad("room a;door a abcdefg;", 1, 14);
    }

    private static void byChance() {
        Dice dice = new Dice(7);
        int[] codes = new int[6];
        for (int object = 0; object < 150; object++) {
            KeyTour x = new KeyTour();
            Model y = new Model();
            for (int text = 0; text < 100; text++) {
                codes[compare(dice, x, y)]++;
            }
        }
        for (int code = 0; code < codes.length; code++) {
            Check.same("texts by chance with code " + code + " are many", codes[code] >= 50, true);
        }
    }

    private static int compare(Dice dice, KeyTour x, Model y) {
        String text = Texts.level(dice, 2 + dice.below(dice.once(4) ? 11 : 4), dice.below(dice.once(4) ? 24 : 6));
        text = text.substring(0, Math.min(500, text.length()));
        if (dice.once(2)) text = Texts.damaged(dice, text);
        for (int i = dice.below(4); i > 0; i--) {
            text = Texts.shuffled(dice, text);
        }
        Check.feed(x, text);
        for (int at = 0; at < text.length(); at += 20) {
            int[] fours = new int[5];
            for (int i = 0; i < 20; i++) {
                fours[i / 4] = fours[i / 4] << 8 | (at + i < text.length() ? text.charAt(at + i) & 255 : 0);
            }
            y.append(fours[0], fours[1], fours[2], fours[3], fours[4]);
        }
        y.truncate(text.length());
        Check.same("load of " + text, x.load(), y.load());
        Check.same("errorCode of " + text, x.errorCode(), y.errorCode());
        Check.same("errorPosition of " + text, x.errorPosition(), y.errorPosition());
        for (int what = 0; what < 9; what++) {
            Check.same("property " + what + " of " + text, x.property(what), y.property(what));
        }
        for (int room = 0; room < y.property(0); room++) {
            for (int what = 0; what < 5; what++) {
                Check.same("room " + room + ", " + what + " of " + text, x.room(room, what), y.room(room, what));
            }
        }
        for (int door = 0; door < y.property(1); door++) {
            for (int what = 0; what < 6; what++) {
                Check.same("door " + door + ", " + what + " of " + text, x.door(door, what), y.door(door, what));
            }
        }
        return y.errorCode();
    }
}
