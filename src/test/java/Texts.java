/** Texts of levels, right ones and damaged ones. */
final class Texts {
    private static final String[] NAMES =
            {"a", "bb", "ccc", "hall", "attic", "cellar", "z", "keys", "doors", "ro", "startt", "tolls"};

    private Texts() {
    }

    static String level(Dice dice, int rooms, int doors) {
        StringBuilder text = new StringBuilder();
        for (int room = 0; room < rooms; room++) {
            text.append("room ").append(NAMES[room]);
            int first = dice.below(dice.once(5) ? 8 : 3);
            if (dice.once(3)) text.append(" key ").append(first);
            if (text.charAt(text.length() - 2) == ' ' && dice.once(4)) text.append(",").append((first + 1 + dice.below(7)) % 8);
            if (dice.once(3)) text.append(" coins ").append(dice.below(dice.once(5) ? 100 : 6));
            text.append(";");
        }
        for (int door = 0; door < doors; door++) {
            text.append(door(dice, rooms, door));
        }
        if (dice.once(4)) text.append("start ").append(NAMES[dice.below(rooms)]).append(";");
        if (dice.once(4)) text.append("end ").append(NAMES[dice.below(rooms)]).append(";");
        return text.toString();
    }

    private static String door(Dice dice, int rooms, int number) {
        // The first doors often make a chain, so that there are tours at all.
        int first = number + 1 < rooms && !dice.once(6) ? number : dice.below(rooms);
        int second = number + 1 < rooms && first == number ? number + 1 : (first + 1 + dice.below(rooms - 1)) % rooms;
        StringBuilder text = new StringBuilder("door ");
        boolean turned = dice.once(3);
        text.append(NAMES[turned ? second : first]).append(" ").append(NAMES[turned ? first : second]);
        int lock = dice.below(7);
        if (lock == 0) text.append(" key ").append(dice.below(dice.once(5) ? 8 : 3));
        if (lock == 1) text.append(" toll ").append(dice.below(dice.once(5) ? 1000 : 9));
        if (!turned && dice.once(7)) text.append(" oneway");
        return text.append(";").toString();
    }

    static String damaged(Dice dice, String text) {
        String[] parts = {"room", "key", "coins", "door", "toll", "oneway", "start", "end", ";", ",", " ", "\n", "\t",
            "7", "8", "99", "100", "999", "1000", "000", "4294967296", "a", "bb", "hall", "abcdefg", "A", "é", "\0", "_"};
        StringBuilder other = new StringBuilder(text);
        int at = dice.below(text.length() + 1);
        int to = Math.min(text.length(), at + dice.below(9));
        if (!dice.once(3)) other.delete(at, to);
        if (!dice.once(3)) other.insert(at, parts[dice.below(parts.length)]);
        if (dice.once(4)) other.insert(at, " ");
        if (dice.once(9)) other.setLength(at);
        if (other.length() > 500) other.setLength(500);
        return other.toString();
    }

    /** One token or statement in another place, twice, or away: more errors of the higher codes. */
    static String shuffled(Dice dice, String text) {
        boolean statements = dice.once(3);
        java.util.List<String> parts = new java.util.ArrayList<>();
        java.util.regex.Matcher matcher =
                java.util.regex.Pattern.compile(statements ? "[^;]*;?" : "[a-z]+|[0-9]+|[^a-z0-9]").matcher(text);
        while (matcher.find()) {
            if (!matcher.group().isEmpty()) parts.add(matcher.group());
        }
        if (parts.isEmpty()) return text;
        String part = parts.get(dice.below(parts.size()));
        int at = dice.below(parts.size());
        int way = dice.below(4);
        if (way == 0) parts.add(at, part);
        else if (way == 1) parts.remove(at);
        else if (way == 2) parts.set(at, part);
        else java.util.Collections.swap(parts, at, dice.below(parts.size()));
        String other = String.join("", parts);
        return other.substring(0, Math.min(500, other.length()));
    }
}
