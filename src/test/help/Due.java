/** What the tests of single sentences share: a town told by its text, and a count of wrong answers. */
final class Due {
    private static String sentence = "";
    private static int sentences = 0;
    private static int asked = 0;
    private static int wrong = 0;

    private Due() {
    }

    /** The words of the document that the answers from here on are due by. */
    static void says(String words) {
        sentence = words;
        sentences++;
    }

    static void due(String call, long got, long want) {
        asked++;
        if (got != want) {
            wrong++;
            System.out.println("\"" + sentence + "\": " + call + " answered " + got + ", due is " + want);
        }
    }

    static void due(String call, boolean got, boolean want) {
        due(call, got ? 1 : 0, want ? 1 : 0);
    }

    static void end() {
        System.out.println(wrong == 0 ? sentences + " sentences, " + asked + " answers are as due" : wrong + " answers are not as due");
        if (wrong != 0) {
            System.exit(1);
        }
    }

    /** The signs of a text as feed takes them, 24 a call; the last call's missing ones are 0. */
    static int feedText(SecretDays x, String text) {
        int there = x.count(7);
        for (int i = 0; i < text.length(); i += 24) {
            long[] part = new long[3];
            for (int j = 0; j < 24; j++) {
                part[j / 8] = part[j / 8] << 8 | (i + j < text.length() ? text.charAt(i + j) : 0);
            }
            there = x.feed(part[0], part[1], part[2]);
        }
        return there;
    }

    static int read(SecretDays x, String text) {
        feedText(x, text);
        return x.town();
    }

    /** A new object that was told a town without a FAULT. */
    static SecretDays told(String text) {
        SecretDays x = new SecretDays();
        due("town of [" + text + "]", read(x, text), 0);
        return x;
    }

    /** A text in which ^ stands right before the token (or the end) that is the FAULT's; it is taken out. */
    static void faultAt(String marked, int kind) {
        int place = marked.indexOf('^');
        String text = marked.substring(0, place) + marked.substring(place + 1);
        due("town of [" + marked + "]", read(new SecretDays(), text), kind + 16 * place);
    }

    /** So many persons a, b, c .. born on DAYS 1, 2, 3 .. */
    static String persons(int number) {
        StringBuilder text = new StringBuilder();
        for (int i = 0; i < number; i++) {
            text.append("person ").append((char) ('a' + i)).append(" born ").append(i + 1).append(';');
        }
        return text.toString();
    }

    /** Numbers that are no PERSON, SECRET, DATE, mark or what, and no set of PERSONS. */
    static final int[] FAR = {Integer.MIN_VALUE, Integer.MIN_VALUE + 1, -65536, -4392, -366, -16, -12, -4, -2, -1, 4392, 8192, 65536,
        1 << 30, Integer.MAX_VALUE - 1, Integer.MAX_VALUE};
}
