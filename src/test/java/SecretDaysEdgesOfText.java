/**
 * The document's sentences about the TAPE, the TOKENS, the TOWN and its FAULTS that name a boundary,
 * each by itself (promises 1 to 3, "Terms").
 */
public final class SecretDaysEdgesOfText {
    private static final String[] NO_NAMES = {"leap", "person", "born", "name", "ill", "calls", "on", "away", "from", "to", "secret",
        "with", "law", "names"};
    private static final String AB = "person a born 1; person b born 2;";

    private static String times(String text, int number) {
        StringBuilder all = new StringBuilder();
        for (int i = 0; i < number; i++) {
            all.append(text);
        }
        return all.toString();
    }

    private static void nobody() {
        Due.says("`SecretDays()`: Nobody.");
        for (int what = 0; what < 8; what++) {
            Due.due("count " + what, new SecretDays().count(what), 0);
        }
        SecretDays x = new SecretDays();
        for (int what = 0; what < 5; what++) {
            Due.due("person 0 " + what, x.person(0, what), -1);
        }
        Due.due("free", x.free(0, 0), -1);
        Due.due("away", x.away(0, 0), -1);
        Due.due("soonest", x.soonest(0, 0), -1);
        Due.due("by", x.by(0, 0), -1);
        Due.due("hands", x.hands(0, 0), -1);
        Due.due("ways", x.ways(0, 0), -1);
        Due.due("cant", x.cant(0, 0), -1);
        Due.due("all", x.all(0), -1);
        Due.due("knows", x.knows(0, 0), -1);
        Due.due("letIn", x.letIn(0, 0, 0, 0, 0), -1);
        Due.due("cut", x.cut(0, 0, 0), -1);
        Due.due("meet", x.meet(0, 1, 0), -1);
        Due.due("newcomer", x.newcomer(0, 0, 0, 0, 0), -1);
        Due.due("report", x.report(0, 0, 0, true), -1);
        Due.due("holds", x.holds(), 1);
        Due.due("began", x.began(0), -1);
        Due.due("wrong", x.wrong(), 0);
        Due.due("instead", x.instead(0), -1);
        Due.due("runs", x.runs(0, 1, 0, 0, 0, 0), -1);
        Due.due("clear", x.clear(), true);
        Due.due("nothing is on a mark", x.mark(0, true), false);
        Due.due("a mark of nobody", x.mark(0, false), true);
        Due.due("back to nobody", x.mark(0, true), true);
        Due.due("nobody", x.count(0), 0);
        Due.says("leap: once, 0 to 3 (0 without).");
        Due.due("a new object's leap", x.date(0, 59), 59);
        Due.due("a new object's leap", x.date(1, 59), -1);
    }

    private static long[] oneByte(int place, int value) {
        long[] parts = new long[3];
        parts[place / 8] = (long) value << 56 - 8 * (place % 8);
        return parts;
    }

    private static void signs() {
        Due.says("others than 10 and 32 .. 126, and what is beyond 1,000, are left out: how many there are.");
        for (int value = 0; value < 256; value++) {
            SecretDays x = new SecretDays();
            boolean fits = value == 10 || value >= 32 && value <= 126;
            for (int place = 0; place < 24; place++) {
                long[] p = oneByte(place, value);
                Due.due("byte " + value + " at " + place, x.feed(p[0], p[1], p[2]), fits ? place + 1 : 0);
            }
            Due.due("count(7)", x.count(7), fits ? 24 : 0);
        }
        Due.says("Up to 24 signs come behind the TAPE: the bytes of a, b, c, of each the highest first;");
        SecretDays x = new SecretDays();
        Due.due("none", x.feed(0, 0, 0), 0);
        Due.due("24 in one call", Due.feedText(x, "person abcdefgh born 12;"), 24);
        Due.due("behind them", Due.feedText(x, "secret abcdefgh"), 39);
        Due.due("each where it is due", x.town(), 3 + 16 * 31);
        for (int place = 0; place < 24; place++) {
            x = new SecretDays();
            long[] p = oneByte(place, ';');
            x.feed(0x2020202020202020L | p[0], 0x2020202020202020L | p[1], 0x2020202020202020L | p[2]);
            Due.due("; at " + place, x.town(), 1 + 16 * place);
        }
    }

    private static void fullTape() {
        Due.says("The TAPE has at most 1,000 signs, 10 and 32 .. 126;");
        String end = "leap 3;";
        for (int blanks = 990; blanks <= 995; blanks++) {
            SecretDays x = new SecretDays();
            int all = blanks + end.length();
            Due.due("signs", Due.feedText(x, times(" ", blanks) + end), Math.min(all, 1000));
            Due.due("behind " + blanks + " blanks", x.town(), all <= 1000 ? 0 : 1 + 16 * 1000);
            Due.due("leap", x.count(4), all <= 1000 ? 3 : 0);
        }
        SecretDays x = new SecretDays();
        Due.due("999", Due.feedText(x, times(" ", 999)), 999);
        Due.due("what is left out takes no place", x.feed(0x0001020304050607L, 0x7f80ff1f0b090c3bL, 0x2b2b2b2b2b2b2b2bL), 1000);
        Due.due("full", x.feed(0x3b3b3b3b3b3b3b3bL, -1, 1), 1000);
        Due.due("count(7)", x.count(7), 1000);
        Due.due("; is the last", x.town(), 1 + 16 * 999);
        Due.due("again from the first", Due.feedText(x, end), 7);
        Due.due("read", x.town(), 0);
        Due.due("leap", x.count(4), 3);
        Due.says("any number of");
        x = new SecretDays();
        String many = Due.persons(12) + times("away a from 0 0 to 11 365;", 12);
        Due.due("a long text", Due.feedText(x, times(" ", 1000 - many.length()) + many), 1000);
        Due.due("a long text", x.town(), 0);
        Due.due("no sentence at all", x.town(), 0);
        Due.due("nobody then", x.count(0), 0);
        Due.due("any order", Due.read(x, "law names;person a born 1;leap 2;secret s with a from 0 0;person b born 2;away b from 0 0 to 0 0;"
            + "calls a on b;person c born 3;calls c on a b;secret t with c from 1 0;away a from 0 0 to 0 0;calls b on a;"), 0);
        int[] want = {3, 2, 4, 2, 2, 1, 0, 0};
        for (int what = 0; what < 8; what++) {
            Due.due("count " + what, x.count(what), want[what]);
        }
    }

    private static void taken() {
        Due.says("what reads it takes it: it is empty then.");
        SecretDays x = Due.told(AB);
        Due.due("read", x.count(7), 0);
        Due.feedText(x, "leap 7;");
        Due.due("a fault", x.town(), 4 + 16 * 5);
        Due.due("read, too", x.count(7), 0);
        Due.feedText(x, "leap");
        x.law(true);
        x.mark(0, false);
        x.mark(0, true);
        x.clear();
        x.date(0, 0);
        Due.due("nothing else reads it", x.count(7), 4);
        Due.feedText(x, " 2;");
        Due.due("what comes later stands behind", x.town(), 0);
        Due.due("leap", x.count(4), 2);
        Due.due("an empty tape is a town of nobody", x.town(), 0);
        Due.due("leap", x.count(4), 0);
    }

    private static void tokens() {
        Due.says("TOKENS, each as long as can be,");
        Due.faultAt("^leaps 1;", 1);
        Due.faultAt("^lawnames;", 1);
        Due.faultAt("leap ^12;", 4);
        Due.faultAt("leap 1 ^2;", 1);
        Due.faultAt("person a^1 born 1;", 1);
        Due.told("person aborn born 1;");
        Due.says("blanks (10, 32) between where one likes:");
        for (String blank : new String[] {"", " ", "\n", " \n  \n\n "}) {
            String text = blank + "leap" + blank + "1" + blank + ";" + blank + "law \n names" + blank + ";" + blank;
            Due.due("leap", Due.told(text).count(4), 1);
        }
        Due.due("blanks alone", Due.read(new SecretDays(), " \n\n "), 0);
        Due.faultAt("^le ap 1;", 1);
        Due.faultAt("person a born 36 ^5;", 1);
        Due.says("WORDS (letters a .. z, 8 at most),");
        Due.told("person abcdefgh born 1;person zyxwvuts born 2;");
        Due.faultAt("person ^abcdefghi born 1;", 1);
        Due.faultAt("person ^abcdefghabcdefgha born 1;", 1);
        Due.faultAt("^personperson a born 1;", 1);
        Due.faultAt("calls ^abcdefghi on a;", 1);
        Due.faultAt("calls ^abcdefgh on a;", 2);
        Due.faultAt("person ^A born 1;", 1);
        Due.faultAt("person a^A born 1;", 1);
        Due.faultAt("person a^Z born 1;", 1);
        Due.faultAt("person a^`;", 1);
        Due.faultAt("person a^{;", 1);
        Due.faultAt("person a^@;", 1);
        Due.faultAt("person a^[;", 1);
        Due.says("NUMBERS (1 to 4 digits; a letter may stand right behind),");
        SecretDays x = Due.told("leap0003;person a born 0ill 09name0365;person b born 0009ill 9;");
        Due.due("0003", x.count(4), 3);
        Due.due("0", x.person(0, 0), 0);
        Due.due("09", x.person(0, 2), 9);
        Due.due("0365", x.person(0, 1), 365);
        Due.due("0009", x.person(1, 0), 9);
        Due.faultAt("leap ^00003;", 1);
        Due.faultAt("leap ^00000000000000000001;", 1);
        Due.faultAt("leap ^4294967297;", 1);
        Due.faultAt("person a born ^00009ill 9;", 1);
        Due.faultAt("leap ^9999;", 4);
        Due.faultAt("leap 1^/;", 1);
        Due.faultAt("leap 1^:;", 1);
        Due.faultAt("leap ^-1;", 1);
        Due.says("All else (a longer WORD or NUMBER, too, at its first sign) is none.");
        for (int sign = 33; sign < 127; sign++) {
            boolean token = sign == ';' || sign >= '0' && sign <= '9' || sign >= 'a' && sign <= 'z';
            Due.due("sign " + sign + " alone", Due.read(new SecretDays(), "  " + (char) sign), 1 + 16 * 2);
            if (!token) {
                Due.due("sign " + sign + " for ;", Due.read(new SecretDays(), "leap 1" + (char) sign), 1 + 16 * 6);
                Due.due("sign " + sign + " for a NUMBER", Due.read(new SecretDays(), "leap " + (char) sign), 1 + 16 * 5);
                Due.due("sign " + sign + " for a NAME", Due.read(new SecretDays(), "calls " + (char) sign), 1 + 16 * 6);
                Due.due("sign " + sign + " for a WORD", Due.read(new SecretDays(), "law " + (char) sign), 1 + 16 * 4);
                Due.due("sign " + sign + " for the end", Due.read(new SecretDays(), "leap 1;" + (char) sign), 1 + 16 * 7);
            }
        }
        Due.says("the sign ;");
        Due.faultAt("^;", 1);
        Due.faultAt("leap 1;^;", 1);
        Due.faultAt("leap 1; ^; leap 4", 1);
        Due.faultAt("leap^;1;", 1);
        Due.faultAt("leap 1 ^law names;", 1);
        Due.faultAt("person a born 1 ^person b born 2;", 1);
        Due.told("leap 1;law names;person a born 1;person b born 2 name 3;calls a on b;");
    }

    private static void leapAndLaw() {
        Due.says("leap: once, 0 to 3 (0 without).");
        SecretDays x = new SecretDays();
        for (int leap = 0; leap < 4; leap++) {
            Due.due("leap " + leap, Due.read(x, "leap " + leap + ";"), 0);
            Due.due("leap", x.count(4), leap);
        }
        Due.due("without", Due.read(x, "law names;"), 0);
        Due.due("leap", x.count(4), 0);
        Due.faultAt("leap ^4;", 4);
        Due.faultAt("leap ^10;", 4);
        Due.faultAt("leap 0;^leap 0;", 3);
        Due.faultAt("leap 1;law names;^leap 1;", 3);
        Due.says("law names: once.");
        Due.due("law", Due.told("law names;").count(5), 1);
        Due.due("no law", Due.told("leap 1;").count(5), 0);
        Due.faultAt("law names;^law names;", 3);
        Due.faultAt("law names;leap 1;^law names;", 3);
        Due.faultAt("law ^name;", 1);
        Due.faultAt("law ^law;", 1);
        Due.due("once in each town", Due.read(x, "law names;"), 0);
        Due.due("once in each town", Due.read(x, "law names;leap 1;"), 0);
        Due.due("once in each town", Due.read(x, "leap 1;"), 0);
        x.law(true);
        Due.due("the law by hand is not told", Due.read(x, "law names;"), 0);
    }

    private static void person() {
        Due.says("person: 12 at most, numbered as told; born on a DAY (0 to 365);");
        SecretDays x = Due.told(Due.persons(12));
        Due.due("12", x.count(0), 12);
        for (int i = 0; i < 12; i++) {
            Due.due("born of " + i, x.person(i, 0), i + 1);
        }
        Due.due("12 is none", x.person(12, 0), -1);
        Due.due("11", Due.told(Due.persons(11)).person(11, 0), -1);
        Due.faultAt(Due.persons(12) + "^person m born 1;", 5);
        Due.faultAt(Due.persons(12) + "leap 1;^person", 5);
        Due.due("0", Due.told("person a born 0;").person(0, 0), 0);
        Due.due("365", Due.told("person a born 365;").person(0, 0), 365);
        Due.due("59", Due.told("leap 1;person a born 59;").person(0, 0), 59);
        Due.faultAt("person a born ^366;", 4);
        Due.faultAt("person a born ^9999;", 4);
        Due.faultAt("person a ^ill 1 born 1;", 1);
        Due.says("EXTRA: name N (name day, a DAY), ill N (0 to 99), each once at most.");
        x = Due.told("person a born 1;person b born 1 name 0;person c born 1 name 365;person d born 1 ill 0;person e born 1 ill 99;"
            + "person f born 1 name 59 ill 7;person g born 1 ill 8 name 1;");
        int[] name = {-1, 0, 365, -1, -1, 59, 1};
        int[] ill = {0, 0, 0, 0, 99, 7, 8};
        for (int i = 0; i < 7; i++) {
            Due.due("name day of " + i, x.person(i, 1), name[i]);
            Due.due("ill of " + i, x.person(i, 2), ill[i]);
        }
        Due.faultAt("person a born 1 name ^366;", 4);
        Due.faultAt("person a born 1 ill ^100;", 4);
        Due.faultAt("person a born 1 name 1 ^name 1;", 3);
        Due.faultAt("person a born 1 ill 1 ^ill 1;", 3);
        Due.faultAt("person a born 1 ill 1 name 1 ^ill 1;", 3);
        Due.faultAt("person a born 1 name 1 ill 1 ^name 1;", 3);
        Due.faultAt("person a born 1 name 1 ill 1 ^born 1;", 1);
        Due.faultAt("person a born 1 ^names 1;", 1);
        Due.faultAt("person a born 1 name ^;", 1);
        Due.faultAt("person a born 1 ill ^;", 1);
        Due.faultAt("person a born 1 ill 1 ^2;", 1);
        x = Due.told("person a born 1 name 5 ill 50;");
        Due.due("a's are gone", Due.read(x, "person a born 1;"), 0);
        Due.due("name day", x.person(0, 1), -1);
        Due.due("ill", x.person(0, 2), 0);
    }

    private static void calls() {
        Due.says("calls: the first PERSON calls on each of the others (not on itself, on each once), 6 call on a PERSON at most.");
        SecretDays x = Due.told(Due.persons(12) + "calls a on b c d e f g h i j k l;calls l on a;calls k on a b;");
        Due.due("on eleven", x.person(0, 4), 4094);
        Due.due("by two", x.person(0, 3), 3 << 10);
        Due.due("by one", x.person(2, 3), 1);
        Due.due("pairs", x.count(2), 14);
        Due.faultAt(AB + "calls a on ^a;", 3);
        Due.faultAt(AB + "calls a on b ^a;", 3);
        Due.faultAt(AB + "calls a on b ^b;", 3);
        Due.faultAt(AB + "calls a on b;calls b on a;calls a on ^b;", 3);
        Due.faultAt(AB + "calls a on ^;", 1);
        Due.faultAt(AB + "calls a on b ^on;", 1);
        Due.faultAt(AB + "calls a on b ^c;", 2);
        String six = Due.persons(12) + "calls b on a;calls c on a;calls d on a;calls e on a;calls f on a;";
        x = Due.told(six + "calls g on a;");
        Due.due("six", Integer.bitCount(x.person(0, 3)), 6);
        Due.faultAt(six + "calls g on a;calls h on ^a;", 5);
        Due.faultAt(six + "calls g on a;calls h on b c ^a;", 5);
        x = Due.told(six + "calls g on a;calls a on b c;calls h on b;");
        Due.due("only on a", x.count(2), 9);
    }

    private static void away() {
        Due.says("away: 12 at most:");
        String one = "person a born 1;";
        String twelve = one + times("away a from 0 0 to 0 0;", 12);
        Due.due("12", Due.told(twelve).count(3), 12);
        Due.faultAt(twelve + "^away a from 0 0 to 0 0;", 5);
        Due.says("from a DATE to a DATE (not ahead of it),");
        SecretDays x = Due.told(one + "away a from 3 7 to 3 7;away a from 5 365 to 6 0;");
        Due.due("one DATE", x.away(0, 3 * 366 + 7), 1);
        Due.due("over the year", x.away(0, 5 * 366 + 365) + x.away(0, 6 * 366), 2);
        Due.faultAt(one + "away a from 3 7 to 3 ^6;", 4);
        Due.faultAt(one + "away a from 3 7 to 2 ^7;", 4);
        Due.faultAt(one + "away a from 6 0 to 5 ^365;", 4);
        Due.faultAt(one + "away a from 11 365 to 11 ^364;", 4);
        Due.told(one + "away a from 11 365 to 11 365;");
        Due.told(one + "away a from 0 0 to 0 0;");
        Due.says("each told as a YEAR (0 to 11) and a DAY (as numbers; be they there or not).");
        Due.told(one + "away a from 0 0 to 11 365;");
        Due.told(one + "leap 2;away a from 0 59 to 1 59;away a from 3 59 to 3 59;");
        Due.faultAt(one + "away a from ^12 0 to 12 0;", 4);
        Due.faultAt(one + "away a from 0 ^366 to 1 0;", 4);
        Due.faultAt(one + "away a from 0 0 to ^12 0;", 4);
        Due.faultAt(one + "away a from 0 0 to 0 ^366;", 4);
        Due.faultAt(one + "away a from 0 ^to 0 0;", 1);
        Due.faultAt(one + "away a from 0 0 ^0 to 0 0;", 1);
        Due.faultAt(one + "away a from 1 0 to 0 ^;", 1);
        Due.faultAt(one + "away ^b from 1 0 to 0 0;", 2);
    }

    private static void secret() {
        Due.says("secret: 4 at most, numbered as told, with a PERSON from a DATE on.");
        String four = AB + "secret p with a from 0 0;secret q with b from 11 365;secret r with a from 1 59;secret s with b from 2 7;";
        SecretDays x = Due.told(four);
        Due.due("4", x.count(1), 4);
        int[] with = {0, 1, 0, 1};
        int[] from = {0, 4391, 425, 739};
        for (int s = 0; s < 4; s++) {
            Due.due("secret " + s, x.soonest(s, with[s]), from[s]);
            Due.due("secret " + s, x.soonest(s, 1 - with[s]), -1);
        }
        Due.due("4 is none", x.soonest(4, 0), -1);
        Due.faultAt(four + "^secret t with a from 0 0;", 5);
        Due.faultAt(AB + "secret s with a from ^12 0;", 4);
        Due.faultAt(AB + "secret s with a from 0 ^366;", 4);
        Due.faultAt(AB + "secret s with ^c from 0 0;", 2);
        Due.faultAt("secret s with ^a from 0 0;person a born 1;", 2);
        Due.faultAt(AB + "secret s with a from 0 0 ^0;", 1);
    }

    private static void names() {
        Due.says("A NAME is another WORD than leap, person, born, name, ill, calls, on, away, from, to, secret, with, law, names;");
        for (String word : NO_NAMES) {
            Due.faultAt("person ^" + word + " born 1;", 1);
            Due.faultAt(AB + "secret ^" + word + " with a from 0 0;", 1);
            Due.faultAt(AB + "calls ^" + word + " on a;", 1);
            Due.faultAt(AB + "calls a on ^" + word + ";", 1);
            Due.faultAt(AB + "calls a on b ^" + word + ";", 1);
            Due.faultAt(AB + "away ^" + word + " from 0 0 to 0 0;", 1);
            Due.faultAt(AB + "secret s with ^" + word + " from 0 0;", 1);
            Due.due("a longer word", Due.told("person x" + word + " born 1;person " + word + "x born 2;").count(0), 2);
            if (word.length() > 2) {
                Due.due("a shorter word", Due.told("person " + word.substring(1) + " born 1;").count(0), 1);
            }
        }
        Due.says("no two (PERSONS, SECRETS) are alike.");
        Due.faultAt("person a born 1;person ^a born 2;", 3);
        Due.faultAt(AB + "person ^b born 2;", 3);
        Due.faultAt(AB + "secret ^b with a from 0 0;", 3);
        Due.faultAt(AB + "secret s with a from 0 0;secret t with a from 0 0;secret ^t with b from 0 0;", 3);
        Due.faultAt(AB + "secret s with a from 0 0;person ^s born 0;", 3);
        Due.told("person a born 1;person aa born 1;person aaa born 1;secret aaaaaaaa with aa from 0 0;secret aaaaaaab with a from 0 0;"
            + "secret baaaaaaa with a from 0 0;person aaaaaaa born 1;");
        SecretDays x = Due.told(AB + "secret s with a from 0 0;");
        Due.due("in the next town they are free again", Due.read(x, "person s born 1;person b born 2;secret a with b from 0 0;"), 0);
        Due.due("those of the town before are of no person", Due.read(x, "person c born 1;calls c on b;"), 2 + 16 * 27);
        Due.due("nor those of a text with a fault", Due.read(x, "person d born 1;calls d on c;"), 2 + 16 * 27);
    }

    private static void placeOfFaults() {
        Due.says("FAULTS, kind + 16 * the place (from 0) of a token, the end being one at the text's length:");
        String[] sentences = {"leap 1 ;", "law names ;", "person c born 1 name 2 ill 3 ;", "calls a on b ;", "away a from 0 1 to 0 2 ;",
            "secret s with a from 0 1 ;"};
        for (String sentence : sentences) {
            String[] tokens = sentence.split(" ");
            String text = AB;
            for (int i = 0; i + 1 < tokens.length; i++) {
                text += tokens[i];
                Due.due("the end of [" + text + "]", Due.read(new SecretDays(), text), 1 + 16 * text.length());
                Due.due("and blanks", Due.read(new SecretDays(), text + " \n"), 1 + 16 * (text.length() + 2));
                text += " ";
                Due.due("none in [" + text + "]", Due.read(new SecretDays(), text + "+"), 1 + 16 * text.length());
                boolean mayEnd = tokens[i + 1].equals(";") || sentence.startsWith("person") && i > 2 && i % 2 == 1;
                Due.due("[" + text + ";]", Due.read(new SecretDays(), text + ";"), mayEnd ? 0 : 1 + 16 * text.length());
            }
        }
        Due.faultAt("^+", 1);
        Due.faultAt(" ^leaf", 1);
        Due.says("of the first token from the left that is wrong the least:");
        Due.faultAt("leap ^4;leap 5;", 4);
        Due.faultAt("leap ^7 + ;", 4);
        Due.faultAt("calls ^b on +;", 2);
        Due.faultAt("person a born 1;^+;leap 4;", 1);
        Due.faultAt(Due.persons(12) + "^person a born 366;", 5);
        Due.faultAt(AB + "secret ^a with +", 3);
        String six = Due.persons(9) + "calls b on a;calls c on a;calls d on a;calls e on a;calls f on a;calls g on a;";
        Due.faultAt(six + "calls a on ^a;", 3);
        Due.faultAt(six + "calls g on ^a;", 3);
        Due.faultAt(six + "calls h on ^a;", 5);
        Due.faultAt(six + "calls h on b ^b;", 3);
        Due.faultAt(six + "calls h on ^m a;", 2);
    }

    private static void kinds() {
        Due.says("1 it is none, or can't stand there;");
        Due.faultAt("^born", 1);
        Due.faultAt("^1", 1);
        Due.faultAt("^x", 1);
        Due.faultAt("^;", 1);
        Due.faultAt("leap 1 ^leap", 1);
        Due.says("2 a NAME of no PERSON told, where one is to be;");
        Due.faultAt(AB + "secret s with a from 0 0;calls ^s on a;", 2);
        Due.faultAt(AB + "secret s with a from 0 0;calls a on ^s;", 2);
        Due.faultAt(AB + "secret s with a from 0 0;away ^s from 0 0 to 0 0;", 2);
        Due.faultAt(AB + "secret s with ^s from 0 0;", 2);
        Due.faultAt("calls ^a on a;person a born 1;", 2);
        Due.faultAt(AB + "calls a on ^c;person c born 1;", 2);
        Due.says("3 a NAME told already, name or ill a second time, leap or law a second time,");
        Due.faultAt(AB + "person ^b", 3);
        Due.faultAt(AB + "secret ^a", 3);
        Due.faultAt("person a born 1 name 2 ^name", 3);
        Due.faultAt("person a born 1 ill 2 ^ill", 3);
        Due.faultAt("leap 1;^leap", 3);
        Due.faultAt("law names;^law", 3);
        Due.says("a PERSON that calls on itself, or on that one already (at its NAME);");
        Due.faultAt(AB + "calls a on b ^a b;", 3);
        Due.faultAt(AB + "calls b on a ^a;", 3);
        Due.says("4 a NUMBER that is not as told;");
        Due.faultAt("leap ^4", 4);
        Due.faultAt("person a born ^366", 4);
        Due.faultAt("person a born 1 name ^366", 4);
        Due.faultAt("person a born 1 ill ^100", 4);
        Due.faultAt(AB + "away a from ^12", 4);
        Due.faultAt(AB + "away a from 11 ^366", 4);
        Due.faultAt(AB + "away a from 0 0 to ^12", 4);
        Due.faultAt(AB + "away a from 0 0 to 11 ^366", 4);
        Due.faultAt(AB + "secret s with a from ^12", 4);
        Due.faultAt(AB + "secret s with a from 11 ^366", 4);
        Due.says("the second DATE of away that is ahead of the first (at its DAY);");
        Due.faultAt(AB + "away a from 11 365 to 0 ^0;", 4);
        Due.faultAt(AB + "away a from 5 5 to 5 ^4 ;", 4);
        Due.faultAt(AB + "away a from 5 5 to 4 ^365 ;", 4);
        Due.faultAt(AB + "away a from 5 5 to 4 ^366 ;", 4);
        Due.faultAt(AB + "away a from 5 5 to 4 ^x ;", 1);
        Due.faultAt(AB + "away a from 1 0 to 0 ^9999;", 4);
        Due.says("5 one too many: the words person, away, secret of one more; behind on a PERSON on whom 6 call.");
        Due.faultAt(Due.persons(12) + "^person", 5);
        Due.faultAt("person a born 1;" + times("away a from 0 0 to 0 0;", 12) + "^away", 5);
        Due.faultAt(AB + "secret p with a from 0 0;secret q with a from 0 0;secret r with a from 0 0;secret s with a from 0 0;^secret", 5);
        Due.faultAt(AB + "calls a on ^away;", 1);
    }

    private static void asksAll(SecretDays x, int[] into) {
        int i = 0;
        for (int what = 0; what < 7; what++) {
            into[i++] = x.count(what);
        }
        for (int p = 0; p < 3; p++) {
            for (int what = 0; what < 5; what++) {
                into[i++] = x.person(p, what);
            }
            into[i++] = x.soonest(0, p);
            into[i++] = x.soonest(1, p);
            into[i++] = x.instead(p);
            into[i++] = x.away(p, 7);
        }
        into[i++] = x.holds();
        into[i++] = x.wrong();
        into[i++] = x.began(0);
        into[i] = x.letIn(0, 2, 4391, 0, 0);
    }

    private static void afterFaults() {
        Due.says("`int town()`: The TAPE is read as a TOWN: 0, or its FAULT (all stays then).");
        SecretDays x = Due.told("leap 2;person a born 1 name 9 ill 5;person b born 3;person c born 6;calls b on a;calls c on b;"
            + "away c from 0 7 to 0 8;secret s with a from 0 0;secret t with b from 0 2;");
        x.law(true);
        x.report(2, 0, 6, false);
        x.report(1, 0, 3, true);
        x.mark(1, false);
        int[] before = new int[40];
        int[] behind = new int[40];
        asksAll(x, before);
        String[] texts = {"leap 4;", "+", "law names;person z born 0;secret s with z from 3 3", "person a born 5;calls a on b;",
            "leap 1;" + Due.persons(12) + "person m", "law names;law"};
        for (String text : texts) {
            Due.due("a fault in [" + text + "]", Due.read(x, text) != 0, true);
            asksAll(x, behind);
            for (int i = 0; i < before.length; i++) {
                Due.due("answer " + i + " behind [" + text + "]", behind[i], before[i]);
            }
            Due.due("marks stay", x.mark(1, true), true);
            Due.due("marks stay", x.mark(0, true), false);
        }
    }

    private static void anotherTown() {
        Due.says("Without a FAULT it is the TOWN from then on; what was known is gone, MARKS too.");
        for (String text : new String[] {"", "person x born 3;"}) {
            SecretDays x = Due.told("leap 2;person a born 1 name 9 ill 5;person b born 3;calls b on a;away b from 0 7 to 0 8;"
                + "secret s with a from 0 0;law names;");
            x.report(1, 0, 3, true);
            for (int mark = 0; mark < 4; mark++) {
                x.mark(mark, false);
            }
            Due.due("town of [" + text + "]", Due.read(x, text), 0);
            int persons = text.isEmpty() ? 0 : 1;
            for (int what = 0; what < 8; what++) {
                Due.due("count " + what, x.count(what), what == 0 ? persons : 0);
            }
            for (int mark = 0; mark < 4; mark++) {
                Due.due("mark " + mark, x.mark(mark, true), false);
            }
            int[] want = {3, -1, 0, 0, 0};
            for (int what = 0; what < 5; what++) {
                Due.due("person 0 " + what, x.person(0, what), persons == 0 ? -1 : want[what]);
                Due.due("person 1 " + what, x.person(1, what), -1);
            }
            Due.due("away", x.away(0, 7), persons == 0 ? -1 : 0);
            Due.due("soonest", x.soonest(0, 0), -1);
            Due.due("holds", x.holds(), 1);
            Due.due("no report about it", x.wrong(), persons);
        }
        // In the first town a tells b; in the second b does not call on a any more.
        SecretDays x = Due.told(AB + "person c born 3;calls b on a;secret s with a from 0 0;");
        Due.due("c is born on any day", x.instead(2), 0);
        Due.due("anew", Due.read(x, AB + "secret s with a from 0 0;"), 0);
        x.report(1, 0, 4391, false);
        Due.due("b never has it", x.soonest(0, 1), -1);
        Due.due("whenever b is born", x.instead(1), 0);
        Due.due("whenever a is born", x.instead(0), 0);
        x = Due.told("person a born 1;secret s with a from 0 0;");
        x.report(0, 0, 0, false);
        Due.due("holds not", x.holds(), 0);
        Due.due("the same again", Due.read(x, "person a born 1;secret s with a from 0 0;"), 0);
        Due.due("no report", x.count(6), 0);
        Due.due("holds", x.holds(), 1);
    }

    public static void main(String[] args) {
        nobody();
        signs();
        fullTape();
        taken();
        tokens();
        leapAndLaw();
        person();
        calls();
        away();
        secret();
        names();
        placeOfFaults();
        kinds();
        afterFaults();
        anotherTown();
        Due.end();
    }
}
