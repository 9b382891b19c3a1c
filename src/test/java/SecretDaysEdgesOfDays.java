/**
 * The document's sentences about DATES and how a SECRET goes round that name a boundary, each by
 * itself (promises 4 to 15, "==== 2. DATES").
 */
public final class SecretDaysEdgesOfDays {
    private static final int YEAR = 366;
    private static final int LAST = 4391;

    private static void years() {
        Due.says("YEARS 0 to 11 have DAYS 0 to 365;");
        SecretDays x = new SecretDays();
        Due.due("first", x.date(0, 0), 0);
        Due.due("last of the first year", x.date(0, 365), 365);
        Due.due("first of the last year", x.date(11, 0), 4026);
        Due.due("last", x.date(11, 365), LAST);
        Due.due("year -1", x.date(-1, 365), -1);
        Due.due("year 12", x.date(12, 0), -1);
        Due.due("day -1", x.date(1, -1), -1);
        Due.due("day 366", x.date(0, 366), -1);
        Due.due("day 366 of the last year", x.date(11, 366), -1);
        Due.says("`int date(int year, int day)`: The number of a DATE; NONE: it is not there.");
        for (int far : Due.FAR) {
            Due.due("year " + far, x.date(far, 0), -1);
            Due.due("day " + far, x.date(0, far), -1);
            Due.due("both " + far, x.date(far, far), -1);
        }
        // 11734883 * 366 + 118 is 2 to the 32nd.
        Due.due("a year that wraps round", x.date(11734883, 118), -1);
        Due.due("a day that wraps round", x.date(1, Integer.MAX_VALUE - 300), -1);
        Due.says("DAY 59 is there in leap YEARS alone (the YEAR modulo 4 is leap).");
        for (int leap = 0; leap < 4; leap++) {
            x = Due.told("leap " + leap + ";person a born 59;");
            for (int year = 0; year < 12; year++) {
                boolean there = year % 4 == leap;
                int date = year * YEAR + 59;
                Due.due("leap " + leap + ", date " + year + " 59", x.date(year, 59), there ? date : -1);
                Due.due("leap " + leap + ", free on it in " + year, x.free(0, date), there ? 1 : -1);
                Due.due("leap " + leap + ", away on it in " + year, x.away(0, date), there ? 0 : -1);
                Due.due("58", x.date(year, 58), date - 1);
                Due.due("60", x.date(year, 60), date + 1);
            }
        }
        Due.says("A DATE as a number is YEAR * 366 + DAY (0 to 4391);");
        for (int year = 0; year < 12; year++) {
            x = Due.told("person a born 5;away a from 0 0 to 11 365;");
            for (int day = 0; day < YEAR; day++) {
                boolean there = day != 59 || year % 4 == 0;
                Due.due("date " + year + " " + day, x.date(year, day), there ? year * YEAR + day : -1);
            }
        }
    }

    private static void skipped() {
        Due.says("those that are not there are skipped.");
        SecretDays x = Due.told("leap 1;person a born 59;person b born 3;calls b on a;secret s with a from 0 0;");
        Due.due("free on 59 of year 0", x.free(0, 59), -1);
        Due.due("free on 59 of year 1", x.free(0, 425), 1);
        Due.due("nobody is told on a DATE that is not there", x.soonest(0, 1), 425);
        Due.due("three times in all", x.cut(0, 1, LAST), 3);
        Due.due("letIn", x.letIn(0, 1, 424, 0, 0), -1);
        Due.due("letIn", x.letIn(0, 1, 425, 0, 0), 2);
        Due.due("no draw on it", x.runs(1, 1, 0, 1, LAST, 1), 425);
        x = Due.told("leap 3;person a born 59;person b born 3;calls b on a;secret s with a from 8 60;");
        Due.due("the last one", x.soonest(0, 1), 11 * YEAR + 59);
        x = Due.told("leap 2;person a born 59;person b born 3;calls b on a;secret s with a from 10 60;");
        Due.due("none comes", x.soonest(0, 1), -1);
        x = Due.told("leap 1;person a born 58 name 60;person b born 1;calls b on a;secret s with a from 0 59;law names;");
        Due.due("it begins on a DATE that is not there", x.soonest(0, 0), 59);
        Due.due("known ahead of it", x.knows(0, 58), 0);
        Due.due("known on it", x.knows(0, 59), 1);
        Due.due("told behind it", x.soonest(0, 1), 60);
    }

    private static void free() {
        Due.says("FREE days of a PERSON: the birthday, and the name day if the law is so, on each of which that one is not AWAY");
        SecretDays x = Due.told("person a born 0 name 365;person b born 365;away a from 1 0 to 1 0;away a from 2 365 to 3 0;"
            + "away b from 0 0 to 11 365;law names;");
        Due.due("birthday, the first DATE", x.free(0, 0), 1);
        Due.due("the day behind it", x.free(0, 1), 0);
        Due.due("the day ahead of the name day", x.free(0, 364), 0);
        Due.due("name day", x.free(0, 365), 1);
        Due.due("away on the birthday", x.free(0, YEAR), 0);
        Due.due("not on the name day", x.free(0, YEAR + 365), 1);
        Due.due("not on the birthday", x.free(0, 2 * YEAR), 1);
        Due.due("away on the name day", x.free(0, 2 * YEAR + 365), 0);
        Due.due("away on the birthday of the year behind", x.free(0, 3 * YEAR), 0);
        Due.due("the last DATE", x.free(0, LAST), 1);
        Due.due("always away", x.free(1, LAST), 0);
        x.law(false);
        Due.due("name day without the law", x.free(0, 365), 0);
        Due.due("birthday without the law", x.free(0, 0), 1);
        x = Due.told("person a born 5;law names;");
        Due.due("no name day: the last DATE", x.free(0, LAST), 0);
        Due.due("no name day: the first DATE", x.free(0, 0), 0);
        Due.says("(on both if they are one: once).");
        x = Due.told("leap 3;person a born 10 name 10 ill 39;person b born 59;calls b on a;secret s with a from 0 0;law names;");
        Due.due("free", x.free(0, 10), 1);
        Due.due("one door", x.cut(0, 1, 10), 1);
        Due.due("one door a year", x.cut(0, 1, LAST), 12);
        // Seed 1 draws 38, 58: ill in year 0, well in year 1.
        Due.due("one draw", x.runs(1, 1, 0, 1, LAST, 1), 376);
        Due.says("`int free(int person, int date)`: Whether a DATE is a FREE day of a PERSON: 1 or 0; NONE: others, no such DATE.");
        x = Due.told("person a born 0;person b born 365;");
        Due.due("person 2", x.free(2, 0), -1);
        Due.due("person -1", x.free(-1, 0), -1);
        Due.due("date -1", x.free(0, -1), -1);
        Due.due("date 4392", x.free(0, 4392), -1);
        Due.due("59 of year 1", x.free(0, 425), -1);
        for (int far : Due.FAR) {
            Due.due("person " + far, x.free(far, 0), -1);
            Due.due("date " + far, x.free(0, far), -1);
        }
    }

    private static void away() {
        Due.says("`int away(int person, int date)`: Whether a PERSON is AWAY on a DATE: 1 or 0; NONE: likewise.");
        SecretDays x = Due.told("leap 1;person a born 5;person b born 6;away a from 0 0 to 0 0;away a from 0 58 to 0 60;away a from 3 7 to 4 7;"
            + "away a from 4 8 to 4 8;away a from 11 365 to 11 365;away b from 5 59 to 5 59;away b from 6 59 to 6 59;");
        int[] dates = {0, 1, 57, 58, 60, 61, 1104, 1105, 1106, 1463, 1464, 1470, 1471, 1472, 1473, 4390, LAST};
        int[] want = {1, 0, 0, 1, 1, 0, 0, 1, 1, 1, 1, 1, 1, 1, 0, 0, 1};
        for (int i = 0; i < dates.length; i++) {
            Due.due("away on " + dates[i], x.away(0, dates[i]), want[i]);
        }
        Due.due("another one is not", x.away(1, 0), 0);
        Due.due("from and to one that is there", x.away(1, 5 * YEAR + 59), 1);
        Due.due("ahead of it", x.away(1, 5 * YEAR + 58), 0);
        Due.due("behind it", x.away(1, 5 * YEAR + 60), 0);
        Due.due("ahead of one that is not there", x.away(1, 6 * YEAR + 58), 0);
        Due.due("behind one that is not there", x.away(1, 6 * YEAR + 60), 0);
        Due.due("59 of year 0", x.away(0, 59), -1);
        Due.due("person 2", x.away(2, 0), -1);
        Due.due("person -1", x.away(-1, 0), -1);
        Due.due("date -1", x.away(0, -1), -1);
        Due.due("date 4392", x.away(0, 4392), -1);
        for (int far : Due.FAR) {
            Due.due("person " + far, x.away(far, 0), -1);
            Due.due("date " + far, x.away(0, far), -1);
        }
        x = Due.told("person a born 5;away a from 0 59 to 0 59;");
        Due.due("on a leap day", x.away(0, 59), 1);
    }

    private static void tells() {
        Due.says("On a DATE each PERSON whose FREE day it is tells all SECRETS that were known to that one when the day began");
        String[] orders = {"a b c d", "d c b a", "b d a c"};
        for (String order : orders) {
            StringBuilder text = new StringBuilder();
            for (String name : order.split(" ")) {
                text.append("person ").append(name).append(" born 10;");
            }
            SecretDays x = Due.told(text + "calls b on a;calls c on b;calls d on c;secret s with a from 0 10;");
            int[] want = {10, 10, 376, 742};
            for (int i = 0; i < 4; i++) {
                int person = order.indexOf((char) ('a' + i)) / 2;
                Due.due(order + ": soonest of " + i, x.soonest(0, person), want[i]);
                Due.due(order + ": letIn", x.letIn(0, person, want[i], 0, 0), i + 1);
                if (i > 0) {
                    Due.due(order + ": a day too soon", x.letIn(0, person, want[i] - 1, 0, 0), -1);
                    Due.due(order + ": cut", x.cut(0, person, want[i]), 1);
                    Due.due(order + ": cut of the day ahead", x.cut(0, person, want[i] - 1), 0);
                    Due.due(order + ": runs", x.runs(3, 2, 0, person, LAST, 1), 2 * want[i]);
                }
            }
        }
        Due.says("to all who call on that one and are not AWAY then.");
        SecretDays x = Due.told("person a born 10;person b born 1;person c born 1;person d born 1;person e born 1;person f born 1;"
            + "calls b on a;calls c on a;calls d on a;calls e on a;calls a on f;"
            + "away b from 0 10 to 0 10;away c from 0 9 to 0 9;away d from 0 11 to 0 11;away e from 0 11 to 11 365;secret s with a from 0 0;");
        Due.due("away on it", x.soonest(0, 1), 376);
        Due.due("away the day ahead", x.soonest(0, 2), 10);
        Due.due("away the day behind", x.soonest(0, 3), 10);
        Due.due("away for ever behind", x.soonest(0, 4), 10);
        Due.due("a calls there, not the other way round", x.soonest(0, 5), -1);
        x = Due.told("person a born 10 name 20;person b born 1;calls b on a;away a from 0 10 to 0 10;secret s with a from 0 0;secret t with a from 0 11;");
        Due.due("the teller is away", x.soonest(0, 1), 376);
        x.law(true);
        Due.due("but not on the name day", x.soonest(0, 1), 20);
        Due.due("all secrets", x.soonest(1, 1), 20);
        Due.says("With whom a SECRET begins knows it from its DATE on (when that day begins).");
        String ab = "person a born 10;person b born 1;calls b on a;";
        x = Due.told(ab + "secret p with a from 0 9;secret q with a from 0 10;secret r with a from 0 11;secret s with a from 11 10;");
        Due.due("the day ahead", x.soonest(0, 1), 10);
        Due.due("on the day", x.soonest(1, 1), 10);
        Due.due("the day behind", x.soonest(2, 1), 376);
        Due.due("the last", x.soonest(3, 1), 4036);
        Due.due("knows it on the day", x.knows(1, 10), 3);
        Due.due("not ahead of it", x.knows(1, 9), 0);
        Due.due("runs on the day", x.runs(0, 1, 1, 1, 10, 0), 1);
        Due.due("runs the day behind", x.runs(0, 1, 2, 1, 375, 0), 0);
        x = Due.told(ab + "calls a on b;secret s with a from 11 11;secret t with b from 0 1;secret u with a from 11 365;");
        Due.due("too late", x.soonest(0, 1), -1);
        Due.due("told a before a's own birthday", x.soonest(1, 0), 1);
        Due.due("the last DATE", x.soonest(2, 0), LAST);
    }

    private static void ends() {
        Due.says("SOONEST: the DATE on which one has a SECRET (the beginner: from when it is with that one).");
        SecretDays x = Due.told("person a born 0;person b born 365;person c born 7;calls b on a;calls c on b;secret s with a from 0 0;"
            + "secret t with b from 11 365;secret u with c from 0 0;");
        Due.due("on the first DATE", x.soonest(0, 1), 0);
        Due.due("the beginner", x.soonest(0, 0), 0);
        Due.due("on the last DATE", x.soonest(1, 2), LAST);
        Due.due("the beginner", x.soonest(1, 1), LAST);
        Due.due("by", x.by(0, 1), 0);
        Due.due("hands", x.hands(0, 1), 1);
        Due.due("ways", x.ways(0, 1), 1);
        Due.due("knows", x.knows(0, 0), 3);
        Due.due("cant", x.cant(0, 0), 4);
        Due.due("knows", x.knows(1, LAST), 6);
        Due.due("knows", x.knows(1, LAST - 1), 0);
        Due.due("cant", x.cant(1, LAST), 1);
        Due.due("cut on the first DATE", x.cut(0, 1, 0), 1);
        Due.due("cut on the last DATE", x.cut(1, 2, LAST), 1);
        Due.due("letIn on the first DATE", x.letIn(0, 1, 0, 0, 0), 2);
        Due.due("letIn on the last DATE", x.letIn(1, 2, LAST, 4, LAST), 2);
        Due.due("runs on the last DATE", x.runs(7, 20, 1, 2, LAST, 1), 20 * LAST);
        Due.due("runs ahead of it", x.runs(7, 20, 1, 2, LAST - 1, 0), 0);
        Due.says("`int soonest(int secret, int person)`: SOONEST; NONE: others, never.");
        Due.due("never", x.soonest(2, 0), -1);
        Due.due("secret 3", x.soonest(3, 0), -1);
        Due.due("person 3", x.soonest(0, 3), -1);
        Due.says("`int by(int secret, int person)`: BY; NONE: others, never, nobody.");
        Due.due("never", x.by(2, 0), -1);
        Due.due("nobody", x.by(2, 2), -1);
        Due.due("secret 3", x.by(3, 1), -1);
        Due.due("person 3", x.by(0, 3), -1);
        Due.says("`int hands(int secret, int person)`: HANDS; NONE: others, never.");
        Due.due("never", x.hands(2, 0), -1);
        Due.due("the beginner", x.hands(2, 2), 0);
        Due.due("secret 3", x.hands(3, 1), -1);
        Due.due("person 3", x.hands(0, 3), -1);
        Due.says("`int ways(int secret, int person)`: WAYS (0: never); NONE: others.");
        Due.due("never", x.ways(2, 0), 0);
        Due.due("the beginner", x.ways(2, 2), 1);
        Due.due("secret 3", x.ways(3, 1), -1);
        Due.due("person 3", x.ways(0, 3), -1);
        for (int far : Due.FAR) {
            Due.due("soonest, secret " + far, x.soonest(far, 0), -1);
            Due.due("soonest, person " + far, x.soonest(0, far), -1);
            Due.due("by, secret " + far, x.by(far, 1), -1);
            Due.due("by, person " + far, x.by(0, far), -1);
            Due.due("hands, secret " + far, x.hands(far, 0), -1);
            Due.due("hands, person " + far, x.hands(0, far), -1);
            Due.due("ways, secret " + far, x.ways(far, 0), -1);
            Due.due("ways, person " + far, x.ways(0, far), -1);
        }
    }

    private static void byAndHands() {
        Due.says("BY: who told it on that DATE, the least (the beginner: none).");
        // z is told on 20 as well and so tells nothing that day; w is told on 20 and tells t a year later.
        SecretDays x = Due.told("person z born 20;person t born 1;person w born 19;person y born 20;person x born 20;person a born 10;"
            + "calls y on a;calls x on a;calls z on x;calls w on x;calls t on x y z w;secret s with a from 0 0;");
        Due.due("the least that knew it", x.by(0, 1), 3);
        Due.due("soonest", x.soonest(0, 1), 20);
        Due.due("ways of these alone", x.ways(0, 1), 2);
        Due.due("hands", x.hands(0, 1), 2);
        Due.due("the one that z calls on", x.by(0, 0), 4);
        Due.due("the beginner", x.by(0, 5), -1);
        x = Due.told("person a born 30;person b born 20;person c born 5;calls b on a;calls c on a b;calls a on b;secret s with a from 0 0;");
        Due.due("the only one on that DATE", x.by(0, 2), 0);
        Due.due("a year later it would be b", x.soonest(0, 2), 30);
        Due.due("the beginner is told again", x.by(0, 0), -1);
        Due.due("the beginner is told again", x.soonest(0, 0), 0);
        Due.due("the beginner is told again", x.hands(0, 0), 0);
        Due.due("the beginner is told again", x.ways(0, 0), 1);
        Due.says("HANDS: how many tellings are between the beginner and one, by BY, by BY of that one, and so on.");
        // x and the beginner tell t on one DATE: the least of both is x in one town, the beginner in the other.
        String rest = "person t born 1;calls x on a;calls t on a x;away t from 0 10 to 0 10;secret s with a from 0 0;law names;";
        x = Due.told("person x born 20;person a born 10 name 20;" + rest);
        Due.due("x is the least", x.by(0, 2), 0);
        Due.due("through x", x.hands(0, 2), 2);
        Due.due("either way", x.ways(0, 2), 2);
        x = Due.told("person a born 10 name 20;person x born 20;" + rest);
        Due.due("the beginner is the least", x.by(0, 2), 0);
        Due.due("from the beginner", x.hands(0, 2), 1);
        Due.due("either way", x.ways(0, 2), 2);
        x = Due.told(Due.persons(12) + "calls b on a;calls c on b;calls d on c;calls e on d;calls f on e;calls g on f;calls h on g;calls i on h;"
            + "calls j on i;calls k on j;calls l on k;secret s with a from 0 1;");
        for (int i = 0; i < 12; i++) {
            Due.due("hands of " + i, x.hands(0, i), i);
            Due.due("soonest of " + i, x.soonest(0, i), Math.max(1, i));
            Due.due("ways of " + i, x.ways(0, i), 1);
            Due.due("by of " + i, x.by(0, i), i - 1);
        }
        Due.says("WAYS: 1 for the beginner; of another one the WAYS of all who tell it to that one on the SOONEST DATE, together,");
        x = Due.told("person a born 10;person b born 20;person c born 20;person d born 20;person e born 30;person f born 30;person g born 40;"
            + "person h born 41;calls b on a;calls c on a;calls d on a;calls e on b c d;calls f on c d;calls g on e f d;calls h on g f e;"
            + "away g from 0 20 to 0 20;away h from 0 30 to 0 30;secret s with a from 0 0;");
        int[] ways = {1, 1, 1, 1, 3, 2, 5, 5};
        for (int i = 0; i < 8; i++) {
            Due.due("ways of " + i, x.ways(0, i), ways[i]);
        }
        // Three in each row: 3 * 3 * 3 ways to the last.
        x = Due.told("person a born 1;person b born 2;person c born 2;person d born 2;person e born 3;person f born 3;person g born 3;"
            + "person h born 4;person i born 4;person j born 4;person k born 5;calls b on a;calls c on a;calls d on a;calls e on b c d;"
            + "calls f on b c d;calls g on b c d;calls h on e f g;calls i on e f g;calls j on e f g;calls k on h i j;secret s with a from 0 0;");
        Due.due("ways of e", x.ways(0, 4), 3);
        Due.due("ways of j", x.ways(0, 9), 9);
        Due.due("ways of k", x.ways(0, 10), 27);
        Due.due("hands of k", x.hands(0, 10), 4);
    }

    private static void sets() {
        SecretDays x = Due.told("person a born 10;person b born 20;person c born 30;calls b on a;calls c on b;secret s with a from 0 5;"
            + "secret t with c from 0 0;");
        Due.says("CAN'T: PERSONS that have a SECRET not by a DATE (that DATE too).");
        int[] dates = {0, 4, 5, 9, 10, 19, 20, LAST};
        int[] cant = {7, 7, 6, 6, 4, 4, 0, 0};
        for (int i = 0; i < dates.length; i++) {
            Due.due("cant " + dates[i], x.cant(0, dates[i]), cant[i]);
        }
        Due.due("never", x.cant(1, LAST), 3);
        Due.says("`int knows(int secret, int date)`: Who knows a SECRET behind a DATE if all let in all, as bits; NONE: others.");
        for (int i = 0; i < dates.length; i++) {
            Due.due("knows " + dates[i], x.knows(0, dates[i]), 7 - cant[i]);
        }
        Due.due("knows", x.knows(1, LAST), 4);
        Due.due("secret 2", x.knows(2, 0), -1);
        Due.due("date 4392", x.knows(0, 4392), -1);
        Due.due("date -1", x.knows(0, -1), -1);
        Due.says("`int cant(int secret, int date)`: CAN'T, as bits; NONE: others (DATES 0 to 4391 here and below).");
        Due.due("59 of year 1 is taken", x.cant(0, 425), 0);
        Due.due("59 of year 1 is taken", x.knows(0, 425), 7);
        Due.due("secret 2", x.cant(2, 0), -1);
        Due.due("date 4392", x.cant(0, 4392), -1);
        Due.due("date -1", x.cant(0, -1), -1);
        Due.says("ALL: the DATE on which the last of all has it.");
        Due.due("all", x.all(0), 20);
        Due.due("one alone", Due.told("person a born 1;secret s with a from 3 59;").all(0), 3 * YEAR + 59);
        Due.due("the last is not the last told", Due.told("person b born 9;person c born 1;person a born 5;calls b on a;calls c on b;"
            + "secret s with a from 0 0;").all(0), 9);
        Due.due("the last is the first told", Due.told("person c born 1;person b born 9;person a born 5;calls b on a;calls c on b;"
            + "secret s with a from 0 0;").all(0), 9);
        Due.says("`int all(int secret)`: ALL; NONE: none such, never.");
        Due.due("never", x.all(1), -1);
        Due.due("secret 2", x.all(2), -1);
        Due.due("the first never", Due.told("person a born 1;person b born 2;secret s with b from 0 0;").all(0), -1);
        Due.due("the last never", Due.told("person a born 1;person b born 2;secret s with a from 0 0;").all(0), -1);
        for (int far : Due.FAR) {
            Due.due("cant, secret " + far, x.cant(far, 0), -1);
            Due.due("cant, date " + far, x.cant(0, far), -1);
            Due.due("knows, secret " + far, x.knows(far, 0), -1);
            Due.due("knows, date " + far, x.knows(0, far), -1);
            Due.due("all, secret " + far, x.all(far), -1);
        }
        x = Due.told(Due.persons(12) + "secret s with l from 0 0;");
        Due.due("twelve bits", x.cant(0, LAST), 2047);
        Due.due("the twelfth bit", x.knows(0, LAST), 2048);
    }

    private static void lawAndPerson() {
        Due.says("`boolean law(boolean names)`: The law: name days are FREE (or not).");
        SecretDays x = Due.told("person a born 300 name 10;person b born 310 name 20;person c born 1;calls b on a;calls c on b;secret s with a from 0 0;");
        Due.due("as told", x.soonest(0, 2), 310);
        for (int i = 0; i < 2; i++) {
            Due.due("law(true)", x.law(true), true);
            Due.due("count", x.count(5), 1);
            Due.due("free", x.free(0, 10), 1);
            Due.due("soonest", x.soonest(0, 2), 20);
            Due.due("cut", x.cut(0, 2, 20), 1);
            Due.due("letIn", x.letIn(0, 2, 20, 0, 0), 3);
        }
        Due.due("law(false)", x.law(false), true);
        Due.due("count", x.count(5), 0);
        Due.due("free", x.free(0, 10), 0);
        Due.due("soonest", x.soonest(0, 2), 310);
        Due.due("cut", x.cut(0, 2, 309), 0);
        Due.due("letIn", x.letIn(0, 2, 309, 0, 0), -1);
        Due.due("a law for nobody", new SecretDays().law(true), true);
        Due.says("`int person(int person, int what)`: Of a PERSON, what 0: born, 1: name day (NONE: none), 2: ill, "
            + "3: who calls on that one, as bits, 4: on whom that one calls; NONE: others.");
        x = Due.told("person a born 0;person b born 365 name 0 ill 99;person c born 59 name 365 ill 1;calls a on b c;calls c on b;");
        int[][] want = {{0, -1, 0, 0, 6}, {365, 0, 99, 5, 0}, {59, 365, 1, 1, 2}};
        for (int p = 0; p < 3; p++) {
            for (int what = 0; what < 5; what++) {
                Due.due("person " + p + " " + what, x.person(p, what), want[p][what]);
            }
            Due.due("what 5", x.person(p, 5), -1);
            Due.due("what -1", x.person(p, -1), -1);
        }
        Due.due("person 3", x.person(3, 0), -1);
        for (int far : Due.FAR) {
            Due.due("person " + far, x.person(far, 0), -1);
            Due.due("what " + far, x.person(0, far), -1);
        }
    }

    public static void main(String[] args) {
        years();
        skipped();
        free();
        away();
        tells();
        ends();
        byAndHands();
        sets();
        lawAndPerson();
        Due.end();
    }
}
