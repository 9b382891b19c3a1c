/**
 * The document's sentences about REPORTS, BEGAN, FALSE, RUNS, MARKS and counts that name a boundary,
 * each by itself (promises 20 to 28, "==== 4." and "==== 5.").
 */
public final class SecretDaysEdgesOfReports {
    private static final int YEAR = 366;
    private static final int LAST = 4391;

    /** s: a from 5, b on 10, c on 20. t: c from 7 of year 1, and nobody else. */
    private static SecretDays chain() {
        return Due.told("person a born 10;person b born 20;person c born 30;calls b on a;calls c on b;secret s with a from 0 5;secret t with c from 1 7;");
    }

    private static int holdsWith(SecretDays x, int person, int secret, int date, boolean knew) {
        x.clear();
        Due.due("report", x.report(person, secret, date, knew), 1);
        return x.holds();
    }

    private static void reports() {
        Due.says("REPORTS, 16 at most:");
        SecretDays x = chain();
        for (int i = 1; i <= 16; i++) {
            Due.due("report " + i, x.report(0, 0, 5, true), i);
            Due.due("count", x.count(6), i);
        }
        Due.due("the 17th", x.report(0, 0, 5, true), -1);
        Due.due("the 17th, that would not hold", x.report(0, 0, 5, false), -1);
        Due.due("16 are there", x.count(6), 16);
        Due.due("all hold", x.holds(), 1);
        x.clear();
        for (int i = 1; i <= 15; i++) {
            x.report(0, 0, 5, true);
        }
        Due.due("the 16th", x.report(0, 0, 5, false), 16);
        Due.due("the 16th counts", x.holds(), 0);
        Due.due("the 16th counts", x.began(0), 0);
        Due.due("the 16th counts", x.wrong(), 0);
        Due.says("a PERSON knew a SECRET on a DATE (when it began, or told that day), or did not yet.");
        int[] had = {5, 10, 20};
        for (int p = 0; p < 3; p++) {
            Due.due("the day ahead, knew", holdsWith(x, p, 0, had[p] - 1, true), 0);
            Due.due("the day ahead, not yet", holdsWith(x, p, 0, had[p] - 1, false), 1);
            Due.due("that day, knew", holdsWith(x, p, 0, had[p], true), 1);
            Due.due("that day, not yet", holdsWith(x, p, 0, had[p], false), 0);
            Due.due("the last DATE, knew", holdsWith(x, p, 0, LAST, true), 1);
            Due.due("the last DATE, not yet", holdsWith(x, p, 0, LAST, false), 0);
            Due.due("DATE 0, not yet", holdsWith(x, p, 0, 0, false), 1);
            Due.due("never, knew", holdsWith(x, p, 1, LAST, true), p == 2 ? 1 : 0);
            Due.due("never, not yet", holdsWith(x, p, 1, LAST, false), p == 2 ? 0 : 1);
        }
        Due.due("a DATE that is not there", holdsWith(x, 2, 0, 425, true), 1);
        Due.says("`int report(int person, int secret, int date, boolean knew)`: A REPORT: how many there are; NONE: others, 16 are there.");
        x = chain();
        Due.due("person 3", x.report(3, 0, 0, true), -1);
        Due.due("secret 2", x.report(0, 2, 0, true), -1);
        Due.due("date -1", x.report(0, 0, -1, false), -1);
        Due.due("date 4392", x.report(0, 0, 4392, true), -1);
        for (int far : Due.FAR) {
            Due.due("person " + far, x.report(far, 0, 0, true), -1);
            Due.due("secret " + far, x.report(0, far, 0, true), -1);
            Due.due("date " + far, x.report(0, 0, far, true), -1);
        }
        Due.due("none of these is one", x.count(6), 0);
        Due.due("the first", x.report(2, 1, 0, false), 1);
        Due.due("the second", x.report(2, 1, LAST, true), 2);
        Due.due("none of these is one", x.holds(), 1);
        Due.says("`boolean clear()`: No REPORT: true.");
        Due.due("clear", x.clear(), true);
        Due.due("count", x.count(6), 0);
        Due.due("clear again", x.clear(), true);
        Due.due("the first again", x.report(0, 0, 0, true), 1);
        Due.due("holds not", x.holds(), 0);
        x.clear();
        Due.due("holds", x.holds(), 1);
        Due.due("began", x.began(0), 7);
        Due.due("false", x.wrong(), 7);
        Due.says("`int holds()`: Whether all REPORTS hold as all is told: 1 or 0.");
        x.report(0, 0, 5, true);
        x.report(1, 0, 10, true);
        Due.due("both", x.holds(), 1);
        x.report(2, 1, 373, true);
        Due.due("of both secrets", x.holds(), 1);
        x.report(2, 1, 372, true);
        Due.due("one of four not", x.holds(), 0);
    }

    private static void began() {
        Due.says("BEGAN: PERSONS with whom the SECRET may have begun on its DATE so that all REPORTS about it hold.");
        SecretDays x = Due.told("person a born 5;person b born 20;person c born 5;person d born 4;calls b on a;calls d on c;calls c on d;secret s with d from 0 5;"
            + "secret t with a from 0 0;");
        Due.due("no report: all", x.began(0), 15);
        x.report(1, 0, 4, true);
        Due.due("ahead of its DATE: none", x.began(0), 0);
        Due.due("about the other one: all", x.began(1), 15);
        x.clear();
        x.report(1, 0, 4, false);
        Due.due("not yet ahead of its DATE: all", x.began(0), 15);
        x.clear();
        x.report(1, 0, 5, true);
        Due.due("with b, or told that day by a", x.began(0), 3);
        x.clear();
        x.report(1, 0, 5, false);
        Due.due("neither with b nor by a", x.began(0), 12);
        x.clear();
        x.report(3, 0, 5, true);
        Due.due("with d, or told that day by c", x.began(0), 12);
        x.clear();
        x.report(2, 0, 369, true);
        Due.due("with c alone: d's day is over", x.began(0), 4);
        x.clear();
        x.report(2, 0, 370, true);
        Due.due("with c, or by d on 4 of the next year", x.began(0), 12);
        x.report(0, 1, 0, false);
        Due.due("reports about the other one are no matter", x.began(0), 12);
        Due.due("of the other one", x.began(1), 14);
        x.report(2, 0, 370, false);
        Due.due("two that cannot both hold", x.began(0), 0);
        Due.due("not as told alone", x.holds(), 0);
        Due.says("`int began(int secret)`: BEGAN as bits; NONE: none such.");
        Due.due("secret 2", x.began(2), -1);
        for (int far : Due.FAR) {
            Due.due("secret " + far, x.began(far), -1);
        }
        x = Due.told(Due.persons(12) + "secret s with a from 0 0;");
        Due.due("twelve bits", x.began(0), 4095);
        x.report(11, 0, LAST, true);
        Due.due("the twelfth", x.began(0), 2048);
    }

    private static SecretDays pair(int born, String more) {
        return Due.told("person a born " + born + ";person b born 3;calls b on a;secret s with a from 0 0;" + more);
    }

    /** b did not know it on the DATE ahead and knew it on this one. */
    private static void toldOn(SecretDays x, int date) {
        x.clear();
        if (date > 0) {
            x.report(1, 0, date - 1, false);
        }
        x.report(1, 0, date, true);
    }

    private static void wrong() {
        Due.says("FALSE: PERSONS of whom another birthday, all else as told, makes all REPORTS of all SECRETS hold");
        SecretDays x = pair(10, "");
        int[] days = {0, 1, 9, 11, 58, 59, 60, 364, 365};
        for (int day : days) {
            toldOn(x, day);
            Due.due("holds as told", x.holds(), 0);
            Due.due("a on " + day, x.instead(0), day);
            Due.due("a alone", x.wrong(), 1);
            Due.due("b cannot help it", x.instead(1), -1);
        }
        toldOn(x, YEAR);
        Due.due("0 comes sooner", x.wrong(), 0);
        x = pair(10, "leap 2;");
        toldOn(x, 2 * YEAR + 59);
        Due.due("the leap day of year 2", x.instead(0), 59);
        toldOn(x, 59);
        Due.due("it is not there in year 0", x.instead(0), -1);
        x = Due.told("person a born 10;person b born 3;person c born 4;calls b on a;calls c on a;secret s with a from 0 0;secret t with c from 0 0;");
        x.report(1, 0, 10, false);
        x.report(2, 0, 20, true);
        Due.due("all hold on 11", x.instead(0), 11);
        x.report(1, 1, 20, true);
        Due.due("that of the other secret holds not", x.wrong(), 0);
        x.clear();
        x.report(2, 1, 0, true);
        Due.due("of the other secret: all", x.wrong(), 7);
        Due.says("(as told they may hold as well);");
        x = pair(10, "");
        toldOn(x, 10);
        Due.due("as told it holds", x.holds(), 1);
        Due.due("with no other birthday of a, with any other of b", x.wrong(), 2);
        Due.due("a", x.instead(0), -1);
        Due.due("b", x.instead(1), 0);
        x.clear();
        x.report(1, 0, 10, true);
        Due.due("as told it holds", x.holds(), 1);
        Due.due("with others, too", x.wrong(), 3);
        Due.due("a", x.instead(0), 0);
        x.clear();
        x.report(1, 0, 9, false);
        Due.due("a behind 10", x.instead(0), 11);
        Due.says("the first such DAY.");
        x = pair(0, "");
        Due.due("without reports: another than 0", x.instead(0), 1);
        Due.due("without reports: 0", x.instead(1), 0);
        x.report(1, 0, 0, false);
        Due.due("the first behind 0", x.instead(0), 1);
        x = pair(7, "");
        x.report(1, 0, 6, false);
        Due.due("the first that is not its own", x.instead(0), 8);
        x = pair(7, "away a from 0 20 to 0 30;away b from 0 31 to 0 31;");
        toldOn(x, YEAR + 20);
        Due.due("away when the first comes", x.instead(0), 20);
        x.clear();
        x.report(1, 0, 19, false);
        x.report(1, 0, 100, true);
        Due.due("behind a's days and b's", x.instead(0), 32);
        x = Due.told("person a born 10 name 40;person b born 3;calls b on a;secret s with a from 0 0;law names;");
        toldOn(x, 40);
        Due.due("the name day stays: the first is behind it", x.instead(0), 40);
        toldOn(x, 41);
        Due.due("the name day stays", x.instead(0), -1);
        x.law(false);
        Due.due("not without the law", x.instead(0), 41);
        x = Due.told(Due.persons(12) + "calls l on k;secret s with k from 0 0;");
        x.report(11, 0, 365, false);
        Due.due("the twelfth cannot, the eleventh cannot", x.wrong(), 0);
        x.clear();
        x.report(11, 0, 11, false);
        Due.due("the eleventh", x.wrong(), 1024);
        Due.due("the eleventh", x.instead(10), 12);
        Due.says("`int wrong()`: FALSE as bits.");
        Due.due("nobody", new SecretDays().wrong(), 0);
        Due.due("no secret, no report", Due.told(Due.persons(12)).wrong(), 4095);
        Due.due("one", Due.told(Due.persons(1)).wrong(), 1);
        Due.says("`int instead(int person)`: The first DAY for a PERSON that is FALSE; NONE: others.");
        x = Due.told(Due.persons(2));
        Due.due("person 2", x.instead(2), -1);
        Due.due("person -1", x.instead(-1), -1);
        for (int far : Due.FAR) {
            Due.due("person " + far, x.instead(far), -1);
        }
    }

    private static long g;

    private static int draw() {
        g = (g * 1103515245L + 12345L) % 2147483648L;
        return (int) (g / 65536L % 100L);
    }

    private static SecretDays colds(int illA, String more) {
        return Due.told("leap 3;person a born 10 ill " + illA + ";person b born 59;calls b on a;secret s with a from 0 0;" + more);
    }

    private static void draws() {
        Due.says("A DRAW below m: g becomes (g * 1103515245 + 12345) modulo 2147483648 (g is the SEED at first); it is g / 65536, cut, modulo m.");
        for (int seed : new int[] {0, 1, 2, 3, 4, 100, 2222, 5000, 9998, 9999}) {
            g = seed;
            int first = draw();
            int second = draw();
            Due.due("seed " + seed + ", ill " + first, colds(first, "").runs(seed, 1, 0, 1, 10, 0), 1);
            if (first < 99) {
                Due.due("seed " + seed + ", ill " + (first + 1), colds(first + 1, "").runs(seed, 1, 0, 1, 10, 0), 0);
            }
            int worse = Math.max(first, second);
            if (first < second) {
                Due.due("the second DRAW of seed " + seed, colds(worse, "").runs(seed, 1, 0, 1, YEAR + 10, 1), YEAR + 10);
                Due.due("the second DRAW of seed " + seed, second < 99 ? colds(worse + 1, "").runs(seed, 1, 0, 1, YEAR + 10, 0) : 0, 0);
            }
        }
        Due.says("is ill (and tells nothing) if a DRAW below 100 is below that one's ill");
        // Seed 0 draws 0 first.
        Due.due("0 is not below 0", colds(0, "").runs(0, 1, 0, 1, 10, 0), 1);
        Due.due("0 is below 1", colds(1, "").runs(0, 1, 0, 1, 10, 0), 0);
        Due.due("never ill", colds(0, "").runs(77, 20, 0, 1, 10, 0), 20);
        Due.due("never ill", colds(0, "").runs(77, 20, 0, 1, 10, 1), 200);
        Due.says("(drawn also if that is 0, and if nothing is known).");
        // Seed 1 draws 38, 58, 13, 15, 51.
        SecretDays x = Due.told("leap 3;person a born 10 ill 39;person b born 59;person c born 9;calls b on a;secret s with a from 0 0;");
        Due.due("c draws 38, a 58", x.runs(1, 1, 0, 1, 10, 0), 1);
        x = Due.told("leap 3;person a born 10 ill 14;person b born 59;calls b on a;secret s with a from 2 0;");
        Due.due("38 and 58 are drawn ahead of the secret, 13 on its first day", x.runs(1, 1, 0, 1, 2 * YEAR + 10, 0), 0);
        Due.due("15 a year later", x.runs(1, 1, 0, 1, LAST, 1), 3 * YEAR + 10);
        Due.says("YEARS with colds: DATE by DATE, each PERSON whose FREE day it is, in order,");
        x = Due.told("leap 3;person a born 10 ill 39;person c born 10 ill 58;person b born 59;calls b on a;secret s with a from 0 0;secret t with c from 0 0;calls b on c;");
        Due.due("a draws 38", x.runs(1, 1, 0, 2, 10, 0), 0);
        Due.due("c draws 58", x.runs(1, 1, 1, 2, 10, 0), 1);
        x = Due.told("leap 3;person c born 10 ill 39;person a born 10 ill 58;person b born 59;calls b on a;secret s with a from 0 0;secret t with c from 0 0;calls b on c;");
        Due.due("now c draws 38", x.runs(1, 1, 1, 2, 10, 0), 0);
        Due.due("now a draws 58", x.runs(1, 1, 0, 2, 10, 0), 1);
        x = Due.told("leap 3;person a born 20 ill 58;person c born 10 ill 99;person b born 59;calls b on a;secret s with a from 0 0;");
        Due.due("the DATE comes before the number", x.runs(1, 1, 0, 2, 20, 0), 1);
        x = colds(39, "away a from 0 10 to 0 10;");
        Due.due("away on the birthday: no draw", x.runs(1, 1, 0, 1, YEAR + 10, 0), 0);
        x = colds(39, "away b from 0 10 to 0 10;");
        Due.due("the guest away: a draw", x.runs(1, 1, 0, 1, YEAR + 10, 0), 1);
        x = Due.told("leap 3;person a born 10 name 9 ill 39;person b born 59;calls b on a;secret s with a from 0 0;");
        Due.due("no law: one draw a year", x.runs(1, 1, 0, 1, LAST, 1), YEAR + 10);
        x.law(true);
        Due.due("the law: two", x.runs(1, 1, 0, 1, LAST, 1), 10);
    }

    private static void runs() {
        Due.says("RUNS (1 to 20) go on one behind the other:");
        SecretDays x = colds(60, "");
        for (int runs = 1; runs <= 20; runs++) {
            g = 4711;
            int times = 0;
            int sum = 0;
            for (int run = 0; run < runs; run++) {
                int had = -1;
                for (int year = 0; year < 12; year++) {
                    boolean well = draw() >= 60;
                    had = had == -1 && well ? year * YEAR + 10 : had;
                    // b's birthday
                    if (year % 4 == 3) {
                        draw();
                    }
                }
                times += had != -1 && had <= YEAR + 10 ? 1 : 0;
                sum += had != -1 && had <= YEAR + 10 ? had : 0;
            }
            Due.due(runs + " runs", x.runs(4711, runs, 0, 1, YEAR + 10, 0), times);
            Due.due(runs + " runs, the sum", x.runs(4711, runs, 0, 1, YEAR + 10, 1), sum);
        }
        Due.due("0 runs", x.runs(1, 0, 0, 1, LAST, 0), -1);
        Due.due("21 runs", x.runs(1, 21, 0, 1, LAST, 0), -1);
        Due.says("in how many one has a SECRET by a DATE; the sum of the DATES on which it is had in these.");
        x = colds(0, "");
        Due.due("on the DATE", x.runs(5, 3, 0, 1, 10, 0), 3);
        Due.due("on the DATE", x.runs(5, 3, 0, 1, 10, 1), 30);
        Due.due("the day ahead", x.runs(5, 3, 0, 1, 9, 0), 0);
        Due.due("the day ahead", x.runs(5, 3, 0, 1, 9, 1), 0);
        Due.due("a later DATE", x.runs(5, 3, 0, 1, LAST, 1), 30);
        Due.due("the beginner", x.runs(5, 20, 0, 0, 0, 0), 20);
        Due.due("never", x.runs(5, 20, 0, 0, 0, 1), 0);
        x = Due.told("person a born 10 ill 99;person b born 1;secret s with a from 3 4;");
        Due.due("the beginner, ill or not", x.runs(5, 2, 0, 0, 3 * YEAR + 4, 1), 2 * (3 * YEAR + 4));
        Due.due("the beginner the day ahead", x.runs(5, 2, 0, 0, 3 * YEAR + 3, 0), 0);
        Due.due("never", x.runs(5, 2, 0, 1, LAST, 0), 0);
        Due.due("never", x.runs(5, 2, 0, 1, LAST, 1), 0);
        Due.says("RUNS by a SEED (0 to 9999), what 0: in how many, 1: the sum; NONE: others.");
        Due.due("seed 0", x.runs(0, 1, 0, 0, LAST, 0), 1);
        Due.due("seed 9999", x.runs(9999, 1, 0, 0, LAST, 0), 1);
        Due.due("seed -1", x.runs(-1, 1, 0, 0, LAST, 0), -1);
        Due.due("seed 10000", x.runs(10000, 1, 0, 0, LAST, 0), -1);
        Due.due("secret 1", x.runs(1, 1, 1, 0, LAST, 0), -1);
        Due.due("person 2", x.runs(1, 1, 0, 2, LAST, 0), -1);
        Due.due("by -1", x.runs(1, 1, 0, 0, -1, 0), -1);
        Due.due("by 4392", x.runs(1, 1, 0, 0, 4392, 0), -1);
        Due.due("by one that is not there", x.runs(1, 1, 0, 0, 5 * YEAR + 59, 0), 1);
        Due.due("what 2", x.runs(1, 1, 0, 0, LAST, 2), -1);
        Due.due("what -1", x.runs(1, 1, 0, 0, LAST, -1), -1);
        for (int far : Due.FAR) {
            Due.due("seed " + far, far == 4392 || far == 8192 ? -1 : x.runs(far, 1, 0, 0, LAST, 0), -1);
            Due.due("runs " + far, x.runs(1, far, 0, 0, LAST, 0), -1);
            Due.due("secret " + far, x.runs(1, 1, far, 0, LAST, 0), -1);
            Due.due("person " + far, x.runs(1, 1, 0, far, LAST, 0), -1);
            Due.due("by " + far, x.runs(1, 1, 0, 0, far, 0), -1);
            Due.due("what " + far, x.runs(1, 1, 0, 0, LAST, far), -1);
        }
    }

    private static void marks() {
        Due.says("MARKS 0 to 3 hold the TOWN, REPORTS, the law (which can be changed by hand).");
        SecretDays x = Due.told("leap 1;person a born 10 name 8 ill 4;person b born 20;person c born 30;calls b on a;calls c on b;away c from 0 9 to 0 9;"
            + "secret s with a from 0 5;");
        for (int mark = 0; mark < 4; mark++) {
            x.clear();
            x.law(mark % 2 == 1);
            for (int i = 0; i < 5 * mark + 1; i++) {
                x.report(1, 0, 8, mark % 2 == 1);
            }
            Due.due("lay " + mark, x.mark(mark, false), true);
        }
        x.clear();
        x.report(1, 0, 0, true);
        for (int i = 0; i < 8; i++) {
            int mark = i * 5 % 4;
            x.law(mark % 2 == 0);
            Due.due("back to " + mark, x.mark(mark, true), true);
            Due.due("reports", x.count(6), 5 * mark + 1);
            Due.due("law", x.count(5), mark % 2);
            Due.due("they hold", x.holds(), 1);
            Due.due("soonest", x.soonest(0, 1), mark % 2 == 1 ? 8 : 10);
            Due.due("persons, calls, away, leap", x.count(0) * 1000 + x.count(2) * 100 + x.count(3) * 10 + x.count(4), 3211);
            Due.due("ill", x.person(0, 2), 4);
            Due.due("room for more", x.report(1, 0, 0, true), mark == 3 ? -1 : 5 * mark + 2);
            Due.due("what comes behind is not on the mark", x.clear(), true);
        }
        Due.says("A MARK is laid (back: gone back to): true; false: none such, nothing is on it (back).");
        x = chain();
        for (int mark = 0; mark < 4; mark++) {
            Due.due("nothing on " + mark, x.mark(mark, true), false);
        }
        x.report(0, 0, 5, true);
        Due.due("lay 2", x.mark(2, false), true);
        for (int mark = 0; mark < 4; mark++) {
            Due.due("only on 2: " + mark, x.mark(mark, true), mark == 2);
        }
        Due.due("-1", x.mark(-1, false), false);
        Due.due("-1", x.mark(-1, true), false);
        Due.due("4", x.mark(4, false), false);
        Due.due("4", x.mark(4, true), false);
        for (int far : Due.FAR) {
            Due.due("lay " + far, x.mark(far, false), false);
            Due.due("back to " + far, x.mark(far, true), false);
        }
        x.clear();
        Due.due("nothing on 3", x.mark(3, true), false);
        Due.due("then all stays", x.count(6), 0);
        Due.due("back to 2", x.mark(2, true), true);
        Due.due("reports", x.count(6), 1);
        Due.due("laid anew", x.clear() && x.mark(2, false), true);
        x.report(0, 0, 5, true);
        Due.due("back to 2", x.mark(2, true), true);
        Due.due("the new one", x.count(6), 0);
    }

    private static void counts() {
        Due.says("What 0: PERSONS, 1: SECRETS, 2: calls (pairs), 3: away told, 4: leap, 5: 1 if the law is of name days, 6: REPORTS, "
            + "7: signs on the TAPE. NONE for another what.");
        SecretDays x = Due.told("leap 3;person a born 1;person b born 1;person c born 1;person d born 1;person e born 1;calls a on b c;calls b on a;"
            + "calls c on a b d;away a from 0 0 to 0 0;away a from 0 0 to 0 0;secret s with a from 0 0;secret t with a from 0 0;secret u with a from 0 0;"
            + "secret v with a from 0 0;law names;");
        x.report(0, 0, 0, true);
        x.report(0, 0, 0, true);
        x.report(0, 0, 0, true);
        Due.feedText(x, "abcdefghi");
        int[] want = {5, 4, 6, 2, 3, 1, 3, 9};
        for (int what = 0; what < 8; what++) {
            Due.due("count " + what, x.count(what), want[what]);
        }
        Due.due("count 8", x.count(8), -1);
        Due.due("count -1", x.count(-1), -1);
        for (int far : Due.FAR) {
            Due.due("count " + far, x.count(far), -1);
        }
        Due.says("An object is used for at most 512 calls after it has been made;");
        x = new SecretDays();
        for (int i = 0; i < 505; i++) {
            x.feed(0x3b3b3b3b3b3b3b3bL, 0, 0);
        }
        x.town();
        x.feed(0x706572736f6e2061L, 0x20626f726e20313bL, 0x2020202020202020L);
        x.feed(0x7365637265742073L, 0x2077697468206120L, 0x66726f6d2030203bL);
        Due.due("508 calls before", x.town(), 1 + 16 * 47);
        x.feed(0x706572736f6e2061L, 0x20626f726e20313bL, 0x2020202020202020L);
        Due.due("510 calls before", x.town(), 0);
        Due.due("the 512th", x.person(0, 0), 1);
    }

    public static void main(String[] args) {
        reports();
        began();
        wrong();
        draws();
        runs();
        marks();
        counts();
        Due.end();
    }
}
