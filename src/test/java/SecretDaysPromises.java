/**
 * Each promise of the document by itself: ordinary inputs, the edges that the document names, wrong
 * inputs. The answers were worked out by hand from the document.
 */
public final class SecretDaysPromises {
    private static final int[] ODD = {Integer.MIN_VALUE, -4392, -2, -1, 12, 13, 31, 32, 33, 366, 4392, 65536, Integer.MAX_VALUE};
    private static int wrong = 0;
    private static int asked = 0;

    private static void due(int promise, String call, long got, long want) {
        asked++;
        if (got != want) {
            wrong++;
            System.out.println("promise " + promise + ": " + call + " answered " + got + ", due is " + want);
        }
    }

    private static void due(int promise, String call, boolean got, boolean want) {
        due(promise, call, got ? 1 : 0, want ? 1 : 0);
    }

    private static SecretDays told(String text) {
        SecretDays x = new SecretDays();
        due(3, text, Due.read(x, text), 0);
        return x;
    }

    /** A chain a, b, c, d, and e whom nobody tells; two secrets from its two ends. */
    private static SecretDays chain() {
        return told("person a born 10; person b born 20 name 15; person c born 20; person d born 5 ill 99; person e born 59;"
            + "calls b on a; calls c on a; calls d on b c; calls e on d; secret s with a from 0 0; secret t with e from 0 0;");
    }

    private static void newObject() {
        SecretDays x = new SecretDays();
        for (int what = 0; what < 8; what++) {
            due(1, "count " + what, x.count(what), 0);
        }
        due(1, "NONE", SecretDays.NONE, -1);
        due(1, "person", x.person(0, 0), -1);
        due(1, "soonest", x.soonest(0, 0), -1);
        due(1, "holds", x.holds(), 1);
        due(1, "wrong", x.wrong(), 0);
        due(1, "instead", x.instead(0), -1);
        due(1, "began", x.began(0), -1);
        due(1, "date", x.date(4, 59), 4 * 366 + 59);
        due(1, "newcomer", x.newcomer(0, 0, 0, 0, 0), -1);
        due(1, "runs", x.runs(0, 1, 0, 0, 0, 0), -1);
        due(1, "report", x.report(0, 0, 0, true), -1);
        for (int mark = 0; mark < 4; mark++) {
            due(1, "mark", x.mark(mark, true), false);
        }
    }

    private static void feed() {
        SecretDays x = new SecretDays();
        due(2, "nothing", x.feed(0, 0, 0), 0);
        due(2, "left out: 9, 11, 31, 127, 128, 255", x.feed(0x090b1f7f80ff0001L, -1L, Long.MIN_VALUE), 0);
        due(2, "10, 32, 126", x.feed(0x0a000000207e0000L, 0, 0), 3);
        due(2, "count", x.count(7), 3);
        x.town();
        due(2, "gaps are closed", x.feed(0x6c00650061007000L, 0x0020000033000000L, 0x000000000000003bL), 7);
        due(2, "the highest first, a before b before c", x.town(), 0);
        due(2, "leap", x.count(4), 3);
        for (int i = 1; i <= 41; i++) {
            due(2, "blanks", x.feed(0x2020202020202020L, 0x2020202020202020L, 0x2020202020202020L), i * 24);
        }
        due(2, "up to 1,000", x.feed(0x2020202020202020L, 0x20202020206c6561L, 0x7020313b2b2b2b2bL), 1000);
        due(2, "and no more", x.feed(0x2b2b2b2b2b2b2b2bL, 0x2b2b2b2b2b2b2b2bL, 0x2b2b2b2b2b2b2b2bL), 1000);
        due(2, "lea is left of leap", x.town(), 1 + 16 * 997);
        due(2, "taken", x.count(7), 0);
        due(2, "goes on", x.feed(0x41L, 0x42L, 0x43L), 3);
    }

    private static void fault(String text, int kind, int place) {
        SecretDays x = told("leap 2; person kept born 7; secret sec with kept from 0 0; law names;");
        x.report(0, 0, 1, true);
        x.mark(2, false);
        due(3, "[" + text + "]", Due.read(x, text), kind + 16 * place);
        due(3, "all stays: leap", x.count(4), 2);
        due(3, "all stays: law", x.count(5), 1);
        due(3, "all stays: reports", x.count(6), 1);
        due(3, "all stays: born", x.person(0, 0), 7);
        due(3, "all stays: marks", x.mark(2, true), true);
        due(3, "but the tape is taken", x.count(7), 0);
    }

    private static void town() {
        String p = "person a born 1;person b born 2;";
        int n = p.length();
        SecretDays x = chain();
        due(3, "persons", x.count(0), 5);
        due(3, "an empty tape", x.town(), 0);
        due(3, "an empty town", x.count(0), 0);
        due(3, "blanks alone", Due.read(x, " \n "), 0);
        due(3, "without blanks", Due.read(x, "leap3;person abcdefgh born0365name0ill0099;law\nnames;person b born1;calls b on abcdefgh;secret c with b from0 0;"), 0);
        due(3, "name day 0", x.person(0, 1), 0);
        due(3, "any order of extras", Due.read(x, "person a born 0 ill 3 name 4;person b born 0;"), 0);
        due(3, "ill", x.person(0, 2), 3);
        due(3, "calls told in parts", Due.read(x, p + "person c born 3;calls a on b;calls a on c;"), 0);
        due(3, "pairs", x.count(2), 2);
        due(3, "away of one date", Due.read(x, p + "away a from 0 59 to 0 59;away b from 1 365 to 2 0;"), 0);
        due(3, "away of dates not there", Due.read(x, p + "away a from 1 59 to 2 59;secret s with b from 3 59;"), 0);
        fault("tell", 1, 0);
        fault("a", 1, 0);
        fault("7", 1, 0);
        fault(";", 1, 0);
        fault("leap", 1, 4);
        fault("leap ", 1, 5);
        fault("leap x", 1, 5);
        fault("leap 4", 4, 5);
        fault("leap 0004", 4, 5);
        fault("leap 00003", 1, 5);
        fault("leap 1", 1, 6);
        fault("leap 1 leap", 1, 7);
        fault("leap 1;leap", 3, 7);
        fault("LEAP 1;", 1, 0);
        fault("leapleap1", 1, 0);
        fault("leap1leap", 1, 5);
        fault("leapleapl 1;", 1, 0);
        fault("person 1", 1, 7);
        fault("person leap", 1, 7);
        fault("person to", 1, 7);
        fault("person abcdefghi", 1, 7);
        fault("person a 1", 1, 9);
        fault("person a born a", 1, 14);
        fault("person a born 366", 4, 14);
        fault("person a born 10000", 1, 14);
        fault("person a born 1 b", 1, 16);
        fault("person a born 1 name ill", 1, 21);
        fault("person a born 1 name 366", 4, 21);
        fault("person a born 1 ill 100", 4, 20);
        fault("person a born 1 ill 1 name 2 ill", 3, 29);
        fault("person a born 1 name 1 name", 3, 23);
        fault(p + "person a", 3, n + 7);
        fault(p + "secret a", 3, n + 7);
        fault(p + "secret s with a from 0 0;person s", 3, n + 32);
        fault(p + "secret s with a from 0 0;secret s", 3, n + 32);
        fault(p + "secret s with s", 2, n + 14);
        fault(p + "secret s with with", 1, n + 14);
        fault(p + "secret s with a from 12", 4, n + 21);
        fault(p + "secret s with a from 11 366", 4, n + 24);
        fault(p + "secret s with a from 11 ;", 1, n + 24);
        fault("calls a", 2, 6);
        fault(p + "calls c", 2, n + 6);
        fault(p + "calls a on", 1, n + 10);
        fault(p + "calls a on ;", 1, n + 11);
        fault(p + "calls a on on", 1, n + 11);
        fault(p + "calls a on c", 2, n + 11);
        fault(p + "calls a on a", 3, n + 11);
        fault(p + "calls a on b b", 3, n + 13);
        fault(p + "calls a on b;calls a on b", 3, n + 24);
        fault(p + "calls a on b 7", 1, n + 13);
        fault(p + "away c", 2, n + 5);
        fault(p + "away a from 12", 4, n + 12);
        fault(p + "away a from 0 366", 4, n + 14);
        fault(p + "away a from 0 5 to 0 4", 4, n + 21);
        fault(p + "away a from 1 0 to 0 365", 4, n + 21);
        fault(p + "away a from 0 5 to 12", 4, n + 19);
        fault(p + "away a from 0 5 from", 1, n + 16);
        fault("law name", 1, 4);
        fault("law names;law", 3, 10);
        fault("law names,", 1, 9);
        tooMany();
    }

    private static void tooMany() {
        StringBuilder text = new StringBuilder();
        for (int i = 0; i < 12; i++) {
            text.append("person ").append((char) ('a' + i)).append(" born 0;");
        }
        String persons = text.toString();
        SecretDays x = told(persons);
        due(3, "twelve", x.count(0), 12);
        fault(persons + "person m", 5, persons.length());
        fault(persons + "leap person", 1, persons.length() + 5);
        StringBuilder calls = new StringBuilder(persons);
        for (int i = 1; i <= 6; i++) {
            calls.append("calls ").append((char) ('a' + i)).append(" on a;");
        }
        due(3, "six call on one", Due.read(x, calls.toString()), 0);
        due(3, "six bits", x.person(0, 3), 126);
        fault(calls + "calls h on b a", 5, calls.length() + 13);
        fault(calls + "calls b on c a", 3, calls.length() + 13);
        fault(calls + "calls a on a", 3, calls.length() + 11);
        StringBuilder aways = new StringBuilder("person a born 0;");
        for (int i = 0; i < 12; i++) {
            aways.append("away a from 0 0 to 0 0;");
        }
        due(3, "twelve are away", Due.read(x, aways.toString()), 0);
        due(3, "twelve times", x.count(3), 12);
        fault(aways + "away", 5, aways.length());
        String secrets = "person a born 0;secret p with a from 0 0;secret q with a from 0 0;secret r with a from 0 0;secret s with a from 0 0;";
        due(3, "four secrets", Due.read(x, secrets), 0);
        due(3, "four", x.count(1), 4);
        fault(secrets + "secret", 5, secrets.length());
    }

    private static void townTakesAll() {
        SecretDays x = chain();
        x.law(true);
        x.report(0, 0, 0, true);
        x.mark(0, false);
        due(3, "anew", Due.read(x, "person a born 3;"), 0);
        due(3, "reports are gone", x.count(6), 0);
        due(3, "marks are gone", x.mark(0, true), false);
        due(3, "the law is the town's", x.count(5), 0);
        due(3, "secrets are gone", x.count(1), 0);
        due(3, "pairs are gone", x.count(2), 0);
        due(3, "calls are gone", x.person(0, 3) + x.person(0, 4), 0);
    }

    private static void law() {
        SecretDays x = chain();
        due(4, "b on the name day", x.free(1, 15), 0);
        due(4, "law", x.law(true), true);
        due(4, "count", x.count(5), 1);
        due(4, "b on the name day", x.free(1, 15), 1);
        due(4, "b on the birthday", x.free(1, 20), 1);
        due(4, "d sooner", x.soonest(0, 3), 15);
        due(4, "law again", x.law(true), true);
        due(4, "law off", x.law(false), true);
        due(4, "law off again", x.law(false), true);
        due(4, "d later", x.soonest(0, 3), 20);
        due(4, "count", x.count(5), 0);
    }

    private static void person() {
        SecretDays x = chain();
        due(5, "born", x.person(4, 0), 59);
        due(5, "name day", x.person(1, 1), 15);
        due(5, "no name day", x.person(0, 1), -1);
        due(5, "ill", x.person(3, 2), 99);
        due(5, "not ill", x.person(0, 2), 0);
        due(5, "callers", x.person(0, 3), 6);
        due(5, "hosts", x.person(3, 4), 6);
        due(5, "no hosts", x.person(0, 4), 0);
        due(5, "person 5", x.person(5, 0), -1);
        for (int odd : ODD) {
            due(5, "person " + odd, x.person(odd, 0), -1);
            due(5, "what " + odd, x.person(0, odd), -1);
        }
        due(5, "what 5", x.person(0, 5), -1);
    }

    private static void dates() {
        SecretDays x = told("leap 3; person a born 59 name 59; person b born 365 name 0; away b from 0 365 to 1 0; away b from 1 0 to 1 1; law names;");
        due(6, "first", x.date(0, 0), 0);
        due(6, "last", x.date(11, 365), 4391);
        due(6, "leap", x.date(3, 59), 1157);
        due(6, "leap", x.date(11, 59), 4085);
        due(6, "not there", x.date(0, 59), -1);
        due(6, "not there", x.date(4, 59), -1);
        due(6, "60", x.date(0, 60), 60);
        for (int odd : ODD) {
            due(6, "year " + odd, x.date(odd, 0), -1);
            due(6, "day " + odd, x.date(0, odd), odd == 12 || odd == 13 || odd >= 31 && odd <= 33 ? odd : -1);
            due(7, "person " + odd, x.free(odd, 0), -1);
            due(8, "person " + odd, x.away(odd, 0), -1);
        }
        due(7, "date -1", x.free(0, -1), -1);
        due(7, "date 4392", x.free(0, 4392), -1);
        due(7, "not there", x.free(0, 59), -1);
        due(7, "person 2", x.free(2, 0), -1);
        due(7, "both in one", x.free(0, 1157), 1);
        due(7, "another day", x.free(0, 1158), 0);
        due(7, "name day", x.free(1, 0), 1);
        due(7, "away on the birthday", x.free(1, 365), 0);
        due(7, "away on the name day", x.free(1, 366), 0);
        due(7, "a year later", x.free(1, 732), 1);
        due(7, "the last day", x.free(1, 4391), 1);
        due(8, "before", x.away(1, 364), 0);
        due(8, "from", x.away(1, 365), 1);
        due(8, "twice", x.away(1, 366), 1);
        due(8, "to", x.away(1, 367), 1);
        due(8, "behind", x.away(1, 368), 0);
        due(8, "another", x.away(0, 365), 0);
        due(8, "not there", x.away(1, 59), -1);
        due(8, "date -1", x.away(1, -1), -1);
        due(8, "date 4392", x.away(1, 4392), -1);
        SecretDays y = told("person a born 1; person b born 1; away a from 1 59 to 2 59;");
        due(8, "from a date not there", y.away(0, 424) * 10 + y.away(0, 426), 1);
        due(8, "to a date not there", y.away(0, 790) * 10 + y.away(0, 792), 10);
    }

    private static void spread() {
        SecretDays x = chain();
        int[] soonest = {0, 10, 10, 20, 371};
        int[] by = {-1, 0, 0, 1, 3};
        int[] hands = {0, 1, 1, 2, 3};
        int[] ways = {1, 1, 1, 2, 2};
        for (int p = 0; p < 5; p++) {
            due(9, "soonest of " + p, x.soonest(0, p), soonest[p]);
            due(10, "by of " + p, x.by(0, p), by[p]);
            due(11, "hands of " + p, x.hands(0, p), hands[p]);
            due(12, "ways of " + p, x.ways(0, p), ways[p]);
            due(9, "t of " + p, x.soonest(1, p), p == 4 ? 0 : -1);
            due(10, "t by of " + p, x.by(1, p), -1);
            due(11, "t hands of " + p, x.hands(1, p), p == 4 ? 0 : -1);
            due(12, "t ways of " + p, x.ways(1, p), p == 4 ? 1 : 0);
        }
        for (int odd : ODD) {
            due(9, "secret " + odd, x.soonest(odd, 0), -1);
            due(9, "person " + odd, x.soonest(0, odd), -1);
            due(10, "secret " + odd, x.by(odd, 0), -1);
            due(10, "person " + odd, x.by(0, odd), -1);
            due(11, "secret " + odd, x.hands(odd, 0), -1);
            due(11, "person " + odd, x.hands(0, odd), -1);
            due(12, "secret " + odd, x.ways(odd, 0), -1);
            due(12, "person " + odd, x.ways(0, odd), -1);
        }
        due(9, "person 5", x.soonest(0, 5), -1);
        due(12, "person 5", x.ways(0, 5), -1);
        due(12, "secret 2", x.ways(2, 0), -1);
        // Told and born on one day: the day is over for this secret.
        x = told("person a born 10; person b born 10; person c born 9; calls b on a; calls c on b; calls a on c; secret s with a from 1 10;");
        due(9, "on the day it begins", x.soonest(0, 1), 376);
        due(9, "a year later", x.soonest(0, 2), 742);
        due(9, "the beginner has it from the first", x.soonest(0, 0), 376);
        due(10, "the beginner from nobody", x.by(0, 0), -1);
        x = told("person a born 9; person b born 1; calls b on a; secret s with a from 11 10; secret t with a from 11 9; secret u with a from 1 59;");
        due(9, "no birthday behind it", x.soonest(0, 1), -1);
        due(9, "on the last", x.soonest(1, 1), 4035);
        due(9, "from a date not there", x.soonest(2, 0), 425);
        due(9, "a year later", x.soonest(2, 1), 741);
        x = told("person a born 9; person b born 1; calls b on a; secret s with a from 0 0; away b from 0 9 to 1 9; away a from 2 9 to 2 9;");
        due(9, "caller away twice, host away once", x.soonest(0, 1), 3 * 366 + 9);
    }

    private static void sets() {
        SecretDays x = chain();
        due(13, "ahead of all", x.cant(0, 9), 30);
        due(13, "that date too", x.cant(0, 10), 24);
        due(13, "all have it", x.cant(0, 371), 0);
        due(13, "never", x.cant(1, 4391), 15);
        due(13, "not there", x.cant(0, 366 + 59), 0);
        due(15, "from the first on", x.knows(0, 0), 1);
        due(15, "ahead", x.knows(0, 370), 15);
        due(15, "that date too", x.knows(0, 371), 31);
        due(15, "last", x.knows(1, 4391), 16);
        due(14, "all", x.all(0), 371);
        due(14, "never", x.all(1), -1);
        due(14, "secret 2", x.all(2), -1);
        for (int odd : ODD) {
            due(13, "secret " + odd, x.cant(odd, 0), -1);
            due(15, "secret " + odd, x.knows(odd, 0), -1);
            due(14, "secret " + odd, x.all(odd), -1);
            if (odd < 0 || odd > 4391) {
                due(13, "date " + odd, x.cant(0, odd), -1);
                due(15, "date " + odd, x.knows(0, odd), -1);
            }
        }
        SecretDays y = told("person a born 1; secret s with a from 2 3;");
        due(14, "one alone", y.all(0), 735);
        due(15, "not yet", y.knows(0, 734), 0);
        due(13, "not yet", y.cant(0, 734), 1);
    }

    private static void letIn() {
        SecretDays x = chain();
        due(16, "by one of two", x.letIn(0, 3, 20, 0, 0), 3);
        due(16, "not by b", x.letIn(0, 3, 20, 2, 4391), 3);
        due(16, "not by b, nor by c", x.letIn(0, 3, 20, 6, 11), -1);
        due(16, "on the very date", x.letIn(0, 3, 20, 6, 10), 3);
        due(16, "later", x.letIn(0, 3, 386, 6, 11), 3);
        due(16, "too late by a day", x.letIn(0, 3, 385, 6, 11), -1);
        due(16, "e", x.letIn(0, 4, 371, 0, 0), 4);
        due(16, "that one not ahead of it", x.letIn(0, 4, 371, 16, 372), -1);
        due(16, "that one on it", x.letIn(0, 4, 371, 16, 371), 4);
        due(16, "that one a year later", x.letIn(0, 4, 737, 16, 372), 4);
        due(16, "the beginner", x.letIn(0, 0, 0, 0, 0), 1);
        due(16, "the beginner, not ahead of its date", x.letIn(0, 0, 0, 1, 0), 1);
        due(16, "the beginner has it already", x.letIn(0, 0, 9, 1, 1), -1);
        due(16, "never", x.letIn(1, 0, 4391, 0, 0), -1);
        for (int odd : ODD) {
            due(16, "secret " + odd, x.letIn(odd, 3, 20, 0, 0), -1);
            due(16, "person " + odd, x.letIn(0, odd, 20, 0, 0), -1);
            if (odd < 0 || odd > 4391) {
                due(16, "by " + odd, x.letIn(0, 3, odd, 0, 0), -1);
                due(16, "before " + odd, x.letIn(0, 3, 20, 0, odd), -1);
                due(16, "others " + odd, x.letIn(0, 3, 20, odd, 0), -1);
            }
        }
        due(16, "all others at any date", x.letIn(0, 3, 20, 31, 0), 3);
        due(16, "one bit too many", x.letIn(0, 3, 20, 32, 0), -1);
        // The shorter way is slower: a tells d on 300 alone, by b and c it is there on 30.
        x = told("person a born 10 name 300; person b born 20; person c born 30; person d born 1; law names; away d from 0 0 to 0 29;"
            + "calls b on a; calls c on b; calls d on c a; secret s with a from 0 0;");
        due(16, "the long way", x.letIn(0, 3, 299, 0, 0), 4);
        due(16, "the short way", x.letIn(0, 3, 300, 0, 0), 2);
        x = told("person a born 10; person b born 10; person c born 1; calls b on a; calls c on b; secret s with a from 0 10;");
        due(16, "told that day it is not told on", x.letIn(0, 2, 375, 0, 0), -1);
        due(16, "but a year later", x.letIn(0, 2, 376, 0, 0), 3);
    }

    private static void cut() {
        SecretDays x = chain();
        due(17, "one door", x.cut(0, 3, 20), 1);
        due(17, "not yet", x.cut(0, 3, 19), 0);
        due(17, "a's first", x.cut(0, 3, 385), 1);
        due(17, "two years", x.cut(0, 3, 386), 2);
        due(17, "all years", x.cut(0, 3, 4391), 12);
        due(17, "never", x.cut(1, 0, 4391), 0);
        due(17, "the beginner", x.cut(0, 0, 4391), -1);
        due(17, "the beginner, ahead", x.cut(0, 0, 0), -1);
        for (int odd : ODD) {
            due(17, "secret " + odd, x.cut(odd, 3, 20), -1);
            due(17, "person " + odd, x.cut(0, odd, 20), -1);
            if (odd < 0 || odd > 4391) {
                due(17, "by " + odd, x.cut(0, 3, odd), -1);
            }
        }
        // Birthday and name day in one are one door.
        x = told("person a born 10 name 10; person b born 20; calls b on a; secret s with a from 0 0; law names;");
        due(17, "one day, one door", x.cut(0, 1, 10), 1);
        // The door of b is there for either door of a: whichever way takes it, the other goes by c.
        for (String away : new String[] {"10", "15"}) {
            x = told("person a born 10 name 15; person b born 20; person c born 30; person d born 1; law names;"
                + "away c from 0 " + away + " to 0 " + away + "; calls b on a; calls c on a; calls d on b c; secret s with a from 0 0;");
            due(17, "two ways apart, c away on " + away, x.cut(0, 3, 30), 2);
            due(17, "one by 20, c away on " + away, x.cut(0, 3, 20), 1);
        }
        // The shortest way goes by a (10), y, x; the two that stand together by a (10), c, d, e and a (15), b, f, x.
        x = told("person a born 10 name 15; person y born 20; person c born 21; person b born 22; person d born 30; person f born 31;"
            + "person e born 40; person x born 60; person t born 1; law names; away b from 0 10 to 0 10; away y from 0 15 to 0 15; away c from 0 15 to 0 15;"
            + "calls y on a; calls c on a; calls b on a; calls x on y f; calls f on b; calls d on c; calls e on d; calls t on x e; secret s with a from 0 0;");
        due(17, "y is left again", x.cut(0, 8, 300), 2);
        due(17, "by e alone", x.cut(0, 8, 59), 1);
    }

    private static void meet() {
        SecretDays x = chain();
        due(18, "date", x.meet(0, 1, 0), 371);
        due(18, "who", x.meet(0, 1, 1), 4);
        due(18, "the other way", x.meet(1, 0, 0), 371);
        due(18, "the same", x.meet(0, 0, 0), -1);
        due(18, "what 2", x.meet(0, 1, 2), -1);
        due(18, "secret 2", x.meet(0, 2, 0), -1);
        for (int odd : ODD) {
            due(18, "secret " + odd, x.meet(odd, 1, 0), -1);
            due(18, "other " + odd, x.meet(0, odd, 0), -1);
            due(18, "what " + odd, x.meet(0, 1, odd), -1);
        }
        x = told("person z born 7; person a born 10; person b born 20; person c born 3; calls b on a; calls c on a;"
            + "secret s with a from 0 0; secret t with a from 0 4; secret u with z from 0 0; secret v with c from 0 0;");
        due(18, "with whom they begin", x.meet(0, 1, 0), 4);
        due(18, "that one", x.meet(0, 1, 1), 1);
        due(18, "never", x.meet(0, 2, 0), -1);
        due(18, "nobody", x.meet(0, 2, 1), -1);
        due(18, "told on one day", x.meet(1, 3, 0), 10);
        x = told("person a born 10; person b born 20; person c born 10; calls c on a; calls b on a c; calls a on c; calls c on b; secret s with a from 0 0; secret t with c from 0 0;");
        due(18, "three on one day", x.meet(0, 1, 0), 10);
        due(18, "the least", x.meet(0, 1, 1), 0);
    }

    private static void newcomer() {
        SecretDays x = chain();
        due(19, "between a and e", x.newcomer(1, 16, 0, 4, 0), 11);
        due(19, "the day", x.newcomer(1, 16, 0, 4, 1), 11);
        due(19, "calls on b", x.newcomer(2, 16, 0, 4, 0), 21);
        due(19, "no use", x.newcomer(0, 0, 0, 4, 0), 371);
        due(19, "the first day", x.newcomer(0, 0, 0, 4, 1), 0);
        due(19, "for the beginner", x.newcomer(31, 31, 0, 0, 0), 0);
        due(19, "for the beginner", x.newcomer(31, 31, 0, 0, 1), 0);
        due(19, "t comes to a", x.newcomer(16, 1, 1, 0, 0), 60);
        due(19, "t comes to a on", x.newcomer(16, 1, 1, 0, 1), 60);
        due(19, "never", x.newcomer(0, 1, 1, 0, 0), -1);
        due(19, "never", x.newcomer(0, 1, 1, 0, 1), -1);
        due(19, "person 5", x.newcomer(1, 16, 0, 5, 0), -1);
        due(19, "secret 2", x.newcomer(1, 16, 2, 4, 0), -1);
        due(19, "what 2", x.newcomer(1, 16, 0, 4, 2), -1);
        due(19, "bit 5", x.newcomer(32, 16, 0, 4, 0), -1);
        due(19, "bit 5", x.newcomer(1, 32, 0, 4, 0), -1);
        for (int odd : ODD) {
            due(19, "secret " + odd, x.newcomer(1, 16, odd, 4, 0), -1);
            due(19, "person " + odd, x.newcomer(1, 16, 0, odd, 0), -1);
            due(19, "what " + odd, x.newcomer(1, 16, 0, 4, odd), -1);
            if (odd < 0 || odd > 31) {
                due(19, "callsOn " + odd, x.newcomer(odd, 16, 0, 4, 0), -1);
                due(19, "calledBy " + odd, x.newcomer(1, odd, 0, 4, 0), -1);
            }
        }
        due(19, "nobody has come", x.count(0) * 100 + x.count(2), 505);
        due(19, "all is as before", x.soonest(0, 4), 371);
        x = told("person a born 10; person b born 20; person c born 0; person d born 0; person e born 0; person f born 0; person g born 0;"
            + "person h born 0; person i born 0; person j born 0; person k born 0; calls b on a; secret s with a from 0 0;");
        due(19, "eleven are there", x.newcomer(1, 2, 0, 1, 0), 10);
        due(19, "all eleven", x.newcomer(2047, 2047, 0, 10, 0), 11);
        x = told("person a born 10; person b born 20; person c born 0; person d born 0; person e born 0; person f born 0; person g born 0;"
            + "person h born 0; person i born 0; person j born 0; person k born 0; person l born 0; calls b on a; secret s with a from 0 0;");
        due(19, "twelve are there", x.newcomer(1, 2, 0, 1, 0), -1);
    }

    private static void reports() {
        SecretDays x = chain();
        due(22, "none", x.holds(), 1);
        due(23, "none", x.began(0), 31);
        due(24, "none", x.wrong(), 31);
        due(25, "none", x.instead(0), 0);
        due(20, "first", x.report(1, 0, 10, true), 1);
        due(22, "told that day", x.holds(), 1);
        due(20, "second", x.report(1, 0, 9, false), 2);
        due(22, "not yet", x.holds(), 1);
        due(23, "began", x.began(0), 1);
        due(23, "of t", x.began(1), 31);
        due(24, "wrong", x.wrong(), 30);
        due(25, "a must be right", x.instead(0), -1);
        due(25, "b", x.instead(1), 0);
        due(20, "third", x.report(0, 0, 0, true), 3);
        due(22, "when it began", x.holds(), 1);
        due(20, "fourth", x.report(4, 1, 0, false), 4);
        due(22, "of another secret", x.holds(), 0);
        due(24, "no birthday helps", x.wrong(), 0);
        due(23, "began", x.began(1), 15);
        due(21, "clear", x.clear(), true);
        due(21, "count", x.count(6), 0);
        due(21, "clear again", x.clear(), true);
        due(21, "nothing speaks against anyone", x.wrong(), 31);
        due(21, "a on any", x.instead(0), 0);
        due(22, "none", x.holds(), 1);
        due(20, "anew", x.report(3, 0, 14, true), 1);
        due(22, "holds not", x.holds(), 0);
        due(24, "no single one: b and c tell on 20", x.wrong(), 6);
        due(25, "b on 11", x.instead(1), 11);
        due(25, "c on 11", x.instead(2), 11);
        due(25, "a: none", x.instead(0), -1);
        due(25, "person 5", x.instead(5), -1);
        x.law(true);
        due(25, "b on 11, by law too", x.instead(1), 11);
        x.clear();
        x.report(3, 0, 15, true);
        due(24, "as told it holds as well", x.holds() * 100 + x.wrong(), 131);
        for (int odd : ODD) {
            due(20, "person " + odd, x.report(odd, 0, 0, true), -1);
            due(20, "secret " + odd, x.report(0, odd, 0, true), -1);
            due(23, "secret " + odd, x.began(odd), -1);
            due(25, "person " + odd, x.instead(odd), -1);
            if (odd < 0 || odd > 4391) {
                due(20, "date " + odd, x.report(0, 0, odd, true), -1);
            }
        }
        for (int i = 2; i <= 16; i++) {
            due(20, "many", x.report(3, 0, 366 + 59, true), i);
        }
        due(20, "one too many", x.report(3, 0, 15, true), -1);
        due(20, "sixteen", x.count(6), 16);
        due(22, "all hold", x.holds(), 1);
        otherBirthdays();
        x = chain();
        x.report(3, 0, 15, true);
        x.law(true);
        due(23, "by the law of now", x.began(0), 11);
        x.law(false);
        due(23, "without it", x.began(0), 8);
        due(22, "without it", x.holds(), 0);
        x.law(true);
        due(22, "by the law of now", x.holds(), 1);
    }

    private static void otherBirthdays() {
        SecretDays x = told("person a born 0; person b born 1; calls b on a; secret s with a from 0 0;");
        due(25, "another than 0", x.instead(0), 1);
        due(25, "0", x.instead(1), 0);
        x.report(1, 0, 3, false);
        x.report(1, 0, 4, true);
        due(25, "the one day", x.instead(0), 4);
        due(24, "a alone", x.wrong(), 1);
        x.clear();
        x.report(1, 0, 364, false);
        x.report(1, 0, 365, true);
        due(25, "the last day", x.instead(0), 365);
        x.clear();
        x.report(1, 0, 4000, false);
        due(25, "none: all days come", x.instead(0), -1);
        x = told("leap 3; person a born 0; person b born 1; calls b on a; secret s with a from 0 0;");
        x.report(1, 0, 1156, false);
        due(25, "the leap day comes late", x.instead(0), 59);
        x.report(1, 0, 1157, false);
        due(25, "but it comes", x.instead(0), -1);
        x = told("person a born 9 name 9; person b born 1; calls b on a; secret s with a from 0 10; law names;");
        x.report(1, 0, 374, false);
        due(25, "every other day comes sooner", x.instead(0), -1);
        x.clear();
        x.report(1, 0, 375, true);
        x.report(1, 0, 20, false);
        due(25, "0 of the next year", x.instead(0), 0);
        x.clear();
        x.report(1, 0, 390, true);
        x.report(1, 0, 375, false);
        due(25, "the name day stays", x.instead(0), -1);
        x = told("person a born 9; person b born 1; calls b on a; secret s with a from 1 0;");
        x.report(1, 0, 376, true);
        x.report(1, 0, 375, false);
        due(25, "10 of the next year", x.instead(0), 10);
        daysThatTurn();
    }

    /** The first DAY that helps is one that a date told or an absence makes another than the day before. */
    private static void daysThatTurn() {
        String ab = "person a born 40; person b born 1; calls b on a;";
        SecretDays x = told(ab + "secret s with a from 0 50;");
        x.report(1, 0, 365, true);
        due(25, "from when it begins", x.instead(0), 50);
        x.clear();
        x.report(1, 0, 130, false);
        due(25, "0, of the next year", x.instead(0), 0);
        x = told(ab + "secret s with a from 0 0;");
        x.report(1, 0, 130, false);
        due(25, "behind the one report", x.instead(0), 131);
        x = told(ab + "secret r with b from 0 0; secret s with a from 0 50;");
        x.report(1, 1, 365, true);
        due(25, "from when it begins, of the second", x.instead(0), 50);
        for (String more : new String[] {"", "away b from 4 1 to 4 2;"}) {
            x = told(ab + "secret s with a from 0 50;" + more + "away a from 0 100 to 0 200;");
            x.report(1, 0, 365, false);
            x.report(1, 0, 366 + 80, false);
            due(25, "from when one is away", x.instead(0), 100);
            x.clear();
            x.report(1, 0, 150, false);
            x.report(1, 0, 365, true);
            due(25, "behind the last day away", x.instead(0), 201);
            x = told(ab + "secret s with a from 0 50; away b from 0 100 to 0 200;" + more);
            x.report(1, 0, 365, false);
            x.report(1, 0, 366 + 80, false);
            due(25, "from when the caller is away", x.instead(0), 100);
            x.clear();
            x.report(1, 0, 150, false);
            x.report(1, 0, 365, true);
            due(25, "behind the caller's last day away", x.instead(0), 201);
        }
        x = told("leap 3;" + ab + "secret s with a from 0 0;");
        x.report(1, 0, 1100, false);
        due(25, "on the leap day alone", x.instead(0), 59);
        x = told("person a born 40; person b born 5 name 100; person c born 1; calls b on a; calls c on b; secret s with a from 0 0; law names;");
        x.report(2, 0, 200, false);
        due(25, "from the other's name day", x.instead(0), 100);
        x = told("person a born 10; person e born 0; secret s with a from 0 0; away e from 0 0 to 0 100;");
        due(19, "behind the last day away", x.newcomer(1, 2, 0, 1, 0), 101);
        due(19, "behind the last day away", x.newcomer(1, 2, 0, 1, 1), 101);
    }

    /** The draws of seed 1 are 16838, 5758, 10113, 17515, 31051 .. : modulo 100 38, 58, 13, 15, 51. */
    private static void runs() {
        SecretDays x = told("person a born 10 ill 39; person b born 20 ill 0; calls b on a; secret s with a from 0 0;");
        due(26, "ill on the first, draw 38", x.runs(1, 1, 0, 1, 10, 0), 0);
        due(26, "and told a year later, draw 13", x.runs(1, 1, 0, 1, 376, 0), 0);
        due(26, "then well, draw 51", x.runs(1, 1, 0, 1, 4391, 1), 742);
        x = told("person a born 10 ill 38; person b born 20 ill 0; calls b on a; secret s with a from 0 0;");
        due(26, "well on the first", x.runs(1, 1, 0, 1, 10, 0), 1);
        due(26, "the date", x.runs(1, 1, 0, 1, 10, 1), 10);
        due(26, "the beginner in all", x.runs(9999, 20, 0, 0, 0, 0), 20);
        due(26, "their sum", x.runs(9999, 20, 0, 0, 0, 1), 0);
        due(26, "one day short", x.runs(1, 20, 0, 1, 9, 1), 0);
        x = told("person a born 10 ill 14; person b born 20 ill 99; calls b on a; secret s with a from 1 0;");
        due(26, "drawn ahead of the secret, too", x.runs(1, 1, 0, 1, 376, 0), 0);
        x = told("person a born 10 ill 14; person b born 20 ill 99; calls b on a; secret s with a from 1 0; away a from 0 10 to 0 10;");
        due(26, "not drawn for who is away", x.runs(1, 1, 0, 1, 376, 0), 1);
        // Two runs: the second starts with the 25th draw.
        x = told("person a born 10 ill 50; person b born 20; calls b on a; secret s with a from 0 0;");
        long g = 1;
        int times = 0;
        int sum = 0;
        for (int run = 0; run < 7; run++) {
            int had = -1;
            for (int draw = 0; draw < 24; draw++) {
                g = (g * 1103515245L + 12345L) % 2147483648L;
                boolean well = g / 65536 % 100 >= 50;
                had = draw % 2 == 0 && well && had == -1 ? draw / 2 * 366 + 10 : had;
            }
            times += had != -1 && had <= 400 ? 1 : 0;
            sum += had != -1 && had <= 400 ? had : 0;
        }
        due(26, "seed 0, first draw 0: ill", x.runs(0, 1, 0, 1, 10, 0), 0);
        due(26, "seven runs", x.runs(1, 7, 0, 1, 400, 0), times);
        due(26, "their sum", x.runs(1, 7, 0, 1, 400, 1), sum);
        due(26, "runs 0", x.runs(1, 0, 0, 1, 400, 0), -1);
        due(26, "runs 21", x.runs(1, 21, 0, 1, 400, 0), -1);
        due(26, "seed 10000", x.runs(10000, 1, 0, 1, 400, 0), -1);
        due(26, "what 2", x.runs(1, 1, 0, 1, 400, 2), -1);
        for (int odd : ODD) {
            due(26, "secret " + odd, x.runs(1, 1, odd, 1, 400, 0), -1);
            due(26, "person " + odd, x.runs(1, 1, 0, odd, 400, 0), -1);
            due(26, "what " + odd, x.runs(1, 1, 0, 1, 400, odd), -1);
            if (odd < 0 || odd > 9999) {
                due(26, "seed " + odd, x.runs(odd, 1, 0, 1, 400, 0), -1);
                due(26, "runs " + odd, x.runs(1, odd, 0, 1, 400, 0), -1);
            }
            if (odd < 0 || odd > 4391) {
                due(26, "by " + odd, x.runs(1, 1, 0, 1, odd, 0), -1);
            }
        }
    }

    private static void marks() {
        SecretDays x = chain();
        due(27, "nothing on it", x.mark(0, true), false);
        due(27, "laid", x.mark(0, false), true);
        x.law(true);
        x.report(3, 0, 15, true);
        x.report(1, 0, 4, false);
        due(27, "laid", x.mark(3, false), true);
        due(27, "nothing on 1", x.mark(1, true), false);
        x.clear();
        x.report(2, 1, 7, true);
        x.law(false);
        Due.feedText(x, "leap");
        due(27, "back to 3", x.mark(3, true), true);
        due(27, "law", x.count(5), 1);
        due(27, "reports", x.count(6), 2);
        due(27, "they hold", x.holds(), 1);
        due(27, "they are about s", x.began(0) * 100 + x.began(1), 931);
        due(27, "soonest by law", x.soonest(0, 3), 15);
        due(27, "the tape is no part of it", x.count(7), 4);
        due(27, "a on 5", x.instead(0), 5);
        due(27, "wrong", x.wrong(), 31);
        due(27, "back to 0", x.mark(0, true), true);
        due(27, "law", x.count(5), 0);
        due(27, "reports", x.count(6), 0);
        due(27, "a on any", x.instead(0), 0);
        due(27, "soonest", x.soonest(0, 3), 20);
        due(27, "back to 3 again", x.mark(3, true), true);
        due(27, "reports", x.count(6), 2);
        x.clear();
        x.report(4, 0, 100, true);
        due(27, "the first is another one", x.holds(), 0);
        x.mark(1, false);
        x.clear();
        x.report(2, 0, 100, false);
        x.mark(2, false);
        x.clear();
        x.report(2, 0, 100, true);
        due(27, "1: of e", x.mark(1, true), true);
        due(27, "1: of e", x.began(0), 24);
        due(27, "2: knew it not", x.mark(2, true), true);
        due(27, "2: knew it not", x.began(0), 26);
        x.clear();
        due(27, "3 laid anew", x.mark(3, false), true);
        due(27, "back to 3", x.mark(3, true), true);
        due(27, "reports", x.count(6), 0);
        due(27, "law", x.count(5), 1);
        due(27, "4", x.mark(4, false), false);
        for (int odd : ODD) {
            due(27, "mark " + odd, x.mark(odd, false), false);
            due(27, "mark " + odd, x.mark(odd, true), false);
        }
        due(27, "a fault leaves them", x.town(), 1 + 16 * 4);
        due(27, "0 is there", x.mark(0, true), true);
        due(27, "a town takes them", x.town(), 0);
        due(27, "0 is gone", x.mark(0, true), false);
        due(27, "an empty object has marks, too", new SecretDays().mark(0, false), true);
    }

    private static void count() {
        SecretDays x = told("leap 2; person a born 1; person b born 2; person c born 3; calls a on b c; calls b on a; away c from 0 0 to 0 0;"
            + "secret s with a from 0 0; secret t with b from 0 0; law names;");
        x.report(0, 0, 0, true);
        x.feed(0x61L, 0x62L, 0);
        int[] want = {3, 2, 3, 1, 2, 1, 1, 2};
        for (int what = 0; what < 8; what++) {
            due(28, "what " + what, x.count(what), want[what]);
        }
        due(28, "what 8", x.count(8), -1);
        for (int odd : ODD) {
            due(28, "what " + odd, x.count(odd), -1);
        }
    }

    public static void main(String[] args) {
        newObject();
        feed();
        town();
        townTakesAll();
        law();
        person();
        dates();
        spread();
        sets();
        letIn();
        cut();
        meet();
        newcomer();
        reports();
        runs();
        marks();
        count();
        System.out.println(wrong == 0 ? asked + " answers are as due" : wrong + " answers are not as due");
        if (wrong != 0) {
            System.exit(1);
        }
    }
}
