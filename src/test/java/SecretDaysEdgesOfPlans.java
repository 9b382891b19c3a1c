/**
 * The document's sentences about LET IN, CUT, MEET and NEWCOMER that name a boundary, each by itself
 * (promises 16 to 19, "==== 3.").
 */
public final class SecretDaysEdgesOfPlans {
    private static final int YEAR = 366;
    private static final int LAST = 4391;

    /** s: a from 5, b and c on 10, d on 20 by b or on 30 by c. t: with d, who tells nobody. */
    private static SecretDays square() {
        return Due.told("person a born 10;person b born 20;person c born 30;person d born 40;calls b on a;calls c on a b;calls d on b c;"
            + "secret s with a from 0 5;secret t with d from 0 0;");
    }

    private static void letIn() {
        SecretDays x = square();
        Due.says("LET IN: each teller may let in whom it will of those who call,");
        Due.due("who does not call is not let in", x.letIn(1, 2, LAST, 0, 0), -1);
        Due.due("c alone of both", x.letIn(0, 2, 10, 2, LAST), 2);
        Due.due("b alone of both", x.letIn(0, 1, 10, 4, LAST), 2);
        Due.due("b not on 10 of this year, but of the next", x.letIn(0, 1, YEAR + 10, 2, 11), 2);
        Due.says("so that a PERSON has a SECRET by a DATE (that one too),");
        Due.due("on the DATE", x.letIn(0, 3, 20, 0, 0), 3);
        Due.due("a day ahead", x.letIn(0, 3, 19, 0, 0), -1);
        Due.due("the first one told", x.letIn(0, 1, 10, 0, 0), 2);
        Due.due("the first one told, a day ahead", x.letIn(0, 1, 9, 0, 0), -1);
        Due.due("the beginner on the DATE", x.letIn(0, 0, 5, 0, 0), 1);
        Due.due("the beginner a day ahead", x.letIn(0, 0, 4, 0, 0), -1);
        Due.due("another ahead of the beginner", x.letIn(0, 1, 4, 0, 0), -1);
        Due.says("and none of some others has it ahead of another DATE:");
        Due.due("b on it", x.letIn(0, 3, 20, 2, 10), 3);
        Due.due("b a day ahead of it", x.letIn(0, 3, 20, 2, 11), -1);
        Due.due("so by c", x.letIn(0, 3, 30, 2, 11), 3);
        Due.due("so by c, a day short", x.letIn(0, 3, 29, 2, 11), -1);
        Due.due("neither b nor c this year", x.letIn(0, 3, YEAR + 19, 6, 11), -1);
        Due.due("b in the next", x.letIn(0, 3, YEAR + 20, 6, 11), 3);
        Due.due("b in the next, on it", x.letIn(0, 3, YEAR + 20, 6, YEAR + 10), 3);
        Due.due("b in the next, ahead of it", x.letIn(0, 3, YEAR + 20, 6, YEAR + 11), -1);
        Due.due("that one on it", x.letIn(0, 3, 20, 8, 20), 3);
        Due.due("that one ahead of it", x.letIn(0, 3, 20, 8, 21), -1);
        Due.due("that one, by c", x.letIn(0, 3, 30, 8, 21), 3);
        Due.due("the beginner on it", x.letIn(0, 3, 20, 1, 5), 3);
        Due.due("the beginner ahead of it", x.letIn(0, 3, 20, 1, 6), -1);
        Due.due("the beginner itself on it", x.letIn(0, 0, 5, 1, 5), 1);
        Due.due("the beginner itself ahead of it", x.letIn(0, 0, LAST, 1, 6), -1);
        Due.due("all on it", x.letIn(0, 3, 20, 15, 5), 3);
        Due.due("no others: any DATE", x.letIn(0, 3, 20, 0, LAST), 3);
        Due.due("others at DATE 0", x.letIn(0, 3, 20, 15, 0), 3);
        Due.due("b and c on the last DATE", x.letIn(0, 3, LAST, 6, LAST), -1);
        Due.due("b and c in the last year", x.letIn(0, 3, LAST, 6, 11 * YEAR + 10), 3);
        Due.due("b and c too late for it", x.letIn(0, 3, LAST, 6, 11 * YEAR + 11), -1);
        Due.due("others that have it behind by", x.letIn(0, 1, 10, 8, LAST), 2);
        Due.says("the fewest PERSONS that have it then by the first DATE (the beginner, that PERSON).");
        Due.due("the beginner alone", x.letIn(0, 0, LAST, 0, 0), 1);
        Due.due("two", x.letIn(0, 2, LAST, 0, 0), 2);
        Due.due("never", x.letIn(1, 0, LAST, 0, 0), -1);
        Due.due("the beginner of t", x.letIn(1, 3, 0, 0, 0), 1);
        x = Due.told(Due.persons(12) + "calls b on a;calls c on b;calls d on c;calls e on d;calls f on e;calls g on f;calls h on g;calls i on h;"
            + "calls j on i;calls k on j;calls l on k;secret s with a from 0 1;");
        Due.due("twelve", x.letIn(0, 11, 11, 0, 0), 12);
        Due.due("twelve a day short", x.letIn(0, 11, 10, 0, 0), -1);
        Due.due("twelve, the last set", x.letIn(0, 11, 11, 4095, 1), 12);
        // To d it is quick by b and c, and slow from a alone; e is asked to wait.
        x = Due.told("person a born 10 name 50;person b born 20;person c born 30;person d born 60;person e born 1;law names;calls b on a;calls c on b;"
            + "calls d on c a;calls e on d;away d from 0 10 to 0 10;secret s with a from 0 0;");
        Due.due("the slow way is too late", x.letIn(0, 3, 49, 0, 0), 4);
        Due.due("the slow way is the fewest", x.letIn(0, 3, 50, 0, 0), 2);
        Due.due("behind d, too", x.letIn(0, 4, 60, 0, 0), 3);
        Due.due("behind d, with d not ahead of 51", x.letIn(0, 4, YEAR + 60, 8, 51), 3);
        Due.due("d not ahead of 51 is too late", x.letIn(0, 4, YEAR + 59, 8, 51), -1);
        Due.says("NONE: others (DATES 0 to 4391, be they there or not; sets as bits), it can't be.");
        x = square();
        Due.due("DATES that are not there", x.letIn(0, 3, 425, 2, 425), 3);
        Due.due("by -1", x.letIn(0, 0, -1, 0, 0), -1);
        Due.due("by 4392", x.letIn(0, 0, 4392, 0, 0), -1);
        Due.due("before -1", x.letIn(0, 0, LAST, 0, -1), -1);
        Due.due("before 4392", x.letIn(0, 0, LAST, 0, 4392), -1);
        Due.due("secret 2", x.letIn(2, 0, LAST, 0, 0), -1);
        Due.due("person 4", x.letIn(0, 4, LAST, 0, 0), -1);
        Due.due("bit 4", x.letIn(0, 0, LAST, 16, 0), -1);
        Due.due("bits 4 and 0", x.letIn(0, 0, LAST, 17, 0), -1);
        for (int far : Due.FAR) {
            Due.due("secret " + far, x.letIn(far, 0, LAST, 0, 0), -1);
            Due.due("person " + far, x.letIn(0, far, LAST, 0, 0), -1);
            Due.due("by " + far, x.letIn(0, 0, far, 0, 0), -1);
            Due.due("others " + far, x.letIn(0, 0, LAST, far, 0), -1);
            Due.due("before " + far, x.letIn(0, 0, LAST, 0, far), -1);
        }
    }

    private static void cut() {
        Due.says("so that one does not have a SECRET by a DATE (that one too).");
        SecretDays x = square();
        Due.due("the day ahead", x.cut(0, 1, 9), 0);
        Due.due("on the DATE", x.cut(0, 1, 10), 1);
        Due.due("the day ahead, a year later", x.cut(0, 1, 375), 1);
        Due.due("a year later", x.cut(0, 1, 376), 2);
        Due.due("the last year", x.cut(0, 1, 11 * YEAR + 9), 11);
        Due.due("the last year", x.cut(0, 1, 11 * YEAR + 10), 12);
        Due.due("DATE 0", x.cut(0, 1, 0), 0);
        Due.due("a DATE that is not there", x.cut(0, 1, 425), 2);
        Due.says("CUT: the fewest FREE days (each of a PERSON on a DATE by itself) to be spent with the door shut,");
        Due.due("a on 10, not b and c", x.cut(0, 3, 30), 1);
        Due.due("b on 20", x.cut(0, 3, 20), 1);
        Due.due("c has two who tell, but b has it from a", x.cut(0, 2, 20), 1);
        Due.due("never", x.cut(1, 0, LAST), 0);
        // a has two FREE days, b one, so b's is shut; from the second year on it is a's that b's lie behind.
        x = Due.told("person a born 10 name 15;person b born 20;person c born 30;calls b on a;calls c on b;secret s with a from 0 0;law names;");
        Due.due("b alone", x.cut(0, 2, 20), 1);
        Due.due("both of a", x.cut(0, 1, 15), 2);
        Due.due("b each year", x.cut(0, 2, LAST), 12);
        x.law(false);
        Due.due("a's birthday alone", x.cut(0, 1, 15), 1);
        x = Due.told("person a born 10;person b born 1;calls b on a;away a from 1 10 to 1 10;away b from 2 10 to 2 10;secret s with a from 0 10;"
            + "secret t with a from 0 11;");
        Due.due("on the day it begins", x.cut(0, 1, 10), 1);
        Due.due("the host is away: no FREE day", x.cut(0, 1, 376), 1);
        Due.due("the guest is away", x.cut(0, 1, 742), 1);
        Due.due("ten are left", x.cut(0, 1, LAST), 10);
        Due.due("not those ahead of the secret", x.cut(1, 1, LAST), 9);
        x = Due.told("person a born 10;person b born 10;person c born 10;calls b on a;calls c on b;secret s with a from 0 10;");
        Due.due("b tells not on the DATE on which it is told", x.cut(0, 2, 375), 0);
        Due.due("but a year later", x.cut(0, 2, 376), 1);
        Due.due("the last", x.cut(0, 2, LAST), 11);
        x = Due.told("person t born 1;person a born 10;person b born 20;person c born 20;person d born 20;person e born 20;person f born 20;"
            + "person g born 20;calls b on a;calls c on a;calls d on a;calls e on a;calls f on a;calls g on a;calls t on b c d e f g;secret s with a from 0 0;");
        Due.due("one before six", x.cut(0, 0, 20), 1);
        Due.due("two before six", x.cut(0, 0, YEAR + 20), 2);
        Due.due("all twelve", x.cut(0, 0, LAST), 12);
        Due.says("`int cut(int secret, int person, int by)`: CUT; NONE: others, the beginner.");
        x = square();
        Due.due("the beginner", x.cut(0, 0, LAST), -1);
        Due.due("the beginner ahead of its DATE", x.cut(0, 0, 4), -1);
        Due.due("the beginner at DATE 0", x.cut(0, 0, 0), -1);
        Due.due("the beginner of t", x.cut(1, 3, LAST), -1);
        Due.due("secret 2", x.cut(2, 1, LAST), -1);
        Due.due("person 4", x.cut(0, 4, LAST), -1);
        Due.due("by -1", x.cut(0, 1, -1), -1);
        Due.due("by 4392", x.cut(0, 1, 4392), -1);
        for (int far : Due.FAR) {
            Due.due("secret " + far, x.cut(far, 1, LAST), -1);
            Due.due("person " + far, x.cut(0, far, LAST), -1);
            Due.due("by " + far, x.cut(0, 1, far), -1);
        }
    }

    private static void meet() {
        Due.says("MEET: the first DATE behind which one knows two SECRETS, and who (the least).");
        // b, c, d each know both: d first, then c and b on one DATE.
        SecretDays x = Due.told("person b born 1;person c born 2;person d born 30;person a born 10;person e born 20;calls d on a e;calls b on d;"
            + "calls c on d;secret s with a from 0 0;secret t with e from 0 0;secret u with a from 0 7;secret v with e from 1 30;");
        Due.due("d", x.meet(0, 1, 0), 20);
        Due.due("d", x.meet(0, 1, 1), 2);
        Due.due("the other way", x.meet(1, 0, 0), 20);
        Due.due("the other way", x.meet(1, 0, 1), 2);
        Due.due("with whom both begin", x.meet(0, 2, 0), 7);
        Due.due("with whom both begin", x.meet(0, 2, 1), 3);
        Due.due("on another DATE each", x.meet(0, 3, 0), 2 * YEAR + 20);
        Due.due("on another DATE each", x.meet(0, 3, 1), 2);
        Due.due("e has both of its own", x.meet(1, 3, 0), YEAR + 30);
        Due.due("e has both of its own", x.meet(1, 3, 1), 4);
        x = Due.told("person b born 1;person c born 2;person a born 10;person e born 10;calls b on a e;calls c on e a;secret s with a from 0 0;"
            + "secret t with e from 0 0;");
        Due.due("both told on one DATE", x.meet(0, 1, 0), 10);
        Due.due("the least of two", x.meet(0, 1, 1), 0);
        x = Due.told("person a born 0;secret s with a from 0 0;secret t with a from 0 0;secret u with a from 11 365;");
        Due.due("the first DATE", x.meet(0, 1, 0), 0);
        Due.due("the least", x.meet(0, 1, 1), 0);
        Due.due("the last DATE", x.meet(0, 2, 0), LAST);
        Due.says("`int meet(int secret, int other, int what)`: MEET, what 0: the DATE, 1: who; NONE: others, the same SECRET, never.");
        for (int s = 0; s < 3; s++) {
            Due.due("the same " + s, x.meet(s, s, 0), -1);
            Due.due("the same " + s, x.meet(s, s, 1), -1);
        }
        Due.due("secret 3", x.meet(3, 0, 0), -1);
        Due.due("other 3", x.meet(0, 3, 0), -1);
        Due.due("secret 3 twice", x.meet(3, 3, 0), -1);
        Due.due("what 2", x.meet(0, 1, 2), -1);
        Due.due("what -1", x.meet(0, 1, -1), -1);
        for (int far : Due.FAR) {
            Due.due("secret " + far, x.meet(far, 0, 0), -1);
            Due.due("other " + far, x.meet(0, far, 0), -1);
            Due.due("what " + far, x.meet(0, 1, far), -1);
        }
        x = Due.told("person a born 1;person b born 2;person c born 3;calls c on a;secret s with a from 0 0;secret t with b from 0 0;");
        Due.due("never", x.meet(0, 1, 0), -1);
        Due.due("never", x.meet(0, 1, 1), -1);
    }

    private static void newcomerIs(SecretDays x, String what, int[] sets, int person, int date, int day) {
        Due.due(what + ", the DATE", x.newcomer(sets[0], sets[1], 0, person, 0), date);
        Due.due(what + ", the DAY", x.newcomer(sets[0], sets[1], 0, person, 1), day);
    }

    private static SecretDays between(int born, String more) {
        return Due.told("person a born " + born + ";person b born 7;secret s with a from 0 0;" + more);
    }

    private static void newcomer() {
        int[] fromAToB = {1, 2};
        Due.says("on which DAY this one should be born so that a PERSON has a SECRET soonest: the DATE, the first such DAY.");
        newcomerIs(between(0, ""), "told on the first DATE", fromAToB, 1, 1, 1);
        newcomerIs(between(10, ""), "a day behind", fromAToB, 1, 11, 11);
        newcomerIs(between(364, ""), "on the last DAY", fromAToB, 1, 365, 365);
        newcomerIs(between(365, ""), "on the first of the next year", fromAToB, 1, YEAR, 0);
        newcomerIs(between(58, ""), "on the leap day", fromAToB, 1, 59, 59);
        newcomerIs(between(58, "leap 1;"), "the leap day is not there", fromAToB, 1, 60, 60);
        newcomerIs(between(58, "leap 3;away a from 0 0 to 2 365;"), "a later leap day", fromAToB, 1, 3 * YEAR + 59, 59);
        newcomerIs(between(59, "leap 2;"), "behind a leap day", fromAToB, 1, 2 * YEAR + 60, 60);
        newcomerIs(between(10, "away b from 0 11 to 0 11;"), "not while b is away", fromAToB, 1, 12, 12);
        newcomerIs(between(10, "away b from 0 0 to 1 4;"), "b is back on DAY 5", fromAToB, 1, YEAR + 5, 5);
        newcomerIs(between(10, "away b from 0 11 to 11 365;"), "b is away for ever", fromAToB, 1, -1, -1);
        newcomerIs(between(10, "away b from 0 0 to 11 364;"), "b is back on the last DATE", fromAToB, 1, LAST, 365);
        newcomerIs(between(10, "calls b on a;"), "no use: the first DAY", fromAToB, 1, 10, 0);
        newcomerIs(between(10, ""), "the beginner: the first DAY", fromAToB, 0, 0, 0);
        SecretDays x = Due.told("person a born 10;person b born 20;person c born 30;calls b on a;secret s with a from 0 0;");
        newcomerIs(x, "from a or b, to c", new int[] {3, 4}, 2, 11, 11);
        newcomerIs(x, "from b, to c", new int[] {2, 4}, 2, 21, 21);
        newcomerIs(x, "from all, to all", new int[] {7, 7}, 2, 11, 11);
        x = Due.told("person a born 100;person b born 50;person c born 101;person d born 7;calls b on a;calls d on b c;secret s with a from 0 0;");
        newcomerIs(x, "any DAY that is soon enough for b", new int[] {1, 4}, 3, YEAR + 50, 0);
        x = Due.told("person a born 100;person b born 150;person d born 7;calls d on b;secret s with a from 0 0;");
        newcomerIs(x, "from 101 to 149 for b", new int[] {1, 2}, 2, 150, 101);
        Due.says("never AWAY, without name day, knows nothing:");
        x = Due.told("person a born 10 name 5;person b born 20;secret s with a from 0 0;law names;away a from 0 11 to 11 365;away b from 0 0 to 0 30;");
        newcomerIs(x, "never away", fromAToB, 1, 31, 31);
        x = Due.told("person a born 200;person b born 20;secret s with a from 0 0;law names;");
        newcomerIs(x, "without name day", fromAToB, 1, 201, 201);
        newcomerIs(x, "knows nothing", new int[] {0, 2}, 1, -1, -1);
        newcomerIs(x, "nobody calls", new int[] {1, 0}, 1, -1, -1);
        newcomerIs(x, "no use", new int[] {0, 0}, 1, -1, -1);
        newcomerIs(x, "no use for the beginner", new int[] {0, 0}, 0, 0, 0);
        Due.says("NEWCOMER, what 0: the DATE, 1: the DAY; NONE: others (12 PERSONS are there), never.");
        x = between(10, "calls b on a;");
        Due.due("person 2", x.newcomer(1, 2, 0, 2, 0), -1);
        Due.due("secret 1", x.newcomer(1, 2, 1, 1, 0), -1);
        Due.due("what 2", x.newcomer(1, 2, 0, 1, 2), -1);
        Due.due("what -1", x.newcomer(1, 2, 0, 1, -1), -1);
        Due.due("calls on bit 2", x.newcomer(4, 2, 0, 1, 0), -1);
        Due.due("calls on bits 2 and 0", x.newcomer(5, 2, 0, 1, 0), -1);
        Due.due("called by bit 2", x.newcomer(1, 4, 0, 1, 0), -1);
        Due.due("all bits", x.newcomer(3, 3, 0, 1, 0), 10);
        for (int far : Due.FAR) {
            Due.due("calls on " + far, x.newcomer(far, 2, 0, 1, 0), -1);
            Due.due("called by " + far, x.newcomer(1, far, 0, 1, 0), -1);
            Due.due("secret " + far, x.newcomer(1, 2, far, 1, 0), -1);
            Due.due("person " + far, x.newcomer(1, 2, 0, far, 0), -1);
            Due.due("what " + far, x.newcomer(1, 2, 0, 1, far), -1);
        }
        Due.due("nobody has come", x.count(0) * 10 + x.count(2), 21);
        Due.due("nobody has come", x.person(0, 3), 2);
        Due.due("nobody has come", x.person(2, 0), -1);
        x = Due.told(Due.persons(11) + "secret s with a from 0 0;");
        newcomerIs(x, "11 are there", new int[] {1, 1024}, 10, 2, 2);
        Due.due("bit 11", x.newcomer(2048, 1024, 0, 10, 0), -1);
        x = Due.told(Due.persons(12) + "secret s with a from 0 0;");
        newcomerIs(x, "12 are there", new int[] {1, 1024}, 10, -1, -1);
        newcomerIs(x, "12 are there, for the beginner", new int[] {0, 0}, 0, -1, -1);
    }

    public static void main(String[] args) {
        letIn();
        cut();
        meet();
        newcomer();
        Due.end();
    }
}
