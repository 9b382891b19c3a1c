import java.util.Random;

/**
 * Towns in which all is full: a TAPE of 1,000 signs, 12 PERSONS with birthday and name day, 6 who call
 * on each, 12 times away, 4 SECRETS, 16 REPORTS, 4 MARKS; and towns that were full and are so no more.
 * What is due is asked of the plain town.
 */
public final class SecretDaysFull {
    private static final int LAST = 4391;

    private static char letter(int person) {
        return (char) ('a' + person);
    }

    /** Half of the DAYS have two digits, so that the text is not too long. */
    private static int drawDay(Random dice) {
        int day = dice.nextInt(dice.nextBoolean() ? 100 : 366);
        return day == 59 ? 60 : day;
    }

    private static void drawPersons(PlainTown m, StringBuilder text, Random dice) {
        for (int p = 0; p < m.n; p++) {
            m.born[p] = drawDay(dice);
            do {
                m.name[p] = drawDay(dice);
            } while (m.name[p] == m.born[p]);
            text.append("person ").append(letter(p)).append(" born ").append(m.born[p]).append("name ").append(m.name[p]);
            if (p % 4 == 1) {
                m.ill[p] = dice.nextInt(10) * 11;
                text.append("ill ").append(m.ill[p]);
            }
            text.append(';');
        }
    }

    private static void drawCalls(PlainTown m, StringBuilder text, Random dice) {
        for (int host = 0; host < m.n; host++) {
            for (int i = 0; i < 6; i++) {
                int caller = dice.nextInt(m.n);
                while (caller == host || m.calls[caller][host]) {
                    caller = (caller + 1) % m.n;
                }
                m.calls[caller][host] = true;
            }
        }
        for (int p = 0; p < m.n; p++) {
            String names = "";
            for (int q = 0; q < m.n; q++) {
                names += m.calls[p][q] ? " " + letter(q) : "";
            }
            text.append(names.isEmpty() ? "" : "calls " + letter(p) + " on" + names + ";");
        }
    }

    /** On DAYS on which nobody is FREE all doors are there, 288 of them; else some are shut. */
    private static void drawAways(PlainTown m, StringBuilder text, Random dice, boolean allDoors) {
        for (int i = 0; i < 12; i++) {
            int person = allDoors ? 0 : i == 11 ? 11 % m.n : dice.nextInt(m.n);
            int day = allDoors ? 0 : m.born[dice.nextInt(m.n)];
            int year = dice.nextInt(9);
            while (allDoors && isFeast(m, person, day)) {
                day++;
            }
            m.aways.add(new int[] {person, year * 366 + day, year * 366 + day});
            text.append("away ").append(letter(person)).append(" from ").append(year).append(' ').append(day)
                .append("to ").append(year).append(' ').append(day).append(';');
        }
    }

    private static boolean isFeast(PlainTown m, int person, int day) {
        for (int p = 0; p < m.n; p++) {
            if ((p == person || m.calls[person][p]) && (m.born[p] == day || m.name[p] == day)) {
                return true;
            }
        }
        return false;
    }

    private static String draw(PlainTown m, Random dice, int persons, boolean allDoors) {
        StringBuilder text = new StringBuilder("law names;leap 3;");
        m.law = true;
        m.leap = 3;
        m.n = persons;
        drawPersons(m, text, dice);
        drawCalls(m, text, dice);
        drawAways(m, text, dice, allDoors);
        String[] froms = {"0 0", "0 9", "6 5", "11 365"};
        int[] begins = {0, 9, 6 * 366 + 5, LAST};
        for (int s = 0; s < 4; s++) {
            int with = dice.nextInt(m.n);
            m.secrets.add(new int[] {with, begins[s]});
            text.append("secret ").append((char) ('w' + s)).append(" with ").append(letter(with)).append(" from ").append(froms[s]).append(';');
        }
        return text.toString();
    }

    private static void askSpread(SecretDays x, PlainTown m) {
        for (int s = 0; s < 4; s++) {
            int[] had = m.soonest(m.secrets.get(s)[0], m.secrets.get(s)[1]);
            int knows = 0;
            int all = 0;
            for (int p = 0; p < m.n; p++) {
                Due.due("soonest " + s + " " + p, x.soonest(s, p), had[p]);
                Due.due("ways " + s + " " + p, x.ways(s, p), m.ways(s, p, had));
                Due.due("hands " + s + " " + p, x.hands(s, p), m.hands(s, p, had));
                knows |= had[p] != -1 ? 1 << p : 0;
                all = all == -1 || had[p] == -1 ? -1 : Math.max(all, had[p]);
            }
            Due.due("knows " + s, x.knows(s, LAST), knows);
            Due.due("cant " + s, x.cant(s, LAST), (1 << m.n) - 1 & ~knows);
            Due.due("all " + s, x.all(s), all);
            int[] meet = m.meet(s, (s + 1) % 4);
            Due.due("meet " + s, x.meet(s, (s + 1) % 4, 0), meet[0]);
            Due.due("meet who " + s, x.meet(s, (s + 1) % 4, 1), meet[1]);
        }
    }

    private static void askDoors(SecretDays x, PlainTown m, Random dice, boolean letIn) {
        for (int s = 0; s < 4; s++) {
            int p = (m.secrets.get(s)[0] + 1 + dice.nextInt(m.n - 1)) % m.n;
            int by = s % 2 == 0 ? LAST : dice.nextInt(4392);
            Due.due("cut " + s + " " + p + " " + by, x.cut(s, p, by), m.cutByFlow(s, p, by));
            int[] runs = m.runs(9999 - s, 20, s, p, by);
            Due.due("runs " + s + " " + p + " " + by, x.runs(9999 - s, 20, s, p, by, 0), runs[0]);
            Due.due("the sum", x.runs(9999 - s, 20, s, p, by, 1), runs[1]);
        }
        if (letIn) {
            int p = (m.secrets.get(0)[0] + 1 + dice.nextInt(m.n - 1)) % m.n;
            int others = (1 << m.n) - 1 & ~(1 << m.secrets.get(0)[0]);
            Due.due("letIn " + p, x.letIn(0, p, LAST, others, 900), m.letIn(0, p, LAST, others, 900));
            Due.due("letIn " + p, x.letIn(3, p, LAST, 0, LAST), m.letIn(3, p, LAST, 0, LAST));
        }
    }

    private static void askReports(SecretDays x, PlainTown m, Random dice, int persons) {
        for (int i = 0; i < 16; i++) {
            int s = i % 4;
            int p = (i * 5 + 3) % m.n;
            int date = Math.min(LAST, m.secrets.get(s)[1] + dice.nextInt(40));
            int[] had = m.soonest(m.secrets.get(s)[0], m.secrets.get(s)[1]);
            // The last one may be wrong: then a birthday must be, too.
            boolean amiss = i == 15 && dice.nextBoolean();
            boolean knew = (had[p] != -1 && had[p] <= date) != amiss;
            m.reports.add(new int[] {p, s, date, knew ? 1 : 0});
            Due.due("report", x.report(p, s, date, knew), i + 1);
        }
        Due.due("report", x.report(0, 0, 0, true), -1);
        Due.due("holds", x.holds(), m.holds() ? 1 : 0);
        for (int s = 0; s < 4; s++) {
            Due.due("began " + s, x.began(s), m.began(s));
        }
        for (int i = 0; i < persons; i++) {
            int p = (i * 7 + dice.nextInt(12)) % m.n;
            int day = m.instead(p);
            Due.due("instead " + p, x.instead(p), day);
            Due.due("wrong", x.wrong() >> p & 1, day == -1 ? 0 : 1);
        }
    }

    private static void askMarks(SecretDays x, PlainTown m) {
        for (int mark = 0; mark < 4; mark++) {
            Due.due("mark", x.mark(mark, false), true);
        }
        x.clear();
        x.law(false);
        for (int mark = 3; mark >= 0; mark--) {
            Due.due("back", x.mark(mark, true), true);
            Due.due("reports", x.count(6), 16);
            Due.due("law", x.count(5), 1);
        }
        Due.due("holds", x.holds(), m.holds() ? 1 : 0);
        Due.due("began", x.began(0), m.began(0));
    }

    private static void askNewcomer(SecretDays x, PlainTown m, Random dice) {
        int everyone = (1 << m.n) - 1;
        for (int s = 0; s < 4; s++) {
            int p = dice.nextInt(m.n);
            int callsOn = s == 0 ? everyone : 1 << dice.nextInt(m.n);
            int calledBy = s == 0 ? everyone : 1 << p;
            int[] want = m.newcomer(callsOn, calledBy, s, p);
            Due.due("newcomer " + s + " " + p, x.newcomer(callsOn, calledBy, s, p, 0), want[0]);
            Due.due("newcomer " + s + " " + p, x.newcomer(callsOn, calledBy, s, p, 1), want[1]);
        }
    }

    private static String spaces(int number) {
        StringBuilder text = new StringBuilder();
        for (int i = 0; i < number; i++) {
            text.append(' ');
        }
        return text.toString();
    }

    private static void askTown(int seed, SecretDays x, int persons, boolean allDoors) {
        Random dice = new Random(seed);
        PlainTown m = new PlainTown();
        String text = draw(m, dice, persons, allDoors);
        while (text.length() > 1000) {
            m = new PlainTown();
            text = draw(m, dice, persons, allDoors);
        }
        Due.says(text);
        Due.due("signs", Due.feedText(x, spaces(1000 - text.length()) + text), 1000);
        Due.due("one more", x.feed(';', ';', ';'), 1000);
        Due.due("town", x.town(), 0);
        int[] counts = {persons, 4, 6 * persons, 12, 3, 1, 0, 0};
        for (int what = 0; what < 8; what++) {
            Due.due("count " + what, x.count(what), counts[what]);
        }
        askSpread(x, m);
        askDoors(x, m, dice, seed % 4 == 0);
        askReports(x, m, dice, seed % 2 == 0 ? 2 : 0);
        askMarks(x, m);
        if (persons < 12) {
            askNewcomer(x, m, dice);
        }
    }

    public static void main(String[] args) {
        for (int seed = 0; seed < 24; seed++) {
            SecretDays x = new SecretDays();
            askTown(seed, x, seed % 3 == 2 ? 11 : 12, seed % 3 == 0);
        }
        // One object, where a full town is followed by others.
        SecretDays x = new SecretDays();
        for (int seed = 24; seed < 36; seed++) {
            askTown(seed, x, seed % 2 == 0 ? 12 : 11, seed % 3 == 0);
        }
        Due.end();
    }
}
