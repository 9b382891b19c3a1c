import java.util.List;
import java.util.Random;

/**
 * Calls of all kinds in any order, up to 512 on one object: what a call answers must not depend on
 * what was asked before it, only on the TOWN, the law, the REPORTS, the MARKS and the TAPE, which a
 * plain town keeps beside it.
 */
public final class SecretDaysAnyOrder {
    private static final int LAST = 4391;
    private static final int MOST_CALLS = 512;

    private final Random dice;
    private final SecretDays x = new SecretDays();
    private PlainTown m = new PlainTown();
    private final PlainTown[] marks = new PlainTown[4];
    private int signs = 0;
    private int calls = 0;

    private SecretDaysAnyOrder(int seed) {
        dice = new Random(seed);
    }

    private void due(String call, long got, long want) {
        calls++;
        Due.due("call " + calls + ": " + call, got, want);
    }

    private boolean isPerson(int p) {
        return p >= 0 && p < m.n;
    }

    private boolean isSecret(int s) {
        return s >= 0 && s < m.secrets.size();
    }

    private boolean isDate(int date) {
        return date >= 0 && date <= LAST;
    }

    private boolean isSet(int bits) {
        return bits >= 0 && bits < 1 << m.n;
    }

    /** Mostly from 0 up to below a bound, now and then right beside it. */
    private int below(int bound) {
        return dice.nextInt(16) == 0 ? (dice.nextBoolean() ? -1 : bound) : dice.nextInt(Math.max(1, bound));
    }

    private int[] had(int s) {
        return m.soonest(m.secrets.get(s)[0], m.secrets.get(s)[1]);
    }

    /** Mostly near a DATE on which something comes to somebody. */
    private int drawDate() {
        if (m.secrets.isEmpty() || dice.nextInt(5) == 0) {
            return below(LAST + 1);
        }
        int[] had = had(dice.nextInt(m.secrets.size()));
        return Math.min(LAST, Math.max(0, had[dice.nextInt(m.n)] + new int[] {0, 0, -1, 1, -366, 366}[dice.nextInt(6)]));
    }

    private void feedText(String text) {
        for (int i = 0; i < text.length(); i += 24) {
            signs += Math.min(24, text.length() - i);
            calls += i == 0 ? 0 : 1;
        }
        due("feed [" + text + "]", Due.feedText(x, text), signs);
    }

    private void askTown() {
        Drawn drawn = new Drawn(dice, 6);
        String end = new String[] {"", "", "", " +", "leap 4;"}[dice.nextInt(5)];
        if (drawn.text.length() + end.length() > 1000 - signs) {
            end = "";
        }
        if (drawn.text.length() > 1000 - signs) {
            takeTape();
        }
        int before = signs;
        feedText(drawn.text + end);
        int fault = before > 0 ? 1 : end.equals(" +") ? 1 + 16 * (signs - 1) : 0;
        if (fault == 0 && end.equals("leap 4;")) {
            fault = drawn.text.contains("leap") ? 3 + 16 * (signs - 7) : 4 + 16 * (signs - 2);
        }
        signs = 0;
        due("town", x.town(), fault);
        if (fault == 0) {
            m = drawn.plain;
            forgetMarks();
        }
    }

    /** What was fed by itself is "+" alone. */
    private void takeTape() {
        boolean empty = signs == 0;
        signs = 0;
        due("town", x.town(), empty ? 0 : 1);
        if (empty) {
            m = new PlainTown();
            forgetMarks();
        }
    }

    private void forgetMarks() {
        for (int mark = 0; mark < 4; mark++) {
            marks[mark] = null;
        }
    }

    private void askState() {
        int what = below(8);
        int pairs = 0;
        for (boolean[] row : m.calls) {
            for (boolean one : row) {
                pairs += one ? 1 : 0;
            }
        }
        int[] counts = {m.n, m.secrets.size(), pairs, m.aways.size(), m.leap, m.law ? 1 : 0, m.reports.size(), signs};
        due("count " + what, x.count(what), what < 0 || what > 7 ? -1 : counts[what]);
        int p = below(m.n);
        what = below(5);
        int bits = 0;
        for (int q = 0; q < m.n && isPerson(p); q++) {
            bits |= what == 3 && m.calls[q][p] || what == 4 && m.calls[p][q] ? 1 << q : 0;
        }
        boolean fits = isPerson(p) && what >= 0 && what < 5;
        due("person " + p + " " + what, x.person(p, what), !fits ? -1 : what == 0 ? m.born[p] : what == 1 ? m.name[p] : what == 2 ? m.ill[p] : bits);
    }

    private void askDay() {
        int year = below(12);
        int day = dice.nextBoolean() || m.n == 0 ? below(366) : m.born[dice.nextInt(m.n)];
        int date = year * 366 + day;
        boolean there = year >= 0 && year < 12 && day >= 0 && day < 366 && m.there(date);
        due("date " + year + " " + day, x.date(year, day), there ? date : -1);
        int p = below(m.n);
        date = dice.nextInt(3) == 0 ? drawDate() : date;
        boolean fits = isPerson(p) && isDate(date) && m.there(date);
        due("free " + p + " " + date, x.free(p, date), !fits ? -1 : m.free(p, date) ? 1 : 0);
        due("away " + p + " " + date, x.away(p, date), !fits ? -1 : m.away(p, date) ? 1 : 0);
    }

    private void askHad() {
        int s = below(m.secrets.size());
        int p = below(m.n);
        boolean fits = isSecret(s) && isPerson(p);
        int[] had = isSecret(s) ? had(s) : new int[0];
        List<Integer> tellers = fits ? m.tellers(s, p, had) : List.of();
        switch (dice.nextInt(5)) {
            case 0: due("soonest " + s + " " + p, x.soonest(s, p), fits ? had[p] : -1); break;
            case 1: due("by " + s + " " + p, x.by(s, p), tellers.isEmpty() ? -1 : tellers.get(0)); break;
            case 2: due("hands " + s + " " + p, x.hands(s, p), fits ? m.hands(s, p, had) : -1); break;
            case 3: due("ways " + s + " " + p, x.ways(s, p), fits ? m.ways(s, p, had) : -1); break;
            default:
                int all = isSecret(s) ? 0 : -1;
                for (int date : had) {
                    all = all == -1 || date == -1 ? -1 : Math.max(all, date);
                }
                due("all " + s, x.all(s), all);
        }
    }

    private void askKnown() {
        int s = below(m.secrets.size());
        int date = drawDate();
        boolean fits = isSecret(s) && isDate(date);
        int knows = 0;
        for (int p = 0; p < m.n && fits; p++) {
            int had = had(s)[p];
            knows |= had != -1 && had <= date ? 1 << p : 0;
        }
        due("knows " + s + " " + date, x.knows(s, date), fits ? knows : -1);
        due("cant " + s + " " + date, x.cant(s, date), fits ? (1 << m.n) - 1 & ~knows : -1);
        int other = below(m.secrets.size());
        int what = below(2);
        boolean two = isSecret(s) && isSecret(other) && s != other && what >= 0 && what < 2;
        due("meet " + s + " " + other + " " + what, x.meet(s, other, what), two ? m.meet(s, other)[what] : -1);
    }

    private void askDoors() {
        int s = below(m.secrets.size());
        int p = below(m.n);
        int by = drawDate();
        int before = drawDate();
        int others = dice.nextBoolean() ? 0 : below(1 << m.n);
        boolean fits = isSecret(s) && isPerson(p) && isDate(by);
        if (dice.nextBoolean()) {
            boolean all = fits && isSet(others) && isDate(before);
            due("letIn " + s + " " + p + " " + by + " " + others + " " + before,
                x.letIn(s, p, by, others, before), all ? m.letIn(s, p, by, others, before) : -1);
        } else {
            boolean told = fits && p != m.secrets.get(s)[0];
            due("cut " + s + " " + p + " " + by, x.cut(s, p, by), told ? m.cutByFlow(s, p, by) : -1);
        }
    }

    private void askRuns() {
        int seed = below(10000);
        int runs = 1 + below(20);
        int s = below(m.secrets.size());
        int p = below(m.n);
        int by = drawDate();
        int what = below(2);
        boolean fits = seed >= 0 && seed < 10000 && runs >= 1 && runs <= 20 && isSecret(s) && isPerson(p) && isDate(by) && what >= 0 && what < 2;
        due("runs " + seed + " " + runs + " " + s + " " + p + " " + by + " " + what,
            x.runs(seed, runs, s, p, by, what), fits ? m.runs(seed, runs, s, p, by)[what] : -1);
    }

    private void report() {
        int s = below(m.secrets.size());
        int p = below(m.n);
        int date = drawDate();
        boolean knew = dice.nextBoolean();
        boolean fits = isSecret(s) && isPerson(p) && isDate(date) && m.reports.size() < 16;
        if (fits && dice.nextInt(5) > 0) {
            int had = had(s)[p];
            knew = had != -1 && had <= date;
        }
        if (fits) {
            m.reports.add(new int[] {p, s, date, knew ? 1 : 0});
        }
        due("report " + p + " " + s + " " + date + " " + knew, x.report(p, s, date, knew), fits ? m.reports.size() : -1);
    }

    private void askReports() {
        int s = below(m.secrets.size());
        due("holds", x.holds(), m.holds() ? 1 : 0);
        due("began " + s, x.began(s), isSecret(s) ? m.began(s) : -1);
    }

    private void askInstead() {
        int p = below(m.n);
        due("instead " + p, x.instead(p), isPerson(p) ? m.instead(p) : -1);
    }

    private void askWrong() {
        int bits = 0;
        for (int p = 0; p < m.n; p++) {
            bits |= m.instead(p) != -1 ? 1 << p : 0;
        }
        due("wrong", x.wrong(), bits);
    }

    private void askNewcomer() {
        int callsOn = below(1 << m.n);
        int calledBy = below(1 << m.n);
        int s = below(m.secrets.size());
        int p = below(m.n);
        int what = below(2);
        boolean fits = isSet(callsOn) && isSet(calledBy) && isSecret(s) && isPerson(p) && what >= 0 && what < 2;
        due("newcomer " + callsOn + " " + calledBy + " " + s + " " + p + " " + what,
            x.newcomer(callsOn, calledBy, s, p, what), fits ? m.newcomer(callsOn, calledBy, s, p)[what] : -1);
    }

    private void mark() {
        int mark = below(4);
        boolean back = dice.nextBoolean();
        boolean fits = mark >= 0 && mark < 4 && (!back || marks[mark] != null);
        due("mark " + mark + " " + back, x.mark(mark, back) ? 1 : 0, fits ? 1 : 0);
        if (fits && back) {
            m = marks[mark].copy();
        } else if (fits) {
            marks[mark] = m.copy();
        }
    }

    /** What is FALSE goes by the law, too. */
    private void law() {
        askWrong();
        m.law = dice.nextBoolean();
        due("law " + m.law, x.law(m.law) ? 1 : 0, 1);
        askWrong();
    }

    private void clear() {
        m.reports.clear();
        due("clear", x.clear() ? 1 : 0, 1);
    }

    private void step() {
        switch (dice.nextInt(24)) {
            case 0: askState(); break;
            case 1: askDay(); break;
            case 2: case 3: case 4: case 5: askHad(); break;
            case 6: askKnown(); break;
            case 7: case 8: case 9: askDoors(); break;
            case 10: askRuns(); break;
            case 11: case 12: case 13: case 14: report(); break;
            case 15: case 16: askReports(); break;
            case 17: case 18: askInstead(); break;
            case 19: askNewcomer(); break;
            case 20: case 21: mark(); break;
            case 22: law(); break;
            default:
                switch (dice.nextInt(6)) {
                    case 0: clear(); break;
                    case 1: feedText("+"); break;
                    case 2: takeTape(); break;
                    default: askTown();
                }
        }
    }

    private void live() {
        askTown();
        while (calls < MOST_CALLS - 50) {
            step();
        }
    }

    public static void main(String[] args) {
        for (int seed = 0; seed < 150; seed++) {
            Due.says("seed " + seed);
            new SecretDaysAnyOrder(seed).live();
        }
        Due.end();
    }
}
