import java.util.ArrayList;
import java.util.Arrays;
import java.util.List;

/**
 * The town of the document, as plainly as can be: it is written from the document anew, goes DATE by
 * DATE and tries all DAYS, all sets of guests, all sets of doors.
 */
final class PlainTown {
    int leap;
    boolean law;
    int n;
    int[] born = new int[13];
    int[] name = new int[13];
    int[] ill = new int[13];
    boolean[][] calls = new boolean[13][13];
    List<int[]> aways = new ArrayList<>();
    List<int[]> secrets = new ArrayList<>();
    List<int[]> reports = new ArrayList<>();

    PlainTown copy() {
        PlainTown other = new PlainTown();
        other.leap = leap;
        other.law = law;
        other.n = n;
        other.born = born.clone();
        other.name = name.clone();
        other.ill = ill.clone();
        for (int p = 0; p < calls.length; p++) {
            other.calls[p] = calls[p].clone();
        }
        other.aways = new ArrayList<>(aways);
        other.secrets = new ArrayList<>(secrets);
        other.reports = new ArrayList<>(reports);
        return other;
    }

    boolean there(int date) {
        return date % 366 != 59 || (date / 366) % 4 == leap;
    }

    boolean away(int p, int date) {
        for (int[] a : aways) {
            if (a[0] == p && a[1] <= date && date <= a[2]) {
                return true;
            }
        }
        return false;
    }

    boolean free(int p, int date) {
        int day = date % 366;
        return there(date) && (born[p] == day || law && name[p] == day) && !away(p, date);
    }

    /** DATES on which anybody is free, so that the plain walk does not take all day. */
    int[] dates() {
        boolean[] feast = new boolean[366];
        for (int p = 0; p < n; p++) {
            feast[born[p]] = true;
            feast[name[p] == -1 ? born[p] : name[p]] = true;
        }
        int[] all = new int[4392];
        int size = 0;
        for (int date = 0; date < 4392; date++) {
            boolean any = false;
            for (int p = 0; p < n && feast[date % 366]; p++) {
                any |= free(p, date);
            }
            if (any) {
                all[size++] = date;
            }
        }
        return Arrays.copyOf(all, size);
    }

    int[] soonest(int beginner, int begins) {
        return soonest(beginner, begins, dates(), null, 0xfff | 1 << 12, 0, 0);
    }

    /** Only guests of a set are let in, some of them not ahead of a DATE; shut are PERSON and DATE. */
    int[] soonest(int beginner, int begins, int[] dates, List<int[]> shut, int set, int others, int before) {
        int[] had = new int[n];
        Arrays.fill(had, -1);
        had[beginner] = begins;
        for (int date : dates) {
            boolean[] tells = new boolean[n];
            for (int p = 0; p < n; p++) {
                boolean knew = had[p] != -1 && (had[p] < date || p == beginner && had[p] <= date);
                tells[p] = knew && free(p, date) && !isShut(shut, p, date);
            }
            for (int p = 0; p < n; p++) {
                for (int q = 0; q < n && tells[p]; q++) {
                    boolean letIn = (set >> q & 1) != 0 && !((others >> q & 1) != 0 && date < before);
                    if (calls[q][p] && !away(q, date) && had[q] == -1 && letIn) {
                        had[q] = date;
                    }
                }
            }
        }
        return had;
    }

    static boolean isShut(List<int[]> shut, int p, int date) {
        if (shut != null) {
            for (int[] s : shut) {
                if (s[0] == p && s[1] == date) {
                    return true;
                }
            }
        }
        return false;
    }

    List<Integer> tellers(int s, int p, int[] had) {
        List<Integer> list = new ArrayList<>();
        int beginner = secrets.get(s)[0];
        if (p == beginner || had[p] == -1) {
            return list;
        }
        for (int q = 0; q < n; q++) {
            boolean knew = had[q] != -1 && (had[q] < had[p] || q == beginner && had[q] <= had[p]);
            if (knew && free(q, had[p]) && calls[p][q]) {
                list.add(q);
            }
        }
        return list;
    }

    int hands(int s, int p, int[] had) {
        if (had[p] == -1) {
            return -1;
        }
        return p == secrets.get(s)[0] ? 0 : 1 + hands(s, tellers(s, p, had).get(0), had);
    }

    long ways(int s, int p, int[] had) {
        if (p == secrets.get(s)[0]) {
            return 1;
        }
        long sum = 0;
        for (int q : tellers(s, p, had)) {
            sum += ways(s, q, had);
        }
        return sum % 1000000007L;
    }

    int letIn(int s, int person, int by, int others, int before) {
        int[] secret = secrets.get(s);
        if ((others >> secret[0] & 1) != 0 && secret[1] < before) {
            return -1;
        }
        int best = -1;
        int[] dates = dates();
        for (int set = 0; set < 1 << n; set++) {
            int[] had = soonest(secret[0], secret[1], dates, null, set, others, before);
            int have = 0;
            for (int p = 0; p < n; p++) {
                have += had[p] != -1 && had[p] <= by ? 1 : 0;
            }
            if (had[person] != -1 && had[person] <= by && (best == -1 || have < best)) {
                best = have;
            }
        }
        return best;
    }

    /** All doors that can matter, none, one, two .. of them shut. */
    int cutByTrying(int s, int person, int by) {
        List<int[]> doors = new ArrayList<>();
        int[] secret = secrets.get(s);
        int[] had = soonest(secret[0], secret[1]);
        for (int date = 0; date <= by; date++) {
            for (int p = 0; p < n; p++) {
                if (p != person && free(p, date) && had[p] != -1 && had[p] <= date) {
                    doors.add(new int[] {p, date});
                }
            }
        }
        if (doors.size() > 11) {
            return -2;
        }
        int best = doors.size();
        int[] dates = dates();
        for (int set = 0; set < 1 << doors.size(); set++) {
            if (Integer.bitCount(set) >= best) {
                continue;
            }
            List<int[]> shut = new ArrayList<>();
            for (int i = 0; i < doors.size(); i++) {
                if ((set >> i & 1) != 0) {
                    shut.add(doors.get(i));
                }
            }
            int date = soonest(secret[0], secret[1], dates, shut, 0xfff, 0, 0)[person];
            if (date == -1 || date > by) {
                best = shut.size();
            }
        }
        return best;
    }

    /** A flow over PERSONS between DATES, each door an edge of one, by depth-first search. */
    int cutByFlow(int s, int person, int by) {
        int[] secret = secrets.get(s);
        List<int[]> doors = new ArrayList<>();
        for (int date = secret[1]; date <= by; date++) {
            for (int p = 0; p < n; p++) {
                if (free(p, date)) {
                    doors.add(new int[] {p, date});
                }
            }
        }
        int m = doors.size();
        int[][] room = new int[2 * m + 2][2 * m + 2];
        int source = 2 * m;
        int sink = 2 * m + 1;
        for (int i = 0; i < m; i++) {
            int p = doors.get(i)[0];
            int date = doors.get(i)[1];
            room[2 * i][2 * i + 1] = 1;
            if (p == secret[0]) {
                room[source][2 * i] = 1000;
            }
            if (calls[person][p] && !away(person, date)) {
                room[2 * i + 1][sink] = 1000;
            }
            for (int j = 0; j < m; j++) {
                int q = doors.get(j)[0];
                if (doors.get(j)[1] > date && calls[q][p] && !away(q, date)) {
                    room[2 * i + 1][2 * j] = 1000;
                }
            }
        }
        int flow = 0;
        while (push(room, source, sink, new boolean[2 * m + 2])) {
            flow++;
        }
        return flow;
    }

    static boolean push(int[][] room, int at, int sink, boolean[] seen) {
        if (at == sink) {
            return true;
        }
        seen[at] = true;
        for (int next = 0; next < room.length; next++) {
            if (room[at][next] > 0 && !seen[next] && push(room, next, sink, seen)) {
                room[at][next]--;
                room[next][at]++;
                return true;
            }
        }
        return false;
    }

    int[] meet(int s, int other) {
        int[] one = soonest(secrets.get(s)[0], secrets.get(s)[1]);
        int[] two = soonest(secrets.get(other)[0], secrets.get(other)[1]);
        for (int date = 0; date < 4392; date++) {
            for (int p = 0; p < n; p++) {
                if (one[p] != -1 && two[p] != -1 && one[p] <= date && two[p] <= date) {
                    return new int[] {date, p};
                }
            }
        }
        return new int[] {-1, -1};
    }

    int[] newcomer(int callsOn, int calledBy, int s, int person) {
        int best = -1;
        int bestDay = -1;
        n++;
        name[n - 1] = -1;
        for (int p = 0; p < n - 1; p++) {
            calls[n - 1][p] = (callsOn >> p & 1) != 0;
            calls[p][n - 1] = (calledBy >> p & 1) != 0;
        }
        for (int day = 0; day < 366; day++) {
            born[n - 1] = day;
            int date = soonest(secrets.get(s)[0], secrets.get(s)[1])[person];
            if (date != -1 && (best == -1 || date < best)) {
                best = date;
                bestDay = day;
            }
        }
        for (int p = 0; p < n; p++) {
            calls[n - 1][p] = false;
            calls[p][n - 1] = false;
        }
        n--;
        return new int[] {best, bestDay};
    }

    boolean holds(int s, int beginner) {
        int[] had = soonest(beginner, secrets.get(s)[1]);
        for (int[] r : reports) {
            boolean knew = had[r[0]] != -1 && had[r[0]] <= r[2];
            if (r[1] == s && knew != (r[3] == 1)) {
                return false;
            }
        }
        return true;
    }

    boolean holds() {
        for (int s = 0; s < secrets.size(); s++) {
            if (!holds(s, secrets.get(s)[0])) {
                return false;
            }
        }
        return true;
    }

    int began(int s) {
        int bits = 0;
        for (int p = 0; p < n; p++) {
            bits |= holds(s, p) ? 1 << p : 0;
        }
        return bits;
    }

    int instead(int p) {
        int old = born[p];
        int found = -1;
        for (int day = 0; day < 366 && found == -1; day++) {
            born[p] = day;
            if (day != old && holds()) {
                found = day;
            }
        }
        born[p] = old;
        return found;
    }

    int[] runs(int seed, int runs, int s, int person, int by) {
        long g = seed;
        int times = 0;
        int sum = 0;
        for (int run = 0; run < runs; run++) {
            int[] had = new int[n];
            Arrays.fill(had, -1);
            for (int date = 0; date < 4392; date++) {
                if (date >= secrets.get(s)[1]) {
                    had[secrets.get(s)[0]] = secrets.get(s)[1];
                }
                boolean[] knew = new boolean[n];
                for (int p = 0; p < n; p++) {
                    knew[p] = had[p] != -1;
                }
                for (int p = 0; p < n; p++) {
                    if (!free(p, date)) {
                        continue;
                    }
                    g = (g * 1103515245L + 12345L) & 0x7fffffffL;
                    if (g / 65536 % 100 < ill[p]) {
                        continue;
                    }
                    for (int q = 0; q < n; q++) {
                        if (knew[p] && calls[q][p] && !away(q, date) && had[q] == -1) {
                            had[q] = date;
                        }
                    }
                }
            }
            if (had[person] != -1 && had[person] <= by) {
                times++;
                sum += had[person];
            }
        }
        return new int[] {times, sum};
    }
}
