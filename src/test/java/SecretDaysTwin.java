import java.util.List;
import java.util.Random;

/**
 * Draws towns and asks the class and the plain town of src/test/help the same.
 */
public final class SecretDaysTwin {
    private static int wrong = 0;
    private static int asked = 0;

    private static void due(String town, String call, long got, long want) {
        asked++;
        if (got != want) {
            wrong++;
            if (wrong <= 40) {
                System.out.println(town + "\n  " + call + " answered " + got + ", due is " + want);
            }
        }
    }

    private static void askDays(SecretDays x, PlainTown m, String town, Random dice) {
        for (int i = 0; i < 40; i++) {
            int year = dice.nextInt(12);
            int day = dice.nextInt(3) == 0 ? 59 : m.born[dice.nextInt(m.n)];
            int date = year * 366 + day;
            int p = dice.nextInt(m.n);
            due(town, "date " + date, x.date(year, day), m.there(date) ? date : -1);
            due(town, "free " + p + " " + date, x.free(p, date), !m.there(date) ? -1 : m.free(p, date) ? 1 : 0);
            due(town, "away " + p + " " + date, x.away(p, date), !m.there(date) ? -1 : m.away(p, date) ? 1 : 0);
        }
        for (int p = 0; p < m.n; p++) {
            int callers = 0;
            int hosts = 0;
            for (int q = 0; q < m.n; q++) {
                callers |= m.calls[q][p] ? 1 << q : 0;
                hosts |= m.calls[p][q] ? 1 << q : 0;
            }
            int[] want = {m.born[p], m.name[p], m.ill[p], callers, hosts};
            for (int what = 0; what < 5; what++) {
                due(town, "person " + p + " " + what, x.person(p, what), want[what]);
            }
        }
    }

    private static void askSpread(SecretDays x, PlainTown m, String town, Random dice) {
        for (int s = 0; s < m.secrets.size(); s++) {
            int[] had = m.soonest(m.secrets.get(s)[0], m.secrets.get(s)[1]);
            int all = 0;
            for (int p = 0; p < m.n; p++) {
                due(town, "soonest " + s + " " + p, x.soonest(s, p), had[p]);
                List<Integer> tellers = m.tellers(s, p, had);
                due(town, "by " + s + " " + p, x.by(s, p), tellers.isEmpty() ? -1 : tellers.get(0));
                due(town, "hands " + s + " " + p, x.hands(s, p), m.hands(s, p, had));
                due(town, "ways " + s + " " + p, x.ways(s, p), m.ways(s, p, had));
                all = all == -1 || had[p] == -1 ? -1 : Math.max(all, had[p]);
            }
            due(town, "all " + s, x.all(s), all);
            for (int i = 0; i < 6; i++) {
                int near = had[dice.nextInt(m.n)];
                int date = near == -1 ? dice.nextInt(4392) : Math.max(0, Math.min(4391, near + dice.nextInt(3) - 1));
                int knows = 0;
                for (int p = 0; p < m.n; p++) {
                    knows |= had[p] != -1 && had[p] <= date ? 1 << p : 0;
                }
                due(town, "knows " + s + " " + date, x.knows(s, date), knows);
                due(town, "cant " + s + " " + date, x.cant(s, date), (1 << m.n) - 1 & ~knows);
            }
            for (int other = 0; other < m.secrets.size(); other++) {
                int[] meet = other == s ? new int[] {-1, -1} : m.meet(s, other);
                due(town, "meet " + s + " " + other, x.meet(s, other, 0), meet[0]);
                due(town, "meet who " + s + " " + other, x.meet(s, other, 1), meet[1]);
            }
        }
    }

    private static void askDoors(SecretDays x, PlainTown m, String town, Random dice) {
        for (int i = 0; i < 6; i++) {
            int s = dice.nextInt(m.secrets.size());
            int p = dice.nextInt(m.n);
            int date = Math.min(4391, m.secrets.get(s)[1] + dice.nextInt(dice.nextBoolean() ? 900 : 4000));
            int had = m.soonest(m.secrets.get(s)[0], m.secrets.get(s)[1])[p];
            if (had != -1 && i % 2 == 0) {
                date = Math.max(0, Math.min(4391, had + new int[] {-1, 0, 1, 366}[dice.nextInt(4)]));
            }
            if (m.n <= 7) {
                int others = dice.nextInt(1 << m.n) & dice.nextInt(1 << m.n);
                int before = Math.min(4391, m.secrets.get(s)[1] + dice.nextInt(800));
                due(town, "letIn " + s + " " + p + " " + date + " " + others + " " + before,
                    x.letIn(s, p, date, others, before), m.letIn(s, p, date, others, before));
            }
            String call = "cut " + s + " " + p + " " + date;
            if (p == m.secrets.get(s)[0]) {
                due(town, call, x.cut(s, p, date), -1);
            } else {
                due(town, call, x.cut(s, p, date), m.cutByFlow(s, p, date));
                int tried = m.cutByTrying(s, p, date);
                if (tried != -2) {
                    due(town, call + " tried", x.cut(s, p, date), tried);
                }
            }
        }
        for (int i = 0; i < 2; i++) {
            int s = dice.nextInt(m.secrets.size());
            int p = dice.nextInt(m.n);
            int seed = dice.nextInt(10000);
            int runs = 1 + dice.nextInt(20);
            int by = dice.nextInt(4392);
            int[] want = m.runs(seed, runs, s, p, by);
            String call = "runs " + seed + " " + runs + " " + s + " " + p + " " + by + " ";
            due(town, call + 0, x.runs(seed, runs, s, p, by, 0), want[0]);
            due(town, call + 1, x.runs(seed, runs, s, p, by, 1), want[1]);
        }
    }

    /** Webs of one year in which ways cross: who calls when is drawn for each day by itself. */
    private static void askWebs(SecretDays x) {
        int several = 0;
        for (int seed = 0; seed < 4000; seed++) {
            Random dice = new Random(seed);
            PlainTown m = new PlainTown();
            m.n = 12;
            m.law = true;
            StringBuilder text = new StringBuilder("law names;");
            for (int p = 0; p < 12; p++) {
                m.born[p] = 20 * p + 10 + dice.nextInt(60);
                m.name[p] = p < 1 + seed % 3 ? m.born[p] + dice.nextInt(20) : -1;
                text.append("person ").append(Drawn.word(p)).append(" born ").append(m.born[p]);
                text.append(m.name[p] == -1 ? "" : " name " + m.name[p]).append(';');
            }
            int[] callers = new int[12];
            for (int p = 1; p < 12; p++) {
                StringBuilder on = new StringBuilder();
                for (int q = 0; q < 12; q++) {
                    if (q != p && q != 11 && m.born[q] < m.born[p] + 30 && callers[q] < 6 && dice.nextInt(p == 11 ? 3 : 4) == 0) {
                        m.calls[p][q] = true;
                        callers[q]++;
                        on.append(' ').append(Drawn.word(q));
                    }
                }
                text.append(on.length() == 0 ? "" : "calls " + Drawn.word(p) + " on" + on + ";");
            }
            for (int i = 0; i < 12; i++) {
                int host = dice.nextInt(3);
                int day = dice.nextBoolean() && m.name[host] != -1 ? m.name[host] : m.born[host];
                int p = 1 + dice.nextInt(11);
                String away = "away " + Drawn.word(p) + " from 0 " + day + " to 0 " + day + ";";
                if (text.length() + away.length() < 960) {
                    m.aways.add(new int[] {p, day, day});
                    text.append(away);
                }
            }
            m.secrets.add(new int[] {0, 0});
            text.append("secret za with pa from 0 0;");
            Due.feedText(x, text.toString());
            due(text.toString(), "town", x.town(), 0);
            for (int by = 200; by < 500; by += 50) {
                int want = m.cutByFlow(0, 11, by);
                several += want > 1 ? 1 : 0;
                due(text.toString(), "cut 0 11 " + by, x.cut(0, 11, by), want);
            }
        }
        due("all webs", "some webs hold by several doors", several > 1000 ? 1 : 0, 1);
    }

    /** Found by a search: here a way is left again, and what it left is taken by a later one. */
    private static final String[] KNOTS = {
        "law names;person a born 114 name 131;person b born 168;person c born 185;person d born 193;person e born 187 name 286;"
            + "person f born 201;person g born 189;person h born 206;person i born 210;person j born 238 name 77;calls b on a f g h;"
            + "calls c on b g h;calls d on a b h i;calls e on c f g;calls f on b d;calls g on a c i;calls h on c d e i;calls i on d f;"
            + "calls j on e;secret zz with a from 0 0;away j from 0 189 to 0 189;away d from 1 201 to 1 201;away d from 1 286 to 1 286;"
            + "away g from 1 131 to 1 131;away g from 0 114 to 0 114;away i from 1 114 to 1 114;away h from 0 131 to 0 131;"
            + "away f from 0 131 to 0 131;away d from 1 131 to 1 131;away i from 1 114 to 1 114;away g from 1 114 to 1 114;"
            + "away e from 1 185 to 1 185;",
        "law names;person a born 97 name 136;person b born 118 name 299;person c born 166;person d born 154;"
            + "person e born 181 name 335;person f born 160 name 85;person g born 171 name 259;person h born 184;"
            + "person i born 200 name 232;person j born 214;calls b on g i;calls c on d f g;calls d on a h;calls e on b g h;"
            + "calls f on a b;calls g on d h;calls h on d;calls i on c d e g h;calls j on e;secret zz with a from 0 0;"
            + "away d from 1 136 to 1 136;away g from 0 181 to 0 181;away b from 1 136 to 1 136;away i from 0 136 to 0 136;"
            + "away c from 1 299 to 1 299;away e from 1 232 to 1 232;away b from 1 299 to 1 299;away h from 1 97 to 1 97;"
            + "away h from 1 136 to 1 136;away d from 0 97 to 0 97;away e from 1 97 to 1 97;away e from 1 97 to 1 97;",
        "law names;person a born 176 name 194;person b born 211;person c born 204;person d born 222 name 5;person e born 223;"
            + "person f born 217 name 235;person g born 232;person h born 229 name 351;person i born 248;person j born 239;"
            + "person k born 257;calls b on a g h;calls c on b e g j;calls d on h;calls f on a d;calls g on b i;calls h on c f g;"
            + "calls i on a e f h;calls j on f;calls k on d e;secret zz with a from 0 116;away f from 0 176 to 0 176;"
            + "away k from 0 176 to 0 176;away i from 1 176 to 1 176;away g from 1 176 to 1 176;away f from 1 232 to 1 232;"
            + "away h from 1 257 to 1 257;away h from 0 232 to 0 232;away f from 1 194 to 1 194;away k from 1 176 to 1 176;"
            + "away d from 1 176 to 1 176;away j from 1 194 to 1 194;away d from 1 176 to 1 176;",
        "law names;person a born 244 name 280;person b born 309;person c born 321 name 44;person d born 325;person e born 340;"
            + "person f born 337;person g born 342;person h born 364;person i born 365 name 288;person j born 5;"
            + "person k born 21 name 213;calls b on d e j;calls c on b h i;calls d on e g h;calls e on a c i;calls f on a i;"
            + "calls h on c f;calls i on a c g;calls j on b c d;calls k on c;secret zz with a from 0 0;away k from 1 244 to 1 244;"
            + "away i from 1 244 to 1 244;away i from 0 309 to 0 309;away c from 1 280 to 1 280;away e from 0 244 to 0 244;"
            + "away k from 1 244 to 1 244;away k from 0 280 to 0 280;away b from 1 280 to 1 280;away f from 0 280 to 0 280;"
            + "away i from 0 280 to 0 280;away d from 0 280 to 0 280;away f from 0 244 to 0 244;",
        "law names;person a born 44 name 75;person b born 70;person c born 107 name 195;person d born 99 name 38;"
            + "person e born 135;person f born 149 name 192;person g born 162;person h born 182 name 126;person i born 180;"
            + "person j born 186;person k born 228;person l born 253;calls b on c k;calls c on b h i;calls d on b e h i j;"
            + "calls e on a b;calls f on a k;calls g on j;calls h on a;calls i on g j;calls j on b f i;calls k on i j;calls l on c;"
            + "secret zz with a from 0 0;away k from 0 228 to 0 228;away h from 0 44 to 0 44;away h from 1 44 to 1 44;"
            + "away h from 1 44 to 1 44;away h from 1 44 to 1 44;away i from 1 126 to 1 126;away f from 1 75 to 1 75;"
            + "away k from 0 192 to 0 192;away k from 1 75 to 1 75;away f from 0 75 to 0 75;away c from 0 162 to 0 162;"
            + "away i from 1 182 to 1 182;",
        "law names;person a born 164 name 197;person b born 221 name 279;person c born 274 name 312;"
            + "person d born 228 name 288;person e born 265;person f born 174;person g born 223;person h born 207;"
            + "person i born 263;person j born 237;person k born 222;person l born 276;calls b on i;calls c on a e h j;"
            + "calls d on c;calls e on b h j;calls f on a b h j;calls g on b j;calls h on d;calls i on d;calls j on e;"
            + "calls k on e f g;calls l on f g;secret zz with a from 0 0;away c from 2 223 to 2 223;away k from 1 222 to 1 222;"
            + "away k from 0 265 to 0 265;away b from 1 222 to 1 222;away f from 0 174 to 0 174;away e from 1 312 to 1 312;"
            + "away l from 2 174 to 2 174;away c from 0 164 to 0 164;away k from 2 197 to 2 197;away e from 0 276 to 0 276;"
            + "away h from 1 174 to 1 174;away h from 0 312 to 0 312;",
        "law names;person a born 43 name 92;person b born 75;person c born 72;person d born 111;person e born 86;"
            + "person f born 107 name 156;person g born 99;person h born 92 name 122;person i born 72 name 127;"
            + "person j born 109 name 123;person k born 120 name 154;person l born 102 name 148;calls b on d g;calls c on a d j k;"
            + "calls d on c g;calls e on b d h j;calls f on e i k;calls g on a j;calls h on c d i;calls i on d h;"
            + "calls j on b c d e i;calls k on e;calls l on f;secret zz with a from 0 0;away e from 0 72 to 0 72;"
            + "away i from 2 111 to 2 111;away e from 1 154 to 1 154;away d from 2 92 to 2 92;away j from 0 156 to 2 156;"
            + "away k from 2 120 to 2 120;away f from 1 99 to 1 99;away d from 2 86 to 2 86;away i from 1 75 to 1 75;"
            + "away j from 0 72 to 2 72;away c from 1 86 to 1 86;away k from 0 75 to 0 75;",
        "law names;person a born 134 name 187;person b born 248;person c born 191;person d born 194 name 247;"
            + "person e born 205;person f born 271;person g born 202;person h born 172;person i born 198 name 216;calls b on a c e;"
            + "calls c on b e;calls d on e f;calls e on b c h;calls f on e g h;calls g on a b d h;calls h on b c d e;calls i on d;"
            + "secret zz with a from 0 0;away i from 0 187 to 0 187;away d from 2 202 to 2 202;away c from 0 205 to 0 205;"
            + "away c from 0 198 to 0 198;away g from 0 172 to 0 172;away e from 2 194 to 2 194;away e from 1 194 to 2 194;"
            + "away h from 0 191 to 1 191;away i from 2 271 to 2 271;away d from 2 205 to 2 205;away g from 2 202 to 2 202;"
            + "away b from 2 194 to 2 194;",
        "law names;person a born 106 name 107;person b born 155;person c born 165 name 171;person d born 117 name 161;"
            + "person e born 125;person f born 189 name 242;person g born 192 name 206;person h born 182;person i born 183;"
            + "person j born 163 name 167;calls b on a d;calls c on g;calls d on a b c e f g;calls e on b g h;calls f on a c h;"
            + "calls g on a e f i;calls h on a b d g;calls i on e g;calls j on c;secret zz with a from 0 0;"
            + "away f from 0 183 to 0 183;away h from 1 117 to 1 117;away h from 1 242 to 1 242;away h from 0 155 to 0 155;"
            + "away e from 0 107 to 2 107;away g from 2 183 to 2 183;away e from 1 155 to 1 155;away h from 2 155 to 2 155;"
            + "away f from 0 183 to 0 183;away g from 2 106 to 3 106;away g from 0 189 to 0 189;away c from 2 117 to 2 117;"
    };

    private static PlainTown fromText(String text) {
        PlainTown m = new PlainTown();
        for (String sentence : text.split(";")) {
            String[] words = sentence.split(" ");
            int who = words.length > 1 ? words[1].charAt(0) - 'a' : 0;
            if (words[0].equals("law")) {
                m.law = true;
            } else if (words[0].equals("person")) {
                m.born[m.n] = Integer.parseInt(words[3]);
                m.name[m.n] = words.length > 5 ? Integer.parseInt(words[5]) : -1;
                m.n++;
            } else if (words[0].equals("calls")) {
                for (int i = 3; i < words.length; i++) {
                    m.calls[who][words[i].charAt(0) - 'a'] = true;
                }
            } else if (words[0].equals("away")) {
                m.aways.add(new int[] {who, Integer.parseInt(words[3]) * 366 + Integer.parseInt(words[4]),
                    Integer.parseInt(words[6]) * 366 + Integer.parseInt(words[7])});
            } else {
                m.secrets.add(new int[] {0, Integer.parseInt(words[6])});
            }
        }
        return m;
    }

    private static void askKnots(SecretDays x) {
        for (String text : KNOTS) {
            PlainTown m = fromText(text);
            Due.feedText(x, text);
            due(text, "town", x.town(), 0);
            for (int by = 0; by < 1200; by += 20) {
                due(text, "cut 0 " + (m.n - 1) + " " + by, x.cut(0, m.n - 1, by), m.cutByFlow(0, m.n - 1, by));
            }
            for (int by = 2000; by <= 4391; by += 797) {
                due(text, "cut 0 " + (m.n - 1) + " " + by, x.cut(0, m.n - 1, by), m.cutByFlow(0, m.n - 1, by));
            }
        }
    }

    private static void askReports(SecretDays x, PlainTown m, String town, Random dice, boolean heavy) {
        int count = dice.nextInt(5);
        for (int i = 0; i < count; i++) {
            int s = dice.nextInt(m.secrets.size());
            int p = dice.nextInt(m.n);
            int from = m.secrets.get(s)[1];
            int date = Math.max(0, Math.min(4391, from + dice.nextInt(1200) - 20));
            boolean knew = dice.nextBoolean();
            m.reports.add(new int[] {p, s, date, knew ? 1 : 0});
            due(town, "report", x.report(p, s, date, knew), m.reports.size());
            town += "\n  report " + p + " " + s + " " + date + " " + knew;
        }
        due(town, "holds", x.holds(), m.holds() ? 1 : 0);
        for (int s = 0; s < m.secrets.size(); s++) {
            due(town, "began " + s, x.began(s), m.began(s));
        }
        if (!heavy) {
            return;
        }
        int bits = 0;
        for (int p = 0; p < m.n; p++) {
            int day = m.instead(p);
            bits |= day != -1 ? 1 << p : 0;
            due(town, "instead " + p, x.instead(p), day);
        }
        due(town, "wrong", x.wrong(), bits);
        int callsOn = dice.nextInt(1 << m.n);
        int calledBy = dice.nextInt(1 << m.n);
        int s = dice.nextInt(m.secrets.size());
        int p = dice.nextInt(m.n);
        int[] want = m.n == 12 ? new int[] {-1, -1} : m.newcomer(callsOn, calledBy, s, p);
        String call = "newcomer " + callsOn + " " + calledBy + " " + s + " " + p + " ";
        due(town, call + 0, x.newcomer(callsOn, calledBy, s, p, 0), want[0]);
        due(town, call + 1, x.newcomer(callsOn, calledBy, s, p, 1), want[1]);
    }

    public static void main(String[] args) {
        int towns = 300;
        SecretDays x = new SecretDays();
        for (int seed = 0; seed < towns; seed++) {
            Random dice = new Random(seed);
            Drawn drawn = new Drawn(dice, seed % 5 == 0 ? 12 : 6);
            PlainTown m = drawn.plain;
            String town = drawn.text;
            x = seed % 3 == 0 ? new SecretDays() : x;
            Due.feedText(x, town);
            due(town, "town", x.town(), 0);
            askDays(x, m, town, dice);
            askSpread(x, m, town, dice);
            m.law = !m.law;
            x.law(m.law);
            askSpread(x, m, town + " (law " + m.law + ")", dice);
            askDoors(x, m, town + " (law " + m.law + ")", dice);
            askReports(x, m, town + " (law " + m.law + ")", dice, seed % 3 == 1);
        }
        askWebs(x);
        askKnots(x);
        System.out.println(wrong == 0 ? asked + " answers are as due" : wrong + " answers are not as due");
        if (wrong != 0) {
            System.exit(1);
        }
    }
}
