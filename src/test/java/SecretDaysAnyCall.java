import java.util.Random;

/** Any arguments in any state: no call throws, and every call ends; a used object answers as a new one. */
public final class SecretDaysAnyCall {
    private static final int[] EDGES = {0, 0, 0, 1, 1, 1, 2, 3, 4, 5, 7, 11, 12, 13, 15, 16, 20, 21, 31, 32, 58, 59, 60, 63, 64, 99, 100,
        365, 366, 425, 732, 4095, 4096, 4391, 4392, 9999, 10000, -1, -2, Integer.MAX_VALUE, Integer.MIN_VALUE};
    private static final String[] PIECES = {"person ", "born ", "a ", "b ", "c ", "calls ", "on ", "away ", "from ", "to ", "secret ",
        "s ", "t ", "with ", "law ", "names ", "leap ", "name ", "ill ", ";", ";", ";", "0 ", "1 ", "59 ", "365 ", "12345 ", "\n", "~", "A"};
    private static final String[] SENTENCES = {"person a born 59 name 0;", "person b born 5 ill 40;", "person c born 5 name 365;",
        "person d born 365;", "calls b on a;", "calls c on b a;", "calls a on c;", "calls d on c;", "secret s with a from 0 59;",
        "secret t with b from 11 365;", "secret u with c from 0 0;", "away a from 0 0 to 11 365;", "away c from 0 5 to 1 5;", "law names;", "leap 3;"};

    private static long calls = 0;

    private static int arg(Random dice) {
        return dice.nextInt(20) == 0 ? dice.nextInt() : EDGES[dice.nextInt(dice.nextInt(3) == 0 ? EDGES.length : 10)];
    }

    private static void feedSome(SecretDays x, Random dice) {
        StringBuilder text = new StringBuilder();
        if (dice.nextInt(3) == 0) {
            for (int i = dice.nextInt(40); i > 0; i--) {
                text.append(PIECES[dice.nextInt(PIECES.length)]);
            }
        } else {
            for (String sentence : SENTENCES) {
                text.append(dice.nextInt(6) == 0 ? "" : sentence);
            }
        }
        for (int i = 0; i < text.length(); i += 8) {
            long part = 0;
            for (int j = i; j < i + 8; j++) {
                part = part << 8 | (j < text.length() ? text.charAt(j) : 0);
            }
            x.feed(part, 0, 0);
        }
    }

    private static long call(SecretDays x, Random dice) {
        calls++;
        int a = arg(dice);
        int b = arg(dice);
        int c = arg(dice);
        int d = arg(dice);
        int e = arg(dice);
        boolean yes = dice.nextBoolean();
        switch (dice.nextInt(29)) {
            case 0: return x.feed(dice.nextLong(), dice.nextLong(), dice.nextLong());
            case 1: return dice.nextInt(8) == 0 ? x.town() : -5;
            case 2: return x.law(yes) ? 1 : 0;
            case 3: return x.person(a, b);
            case 4: return x.date(a, b);
            case 5: return x.free(a, b);
            case 6: return x.away(a, b);
            case 7: return x.soonest(a, b);
            case 8: return x.by(a, b);
            case 9: return x.hands(a, b);
            case 10: return x.ways(a, b);
            case 11: return x.cant(a, b);
            case 12: return x.all(a);
            case 13: return x.knows(a, b);
            case 14: return x.letIn(a, b, c, d, e);
            case 15: return x.cut(a, b, c);
            case 16: return x.meet(a, b, c);
            case 17: return x.newcomer(a, b, c, d, e);
            case 18: return x.report(a, b, c, yes);
            case 19: return dice.nextInt(8) == 0 ? (x.clear() ? 1 : 0) : -5;
            case 20: return x.holds();
            case 21: return x.began(a);
            case 22: return x.wrong();
            case 23: return x.instead(a);
            case 24: return x.runs(arg(dice), a, b, c, d, e);
            case 25: return x.mark(a, yes) ? 1 : 0;
            case 26: return x.count(a);
            default:
                if (dice.nextInt(10) == 0) {
                    feedSome(x, dice);
                    return x.town();
                }
                return -5;
        }
    }

    public static void main(String[] args) {
        int wrong = 0;
        SecretDays used = new SecretDays();
        for (int seed = 0; seed < 400; seed++) {
            SecretDays fresh = new SecretDays();
            // An empty town takes all that was before, but it can't take back what the TAPE held.
            used.town();
            used.town();
            Random one = new Random(seed);
            Random two = new Random(seed);
            for (int i = 0; i < 500; i++) {
                long got = call(used, one);
                long want = call(fresh, two);
                if (got != want) {
                    wrong++;
                    System.out.println("seed " + seed + ", call " + i + ": a used object answers " + got + ", a new one " + want);
                }
            }
        }
        System.out.println(wrong == 0 ? calls + " calls ended" : wrong + " answers are not as due");
        if (wrong != 0) {
            System.exit(1);
        }
    }
}
