import java.util.Random;

/** A town drawn at random: its text, which fits on the TAPE, and the same as a plain town. */
final class Drawn {
    private static final int YEAR = 366;
    private static final int LAST = 4391;

    PlainTown plain;
    String text;
    private final Random dice;
    /** Few DAYS, so that they fall together, with the edges of the year among them. */
    private final int[] some;

    Drawn(Random dice, int most) {
        this.dice = dice;
        some = new int[] {0, 58, 59, 60, 365, dice.nextInt(YEAR), dice.nextInt(YEAR), dice.nextInt(YEAR), dice.nextInt(YEAR)};
        do {
            plain = new PlainTown();
            text = leap() + persons(1 + dice.nextInt(most)) + calls() + aways() + secrets() + law();
        } while (text.length() > 1000);
    }

    static String word(int number) {
        return "" + (char) ('p' + number / 10) + (char) ('a' + number % 10);
    }

    private int day() {
        return dice.nextInt(4) == 0 ? dice.nextInt(YEAR) : some[dice.nextInt(some.length)];
    }

    private static String date(int number) {
        return number / YEAR + " " + number % YEAR;
    }

    private String leap() {
        if (dice.nextBoolean()) {
            return "";
        }
        plain.leap = dice.nextInt(4);
        return "leap " + plain.leap + ";";
    }

    private String law() {
        plain.law = dice.nextBoolean();
        return plain.law ? "law names;" : "";
    }

    private String persons(int number) {
        StringBuilder told = new StringBuilder();
        plain.n = number;
        for (int p = 0; p < number; p++) {
            plain.born[p] = day();
            plain.name[p] = -1;
            told.append("person ").append(word(p)).append(" born ").append(plain.born[p]);
            if (dice.nextInt(3) == 0) {
                plain.ill[p] = dice.nextInt(100);
                told.append("ill ").append(plain.ill[p]);
            }
            if (dice.nextBoolean()) {
                plain.name[p] = day();
                told.append(" name ").append(plain.name[p]);
            }
            told.append(";\n");
        }
        return told.toString();
    }

    private String calls() {
        StringBuilder told = new StringBuilder();
        int dense = 2 + dice.nextInt(4);
        int[] callers = new int[plain.n];
        for (int p = 0; p < plain.n; p++) {
            StringBuilder on = new StringBuilder();
            for (int q = 0; q < plain.n; q++) {
                if (p != q && callers[q] < 6 && dice.nextInt(dense) == 0) {
                    plain.calls[p][q] = true;
                    callers[q]++;
                    on.append(' ').append(word(q));
                }
            }
            told.append(on.length() == 0 ? "" : "calls " + word(p) + " on" + on + ";");
        }
        return told.toString();
    }

    private String aways() {
        StringBuilder told = new StringBuilder();
        int number = dice.nextInt(3) == 0 ? 0 : dice.nextInt(6);
        for (int i = 0; i < number; i++) {
            int p = dice.nextInt(plain.n);
            int from = dice.nextInt(5) * YEAR + day();
            int to = dice.nextBoolean() ? from + dice.nextInt(3) : from / YEAR * YEAR + dice.nextInt(1500);
            to = Math.max(from, Math.min(LAST, to));
            plain.aways.add(new int[] {p, from, to});
            told.append("away ").append(word(p)).append(" from ").append(date(from)).append(" to ").append(date(to)).append(';');
        }
        return told.toString();
    }

    private String secrets() {
        StringBuilder told = new StringBuilder();
        int number = 1 + dice.nextInt(4);
        for (int s = 0; s < number; s++) {
            int p = dice.nextInt(plain.n);
            int from = (dice.nextInt(6) == 0 ? dice.nextInt(12) : dice.nextInt(2)) * YEAR + day();
            plain.secrets.add(new int[] {p, from});
            told.append("secret z").append((char) ('a' + s)).append(" with ").append(word(p)).append(" from ").append(date(from)).append(';');
        }
        return told.toString();
    }
}
