import java.util.ArrayList;
import java.util.HashMap;
import java.util.HashSet;
import java.util.List;
import java.util.Map;
import java.util.Random;
import java.util.Set;

/**
 * Texts that are spoilt at random, and the FAULT that a second reader finds in each. The second
 * reader is written the other way round: for each token it lists all kinds of FAULT that apply
 * there, from what stands to its left, and takes the least.
 */
public final class SecretDaysFaults {
    private static int wrong = 0;
    private static int asked = 0;

    private record Token(char kind, int place, String text) { }

    private static List<Token> tokens(String text) {
        List<Token> list = new ArrayList<>();
        int at = 0;
        while (at < text.length()) {
            char sign = text.charAt(at);
            int from = at;
            if (sign == ' ' || sign == '\n') {
                at++;
                continue;
            }
            while (at < text.length() && Character.toString(text.charAt(at)).matches(
                    Character.toString(sign).matches("[a-z]") ? "[a-z]" : Character.toString(sign).matches("[0-9]") ? "[0-9]" : "$.")) {
                at++;
            }
            at = Math.max(at, from + 1);
            String token = text.substring(from, at);
            char kind = token.matches("[a-z]{1,8}") ? 'w' : token.matches("[0-9]{1,4}") ? 'n' : token.equals(";") ? ';' : '?';
            list.add(new Token(kind, from, token));
        }
        list.add(new Token('e', text.length(), ""));
        return list;
    }

    private static final Set<String> WORDS = Set.of("leap", "person", "born", "name", "ill", "calls", "on", "away", "from",
        "to", "secret", "with", "law", "names");

    /** The second reader. */
    private static final class Second {
        final List<String> persons = new ArrayList<>();
        final Set<String> secrets = new HashSet<>();
        final Map<String, Set<String>> callers = new HashMap<>();
        final Set<String> once = new HashSet<>();
        int aways = 0;
        final List<String> sentence = new ArrayList<>();

        /** The least kind of FAULT of a token, or 0; then the token is taken. */
        int take(Token token) {
            String text = token.text();
            String head = sentence.isEmpty() ? "" : sentence.get(0);
            int at = sentence.size();
            boolean[] kinds = new boolean[6];
            if (head.isEmpty()) {
                kinds[1] = token.kind() != 'w' || !Set.of("leap", "person", "calls", "away", "secret", "law").contains(text);
                kinds[3] = once.contains(text);
                kinds[5] = text.equals("person") && persons.size() == 12 || text.equals("away") && aways == 12
                    || text.equals("secret") && secrets.size() == 4;
                if (token.kind() == 'e') {
                    return 0;
                }
            } else {
                String want = wanted(head, at, token);
                kinds[1] = want.equals("N") ? token.kind() != 'n' : want.equals("P") || want.equals("X") || want.equals("H")
                    ? token.kind() != 'w' || WORDS.contains(text) : !want.equals(text);
                kinds[2] = (want.equals("P") || want.equals("H")) && !persons.contains(text);
                kinds[3] = want.equals("X") && (persons.contains(text) || secrets.contains(text))
                    || want.equals("H") && (text.equals(sentence.get(1)) || callers.containsKey(text) && callers.get(text).contains(sentence.get(1)))
                    || head.equals("person") && at > 3 && at % 2 == 0 && (text.equals("name") || text.equals("ill")) && sentence.contains(text);
                kinds[4] = want.equals("N") && token.kind() == 'n' && badNumber(head, at, Integer.parseInt(text));
                kinds[5] = want.equals("H") && callers.containsKey(text) && callers.get(text).size() >= 6;
            }
            for (int kind = 1; kind < 6; kind++) {
                if (kinds[kind]) {
                    return kind;
                }
            }
            accept(head, at, text);
            return 0;
        }

        /** N: a number, P: a person told, X: a new name, H: whom one calls on; else the word itself. */
        private String wanted(String head, int at, Token token) {
            switch (head) {
                case "leap":
                    return new String[] {"", "N", ";"}[at];
                case "law":
                    return new String[] {"", "names", ";"}[at];
                case "away":
                    return new String[] {"", "P", "from", "N", "N", "to", "N", "N", ";"}[at];
                case "secret":
                    return new String[] {"", "X", "with", "P", "from", "N", "N", ";"}[at];
                case "calls":
                    return at == 1 ? "P" : at == 2 ? "on" : at > 3 && token.text().equals(";") ? ";" : "H";
                default:
                    boolean extra = token.text().equals("name") || token.text().equals("ill");
                    return at < 4 ? new String[] {"", "X", "born", "N"}[at] : at % 2 == 1 ? "N" : extra ? token.text() : ";";
            }
        }

        private boolean badNumber(String head, int at, int number) {
            if (head.equals("leap")) {
                return number > 3;
            }
            if (head.equals("person")) {
                return number > (sentence.get(at - 1).equals("ill") ? 99 : 365);
            }
            boolean year = head.equals("away") ? at == 3 || at == 6 : at == 5;
            boolean ahead = head.equals("away") && at == 7
                && Integer.parseInt(sentence.get(6)) * 366 + number < Integer.parseInt(sentence.get(3)) * 366 + Integer.parseInt(sentence.get(4));
            return number > (year ? 11 : 365) || ahead;
        }

        private void accept(String head, int at, String text) {
            sentence.add(text);
            if (head.isEmpty() && (text.equals("leap") || text.equals("law"))) {
                once.add(text);
            }
            if (head.isEmpty() && text.equals("away")) {
                aways++;
            }
            if (head.equals("person") && at == 1) {
                persons.add(text);
            }
            if (head.equals("secret") && at == 1) {
                secrets.add(text);
            }
            if (head.equals("calls") && at > 2 && !text.equals(";")) {
                callers.computeIfAbsent(text, k -> new HashSet<>()).add(sentence.get(1));
            }
            if (text.equals(";")) {
                sentence.clear();
            }
        }

        int read(String text) {
            for (Token token : tokens(text)) {
                int kind = take(token);
                if (kind != 0) {
                    return kind + 16 * token.place();
                }
            }
            return 0;
        }
    }

    private static final String[] PIECES = {"leap", "person", "born", "name", "ill", "calls", "on", "away", "from", "to",
        "secret", "with", "law", "names", ";", "0", "3", "4", "11", "12", "99", "100", "365", "366", "0365", "9999", "00001", "12345",
        "a", "b", "c", "d", "zz", "abcdefgh", "abcdefghi", "+", "A", "-1", ":", "person a born 1;", "leap 2;", "law names;",
        "away a from 0 0 to 11 365;", "secret s with a from 11 365;", "calls a on b;", "calls b on a", "{", "`", "/", "\n"};

    private static String drawText(Random dice) {
        StringBuilder text = new StringBuilder();
        int sentences = 1 + dice.nextInt(20);
        int persons = 0;
        for (int i = 0; i < sentences; i++) {
            String some = "" + (char) ('a' + dice.nextInt(persons + 1));
            String other = "" + (char) ('a' + dice.nextInt(persons + 1));
            switch (dice.nextInt(12)) {
                case 0:
                    text.append("leap ").append(dice.nextInt(5)).append(" ;");
                    break;
                case 1:
                    text.append("law names;");
                    break;
                case 2:
                case 3:
                    text.append("away ").append(some).append(" from ").append(dice.nextInt(3)).append(' ').append(dice.nextInt(366)).append("to")
                        .append(dice.nextInt(12)).append(' ').append(dice.nextInt(366)).append("\n;");
                    break;
                case 4:
                    text.append("secret s").append((char) ('a' + dice.nextInt(9))).append(" with ").append(some).append(" from 3 59;");
                    break;
                case 5:
                case 6:
                    text.append("calls ").append(some).append(" on ").append(other).append(dice.nextBoolean() ? " b ;" : ";");
                    break;
                default:
                    text.append("person ").append((char) ('a' + persons)).append(" born ").append(dice.nextInt(366));
                    text.append(new String[] {"", " ill 5", "name 6", " ill 7 name 8", "name 365 ill 99"}[dice.nextInt(5)]).append(";");
                    persons++;
            }
        }
        return text.toString();
    }

    private static String spoil(String text, Random dice) {
        List<Token> tokens = tokens(text);
        StringBuilder out = new StringBuilder();
        int at = dice.nextInt(tokens.size());
        int how = dice.nextInt(4);
        for (int i = 0; i < tokens.size(); i++) {
            String piece = PIECES[dice.nextInt(PIECES.length)];
            if (i == at && how == 0) {
                continue;
            }
            out.append(i == at && how == 1 ? piece : tokens.get(i).text()).append(dice.nextInt(3) == 0 ? "\n" : " ");
            if (i == at && how == 2) {
                out.append(piece).append(' ');
            }
        }
        return how == 3 ? text.substring(0, dice.nextInt(text.length() + 1)) : out.toString();
    }

    public static void main(String[] args) {
        int[] seen = new int[6];
        SecretDays x = new SecretDays();
        for (int seed = 0; seed < 60000; seed++) {
            Random dice = new Random(seed);
            String text = drawText(dice);
            text = seed % 4 == 0 ? text : spoil(text, dice);
            text = seed % 9 == 0 ? "person a born 0;person b born 1;person c born 2;person d born 3;person e born 4;person f born 5;"
                + "person g born 6;person h born 7;" + text.replace("person ", "calls ").replace("born", "on a")
                : seed % 9 == 1 ? "person a born 0;person b born 1;secret v with a from 0 0;secret w with a from 0 0;secret x with b from 0 0;" + text.replace("person ", "secret q") : text;
            text = text.length() > 1000 ? text.substring(0, 1000) : text;
            x = seed % 100 == 0 ? new SecretDays() : x;
            int got = Due.read(x, text);
            int want = new Second().read(text);
            seen[want % 16]++;
            asked++;
            if (got != want) {
                wrong++;
                if (wrong < 20) {
                    System.out.println("[" + text + "]\n  answered " + got % 16 + " at " + got / 16 + ", due is " + want % 16 + " at " + want / 16);
                }
            }
        }
        for (int kind = 0; kind < 6; kind++) {
            if (seen[kind] < 100) {
                wrong++;
                System.out.println("texts with kind " + kind + " were only " + seen[kind]);
            }
        }
        System.out.println(wrong == 0 ? asked + " answers are as due" : wrong + " answers are not as due");
        if (wrong != 0) {
            System.exit(1);
        }
    }
}
