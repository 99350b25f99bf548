import java.util.ArrayList;
import java.util.List;
import java.util.Random;

/** Runs of calls, drawn from fixed seeds, whose every answer must be that of NaiveLetters. */
public final class RandomRunsTest {
    private static final int LAST_BUILDING_CALL = 440;
    private final Counted real = new Counted();
    private final NaiveLetters naive = new NaiveLetters();
    private final Random random;
    private final List<String> calls = new ArrayList<>();
    private final int words;
    private final int depths;
    private final int days;
    private final int mostLetters;
    private boolean wrong;

    private RandomRunsTest(long seed) {
        random = new Random(seed);
        words = 1 + random.nextInt(6);
        depths = 1 + random.nextInt(3);
        days = 1 + random.nextInt(60);
        mostLetters = 2 + random.nextInt(seed % 10 == 0 ? 40 : 14);
    }

    public static void main(String[] args) {
        int runs = args.length > 0 ? Integer.parseInt(args[0]) : 300;
        int first = args.length > 1 ? Integer.parseInt(args[1]) : 0;
        int wrongRuns = 0;
        for (int run = first; run < first + runs && wrongRuns < 3; run++) {
            if (!new RandomRunsTest(run).goesWell()) {
                wrongRuns++;
            }
        }
        System.out.println(wrongRuns == 0 ? "RandomRunsTest: " + runs + " runs are as due" : "RandomRunsTest: wrong");
        if (wrongRuns != 0) {
            System.exit(1);
        }
    }

    private boolean goesWell() {
        // an ask makes two calls at most, what is built some seventy
        while (real.calls() < Counted.MOST_CALLS - 1 && !wrong) {
            if (real.calls() < LAST_BUILDING_CALL && random.nextInt(100) < 45) {
                build();
            } else {
                ask();
            }
        }
        if (wrong) {
            calls.forEach(System.out::println);
        }
        return !wrong;
    }

    private void due(String call, int got, int want) {
        calls.add(call + " = " + got);
        if (got != want) {
            calls.add("  but due is " + want);
            wrong = true;
        }
    }

    private int below(int bound) {
        return random.nextInt(Math.max(1, bound));
    }

    /** Now and then a number that is out of every bound. */
    private int near(int bound) {
        if (random.nextInt(25) == 0) {
            int[] odd = {-1, -2, bound, bound + 1, Integer.MAX_VALUE, Integer.MIN_VALUE, 64, 10000};
            return odd[random.nextInt(odd.length)];
        }
        return below(bound);
    }

    private int letterNumber() {
        return near(naive.letterCount());
    }

    private int lineNumber(int x) {
        int lines = naive.about(x, 3);
        return near(Math.max(1, lines));
    }

    private int day() {
        return random.nextInt(3) == 0 ? -1 : near(days);
    }

    private void build() {
        switch (random.nextInt(12)) {
            case 0:
            case 1:
                if (naive.letterCount() < mostLetters || random.nextInt(20) == 0) {
                    tellLetter();
                }
                break;
            case 2:
            case 3:
            case 4:
            case 5:
            case 6:
                tellLine();
                break;
            case 7:
                if (naive.letterCount() < mostLetters) {
                    int x = letterNumber();
                    int writer = near(10);
                    int day = day();
                    due("answer(" + x + ", " + writer + ", " + day + ")", real.answer(x, writer, day),
                        naive.answer(x, writer, day));
                }
                break;
            case 8:
                int t = letterNumber();
                due("take(" + t + ")", real.take(t), naive.take(t));
                break;
            case 9:
                int p = letterNumber();
                due("put(" + p + ")", real.put(p), naive.put(p));
                break;
            case 10:
                int k = random.nextInt(3) != 0 ? -1 : near(naive.letterCount() + 1);
                due("known(" + k + ")", real.known(k), naive.known(k));
                break;
            default:
                tellRules();
                break;
        }
    }

    private void tellLetter() {
        int writer = near(10);
        int day = day();
        int names = random.nextInt(2) == 0 ? -1 : letterNumber();
        due("letter(" + writer + ", " + day + ", " + names + ")", real.letter(writer, day, names),
            naive.letter(writer, day, names));
    }

    private void tellLine() {
        int x = random.nextInt(3) == 0 ? letterNumber() : naive.letterCount() - 1;
        if (random.nextInt(3) > 0 && naive.letterCount() > 0) {
            copyLine(x);
            return;
        }
        int length = random.nextInt(4) == 0 ? below(9) : below(3);
        for (int k = 0; k < length; k++) {
            tellWord(near(words) + 1);
        }
        endLine(x, near(depths + 1));
    }

    private void tellWord(int w) {
        due("word(" + w + ")", real.word(w), naive.word(w));
    }

    private void endLine(int x, int depth) {
        due("line(" + x + ", " + depth + ")", real.line(x, depth), naive.line(x, depth));
    }

    /** A line of another letter, quoted, now and then otherwise than it was written. */
    private void copyLine(int x) {
        int y = below(naive.letterCount());
        int line = below(naive.about(y, 3));
        int length = Math.max(0, naive.told(y, line, 1));
        for (int k = 0; k < length; k++) {
            int odd = random.nextInt(14);
            if (odd == 0) {
                tellWord(1 + below(words));
            }
            if (odd != 1) {
                tellWord(odd == 2 ? 1 + below(words) : naive.told(y, line, 2 + k));
            }
        }
        endLine(x, Math.min(5, Math.max(0, naive.told(y, line, 0)) + (random.nextInt(8) == 0 ? 0 : 1)));
    }

    private void tellRules() {
        if (random.nextInt(2) == 0) {
            return;
        }
        String[] kinds = {"near", "fit", "trust", "keep", "deep"};
        StringBuilder text = new StringBuilder();
        int clauses = random.nextInt(4);
        for (int c = 0; c < clauses; c++) {
            String kind = kinds[random.nextInt(3 + random.nextInt(3))];
            text.append(blanks()).append(kind).append(kind.equals("trust") ? " " : blanks());
            int[] bounds = {3, 101, 2, 15, 6};
            int number = near(bounds[List.of(kinds).indexOf(kind)]);
            text.append(kind.equals("trust") ? random.nextBoolean() ? "yes" : "no" : "" + Math.max(0, number));
            text.append(blanks()).append(";");
        }
        text.append(blanks());
        if (random.nextInt(3) == 0) {
            spoil(text);
        }
        feedAll(text);
        due("read()", real.read(), naive.read());
        due("fault()", real.fault(), naive.fault());
    }

    private String blanks() {
        return " ".repeat(random.nextInt(3) / 2 * (1 + random.nextInt(2)));
    }

    private void spoil(StringBuilder text) {
        String signs = "; 0123456789nearfitustkpdyo\u0001\u00ffAZ`{:";
        int changes = 1 + random.nextInt(2);
        for (int c = 0; c < changes; c++) {
            int at = random.nextInt(text.length() + 1);
            char sign = signs.charAt(random.nextInt(signs.length()));
            int how = random.nextInt(3);
            if (how == 0 || text.length() == 0) {
                text.insert(at, sign);
            } else if (how == 1) {
                text.deleteCharAt(Math.min(at, text.length() - 1));
            } else {
                text.setCharAt(Math.min(at, text.length() - 1), sign);
            }
        }
    }

    private void feedAll(CharSequence text) {
        int at = 0;
        while (at < text.length()) {
            int n = Math.min(1 + random.nextInt(8), text.length() - at);
            long bytes = random.nextInt(4) == 0 ? random.nextLong() : 0;
            for (int k = 0; k < n; k++) {
                bytes = bytes << 8 | text.charAt(at + k);
            }
            at += n;
            due("feed(" + n + ", " + bytes + "L)", real.feed(n, bytes), naive.feed(n, bytes));
        }
    }

    private void ask() {
        int x = letterNumber();
        int line = lineNumber(x);
        switch (random.nextInt(22)) {
            case 0:
            case 1:
            case 2:
                int a = near(12);
                due("about(" + x + ", " + a + ")", real.about(x, a), naive.about(x, a));
                break;
            case 3:
                int t = near(10);
                due("told(" + x + ", " + line + ", " + t + ")", real.told(x, line, t), naive.told(x, line, t));
                break;
            case 4:
                int y = letterNumber();
                int other = lineNumber(y);
                due("differ(" + x + ", " + line + ", " + y + ", " + other + ")", real.differ(x, line, y, other),
                    naive.differ(x, line, y, other));
                break;
            case 5:
                int z = letterNumber();
                due("fit(" + x + ", " + z + ")", real.fit(x, z), naive.fit(x, z));
                break;
            case 6:
            case 7:
                int c = near(11);
                due("count(" + c + ")", real.count(c), naive.count(c));
                break;
            case 8:
            case 9:
                int o = near(3);
                due("origin(" + x + ", " + line + ", " + o + ")", real.origin(x, line, o), naive.origin(x, line, o));
                break;
            case 10:
                due("altered(" + x + ", " + line + ")", real.altered(x, line), naive.altered(x, line));
                break;
            case 11:
                due("echoes(" + x + ", " + line + ")", real.echoes(x, line), naive.echoes(x, line));
                break;
            case 12:
                due("group(" + x + ")", real.group(x), naive.group(x));
                break;
            default:
                askMore(x);
                break;
        }
    }

    private void askMore(int x) {
        switch (random.nextInt(11)) {
            case 0:
            case 1:
                int g = near(3);
                int l = near(3);
                due("lost(" + g + ", " + l + ")", real.lost(g, l), naive.lost(g, l));
                break;
            case 2:
            case 3:
                int h = near(2);
                int i = near(8);
                int k = near(5) - 1;
                due("lostWord(" + h + ", " + i + ", " + k + ")", real.lostWord(h, i, k), naive.lostWord(h, i, k));
                break;
            case 4:
                int p = letterNumber();
                due("order(" + p + ")", real.order(p), naive.order(p));
                break;
            case 5:
                int q = near(3);
                due("quarrel(" + q + ")", real.quarrel(q), naive.quarrel(q));
                break;
            case 6:
                int s = near(2);
                due("span(" + x + ", " + s + ")", real.span(x, s), naive.span(x, s));
                break;
            case 7:
                int w = near(words + 1);
                due("sign(" + w + ")", real.sign(w), naive.sign(w));
                break;
            case 8:
                if (random.nextInt(3) == 0) {
                    due("clear()", real.clear(), naive.clear());
                }
                int writer = random.nextInt(2) == 0 ? -1 : near(10);
                int where = near(3);
                int n = near(6) - 1;
                due("seek(" + writer + ", " + where + ", " + n + ")", real.seek(writer, where, n),
                    naive.seek(writer, where, n));
                break;
            case 9:
                due("still(" + x + ")", real.still(x), naive.still(x));
                break;
            default:
                int r = near(5);
                due("rule(" + r + ")", real.rule(r), naive.rule(r));
                break;
        }
    }
}
