import java.nio.charset.StandardCharsets;
import java.util.ArrayList;
import java.util.Arrays;
import java.util.List;
import java.util.Random;

/** Runs of calls by chance, on the program and on the model, which must answer alike. */
public final class ModelTest {
    private static final String LETTERS = "tnsbflmexuqoypkj";

    private static final String SIGNS = "gahoc" + LETTERS + "0123456789+-*/%<>=&|!()[]; z\u0000\u00e9";

    private final Random random;
    private final ThreeToSend x = new ThreeToSend();
    private final Model model = new Model();
    private final Due due;
    private final String name;
    private final List<Integer> codes = new ArrayList<>();
    private int calls;

    private ModelTest(long seed, Due due) {
        random = new Random(seed);
        this.due = due;
        name = "seed " + seed;
        for (int code = 0; code < 4000; code++) {
            if (model.may(0, code, 0) >= 0) {
                codes.add(code);
            }
        }
    }

    public static void main(String[] args) {
        Due due = new Due();
        int runs = args.length > 0 ? Integer.parseInt(args[0]) : 150;
        int from = args.length > 1 ? Integer.parseInt(args[1]) : 0;
        for (int seed = from; seed < from + runs && due.isAllRight(); seed++) {
            new ModelTest(seed, due).run();
        }
        due.close("ModelTest");
    }

    // ---- texts by chance

    private String pick(String... all) {
        return all[random.nextInt(all.length)];
    }

    private String factor(int depth) {
        int kind = random.nextInt(10);
        if (kind == 0 && depth > 0) {
            return "[" + sum(depth - 1) + "]";
        }
        if (kind < 4) {
            return "" + random.nextInt(random.nextInt(8) == 0 ? 100000 : random.nextInt(3) == 0 ? 60 : 6);
        }
        return "" + LETTERS.charAt(random.nextInt(LETTERS.length()));
    }

    private String term(int depth) {
        StringBuilder text = new StringBuilder(factor(depth));
        while (random.nextInt(4) == 0) {
            text.append(pick("*", "*", "/", "%")).append(factor(depth));
        }
        return text.toString();
    }

    private String sum(int depth) {
        StringBuilder text = new StringBuilder(term(depth));
        while (random.nextInt(3) == 0) {
            text.append(pick("+", "-")).append(term(depth));
        }
        return text.toString();
    }

    private String piece(int depth) {
        int kind = random.nextInt(8);
        if (kind == 0 && depth > 0) {
            return "!" + piece(depth - 1);
        }
        if (kind == 1 && depth > 0) {
            return "(" + condition(depth - 1) + ")";
        }
        return sum(depth) + pick("<", ">", "=") + sum(depth);
    }

    private String condition(int depth) {
        StringBuilder text = new StringBuilder(piece(depth));
        while (random.nextInt(4) == 0) {
            text.append(pick("&", "|")).append(piece(depth));
        }
        return text.toString();
    }

    private String text(String heads) {
        StringBuilder text = new StringBuilder();
        int clauses = random.nextInt(20) == 0 ? 13 + random.nextInt(3) : 1 + random.nextInt(4);
        for (int i = 0; i < clauses; i++) {
            String head = "" + heads.charAt(random.nextInt(heads.length()));
            int depth = random.nextInt(5);
            String number = head.equals("c")
                    ? pick("" + random.nextInt(7), pick("23", "29", "37", "39", "43", "45"), sum(depth))
                    : pick("" + random.nextInt(50), "10+b-o", "5*f/2+q", "3+j*k", sum(depth), sum(depth));
            String test = pick("1=1", "s<1", "t>0", "e=0", "y=0", condition(depth), condition(depth));
            String clause = head + number + "(" + (clauses > 10 ? "1=1" : test) + ")";
            if (text.length() + clause.length() < 200) {
                text.append(i == 0 ? "" : ";").append(clause);
            }
        }
        return random.nextInt(4) == 0 ? spoilt(text.toString()) : text.toString();
    }

    private String spoilt(String text) {
        StringBuilder spoilt = new StringBuilder(text);
        int place = random.nextInt(Math.max(1, text.length()));
        switch (random.nextInt(5)) {
            case 0: spoilt.setLength(Math.max(1, place)); break;
            case 1:
                spoilt.insert(place, pick("(((((((", "[[[[[[[", "!!!!!!!", "123456", "((", "[[", "!!", "!(!["));
                break;
            case 2: spoilt.deleteCharAt(place); break;
            default: spoilt.setCharAt(place, SIGNS.charAt(random.nextInt(SIGNS.length()))); break;
        }
        return spoilt.length() > 220 ? spoilt.substring(0, 220) : spoilt.toString();
    }

    private int feedText(String text) {
        byte[] bytes = text.getBytes(StandardCharsets.ISO_8859_1);
        for (int i = 0; i < bytes.length; i += 20) {
            byte[] part = Arrays.copyOfRange(bytes, i, i + 20);
            int[] words = new int[5];
            for (int j = 0; j < 20; j++) {
                words[j / 4] = words[j / 4] << 8 | part[j] & 255;
            }
            feed(words);
        }
        return bytes.length;
    }

    private void feed(int[] w) {
        is("feed" + Arrays.toString(w), x.feed(w[0], w[1], w[2], w[3], w[4]), model.feed(w));
    }

    // ---- calls by chance

    private void is(String call, long got, long want) {
        calls++;
        due.is(name + ", call " + calls + ": " + call, got, want);
    }

    private void is(String call, boolean got, boolean want) {
        is(call, got ? 1 : 0, want ? 1 : 0);
    }

    /** From low to high, now and then a bit beside it. */
    private int about(int low, int high) {
        if (random.nextInt(60) == 0) {
            int far = random.nextInt(3) == 0 ? random.nextInt() : random.nextBoolean() ? Integer.MIN_VALUE
                    : Integer.MAX_VALUE;
            return random.nextInt(3) == 0 ? far : random.nextBoolean() ? low - 1 : high + 1;
        }
        return low + random.nextInt(high - low + 1);
    }

    private int code() {
        int kind = random.nextInt(20);
        if (kind == 0) {
            return about(-5, 4200);
        }
        return kind < 8 ? 3000 : codes.get(random.nextInt(codes.size()));
    }

    private int action() {
        int[] some = {0, 1, 2, 3, 4, 5, 6, 23, 29, 37, 39, 43, 45};
        return random.nextInt(4) == 0 ? about(0, 48) : some[random.nextInt(some.length)];
    }

    private void run() {
        set();
        while (calls < 500) {
            if (random.nextInt(3) == 0) {
                set();
            } else {
                ask();
            }
        }
        while (calls < 512) {
            int what = calls % 40;
            is("count " + what, x.count(what), model.count(what));
        }
    }

    private void set() {
        switch (random.nextInt(16)) {
            case 0: {
                int n = random.nextInt(3) > 0 ? about(1, 3) : about(1, 5);
                int changes = about(0, 3);
                int once = about(1, 2);
                is("match " + n + " " + changes + " " + once, x.match(n, changes, once), model.match(n, changes, once));
                break;
            }
            case 1: case 2: case 3: case 4: {
                int i = about(0, 4);
                int[] p = {about(0, 9), about(0, 9), about(0, 2), about(0, 2)};
                is("player " + i + Arrays.toString(p), x.player(i, p[0], p[1], p[2], p[3]),
                        model.player(i, p[0], p[1], p[2], p[3]));
                break;
            }
            case 5: {
                int one = about(0, 4);
                int two = about(0, 4);
                int much = about(0, 9);
                is("pair " + one + " " + two + " " + much, x.pair(one, two, much), model.pair(one, two, much));
                break;
            }
            case 6: {
                int[] w = {about(0, 1000), about(0, 1000), about(0, 1000)};
                int part = random.nextBoolean() ? 1 : 100;
                is("worth " + part + Arrays.toString(w), x.worth(w[0] / part, w[1] / part, w[2] / part),
                        model.worth(w[0] / part, w[1] / part, w[2] / part));
                break;
            }
            case 7: case 8: case 9: {
                String text = text("gah");
                int n = feedText(text) + (random.nextInt(20) == 0 ? about(-2, 30) : 0);
                is("law " + n + " " + text, x.law(n), model.law(n));
                break;
            }
            case 10: case 11: {
                int k = about(0, 2);
                String text = text("o");
                int n = feedText(text) + (random.nextInt(20) == 0 ? about(-2, 30) : 0);
                is("other " + k + " " + n + " " + text, x.other(k, n), model.other(k, n));
                break;
            }
            case 12: case 13: {
                int k = about(0, 3);
                String text = text("c");
                int n = feedText(text) + (random.nextInt(20) == 0 ? about(-2, 30) : 0);
                is("rule " + k + " " + n + " " + text, x.rule(k, n), model.rule(k, n));
                break;
            }
            case 14: {
                int i = about(0, 4);
                int much = about(0, 3);
                is("fresh " + i + " " + much, x.fresh(i, much), model.fresh(i, much));
                break;
            }
            default: {
                int seed = about(0, 65535);
                is("seed " + seed, x.seed(seed), model.seed(seed));
                break;
            }
        }
    }

    private void ask() {
        // Now and then behind the last one, too.
        int period = random.nextInt(12) == 0 ? model.count(0) : about(0, 4) % Math.max(1, model.count(0));
        int score = about(-2, 2);
        int code = code();
        int other = about(0, 2);
        int action = action();
        int k = about(0, 3);
        String state = " " + period + " " + score + " " + code + " against " + other;
        switch (random.nextInt(24)) {
            case 0: case 1:
                is("may " + action + state, x.may(period, code, action), model.may(period, code, action));
                break;
            case 2:
                is("after " + action + state, x.after(period, code, action), model.after(period, code, action));
                break;
            case 3: case 4: case 5: {
                int what = about(0, 4);
                is("chance " + what + " of " + action + state, x.chance(period, score, code, action, other, what),
                        model.chance(period, score, code, action, other, what));
                break;
            }
            case 6: case 7: {
                int what = about(0, 1);
                is("best " + what + state, x.best(period, score, code, other, what),
                        model.best(period, score, code, other, what));
                break;
            }
            case 8: case 9: {
                int what = about(0, 3);
                is("by " + k + " " + what + state, x.by(k, period, score, code, other, what),
                        model.by(k, period, score, code, other, what));
                break;
            }
            case 10: case 11:
                is("says " + k + state, x.says(k, period, score, code, other),
                        model.says(k, period, score, code, other));
                break;
            case 12:
                is("edge " + score + " " + other, x.edge(score, other), model.edge(score, other));
                break;
            case 13:
                is("kept " + other, x.kept(other), model.kept(other));
                is("together " + other, x.together(other), model.together(other));
                is("slower " + other, x.slower(other), model.slower(other));
                break;
            case 14: {
                int what = about(0, 3);
                is("game " + what, x.game(what), model.game(what));
                break;
            }
            case 15: case 16: {
                int j = about(0, 3);
                int two = about(0, 2);
                int what = about(0, 2);
                is("mixed " + k + " " + j + " " + other + " " + two + " " + what, x.mixed(k, j, other, two, what),
                        model.mixed(k, j, other, two, what));
                break;
            }
            case 17: case 18: {
                int what = about(0, 4);
                is("happens " + action + " " + what, x.happens(action, what), model.happens(action, what));
                break;
            }
            default:
                askOfLog(period, other, k);
                break;
        }
    }

    private void askOfLog(int period, int other, int k) {
        switch (random.nextInt(8)) {
            case 0:
                is("undo", x.undo(), model.undo());
                break;
            case 1: {
                int what = about(0, 3);
                is("logged " + period + " " + what, x.logged(period, what), model.logged(period, what));
                break;
            }
            case 2:
                is("wrong " + period + " " + other, x.wrong(period, other), model.wrong(period, other));
                break;
            case 3: {
                int what = about(0, 1);
                is("worst " + other + " " + what, x.worst(other, what), model.worst(other, what));
                break;
            }
            case 4:
                is("draw " + k + " " + other, x.draw(k, other), model.draw(k, other));
                break;
            case 5: {
                int weeks = about(1, random.nextInt(4) == 0 ? 8 : 3);
                int what = about(-1, 7) % Math.max(1, weeks);
                is("season " + weeks + " " + what, x.season(weeks, what), model.season(weeks, what));
                break;
            }
            case 6:
                checkLog();
                break;
            default: {
                int what = random.nextInt(5) == 0 ? random.nextInt() : random.nextInt(40);
                is("count " + what, x.count(what), model.count(what));
                break;
            }
        }
    }

    private void checkLog() {
        int n = random.nextInt(5) == 0 ? about(-1, 28) : model.count(6);
        if (model.count(5) == 0) {
            List<Integer> numbers = new ArrayList<>();
            for (int i = 1; i <= model.count(6); i++) {
                numbers.add(model.logged(i, 0));
                numbers.add(model.logged(i, 1));
            }
            if (!numbers.isEmpty() && random.nextInt(3) == 0) {
                numbers.set(random.nextInt(numbers.size()), random.nextInt(3));
            }
            while (numbers.size() % 5 != 0) {
                numbers.add(0);
            }
            for (int i = 0; i < numbers.size(); i += 5) {
                feed(numbers.subList(i, i + 5).stream().mapToInt(v -> v).toArray());
            }
        }
        is("check " + n, x.check(n), model.check(n));
    }
}
