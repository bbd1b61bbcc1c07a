import java.lang.reflect.InvocationTargetException;
import java.lang.reflect.Method;
import java.util.ArrayList;
import java.util.Arrays;
import java.util.Comparator;
import java.util.List;

/**
 * Tests that bear a name each: every method whose name begins with "promise" and the promise's number is a test of
 * its own, on an object of its own.
 */
abstract class Named {
    static final int NONE = -1;
    static final int MIN = Integer.MIN_VALUE;
    static final int MAX = Integer.MAX_VALUE;
    static final long NO_PACE = -1000000000000000000L;

    /** All ACTIONS that there are. */
    static final int[] ACTIONS = {0, 1, 2, 3, 4, 5, 6, 23, 29, 37, 39, 43, 45};

    final ThreeToSend x = new ThreeToSend();
    private final List<String> wrongs = new ArrayList<>();

    static void run(Class<? extends Named> tests) throws ReflectiveOperationException {
        Method[] methods = tests.getDeclaredMethods();
        Arrays.sort(methods, Comparator.comparing(Method::getName));
        int passed = 0;
        int failed = 0;
        for (Method method : methods) {
            if (method.getName().startsWith("promise")) {
                Named test = tests.getDeclaredConstructor().newInstance();
                try {
                    method.invoke(test);
                } catch (InvocationTargetException thrown) {
                    test.wrongs.add("threw " + thrown.getCause());
                }
                boolean isRight = test.wrongs.isEmpty();
                passed += isRight ? 1 : 0;
                failed += isRight ? 0 : 1;
                System.out.println((isRight ? "ok   " : "FAIL ") + method.getName());
                test.wrongs.forEach(wrong -> System.out.println("     " + wrong));
            }
        }
        System.out.println(tests.getSimpleName() + ": " + passed + " passed, " + failed + " failed");
        if (failed > 0 || passed == 0) {
            System.exit(1);
        }
    }

    private void wrong(String what) {
        int line = StackWalker.getInstance().walk(frames -> frames
                .filter(frame -> !frame.getClassName().equals("Named")).findFirst().get().getLineNumber());
        wrongs.add("line " + line + ": " + what);
    }

    void is(long got, long want) {
        if (got != want) {
            wrong("answered " + got + ", due is " + want);
        }
    }

    void is(boolean got, boolean want) {
        if (got != want) {
            wrong("answered " + got + ", due is " + want);
        }
    }

    void is(String what, long got, long want) {
        if (got != want) {
            wrong(what + ": answered " + got + ", due is " + want);
        }
    }

    void is(String what, boolean got, boolean want) {
        if (got != want) {
            wrong(what + ": answered " + got + ", due is " + want);
        }
    }

    void same(String got, String want) {
        if (!got.equals(want)) {
            wrong("is\n       " + got + ", due is\n       " + want);
        }
    }

    /** Five players who differ in all: back, front, legs, loss. */
    static ThreeToSend team(ThreeToSend x) {
        x.player(0, 3, 0, 2, 1);
        x.player(1, 0, 4, 2, 2);
        x.player(2, 5, 6, 2, 1);
        x.player(3, 9, 1, 1, 0);
        x.player(4, 2, 8, 0, 2);
        return x;
    }

    /** Something of all is told: a LOG of two PERIODS, and forty bytes wait on the tape; some 60 calls. */
    static ThreeToSend rich() {
        ThreeToSend x = team(new ThreeToSend());
        x.match(3, 2, 2);
        x.pair(0, 1, 4);
        x.pair(2, 3, 9);
        x.pair(1, 3, 2);
        x.worth(700, 50, 3);
        Due.law(x, "g[b*7+f*5+l*3+m*2+q]%40(1=1);a[o+t+e*9+11]%30(1=1);h4+p+j(1=1)");
        Due.other(x, 0, "o7(t=0)");
        Due.other(x, 1, "o20+s(1=1);o1(1=1)");
        Due.other(x, 2, "o5*t(1=1)");
        Due.rule(x, 0, "c3(t=1);c6(t=2)");
        Due.rule(x, 1, "c29(s<1);c1(1=1);c2(1=1)");
        Due.rule(x, 2, "c0(1=1)");
        Due.rule(x, 3, "c45(t=2)");
        x.seed(777);
        x.fresh(1, 2);
        x.fresh(3, 1);
        x.happens(3, 1);
        x.happens(0, 4);
        Due.feed(x, "g5(1=1)a6(1=1)..........");
        return x;
    }

    /** What rich() left on the tape is there still, and nothing else. */
    void tapeIsAsItWas(ThreeToSend x) {
        is(x.count(5), 40);
        is(x.law(7), 1);
        is(x.chance(0, 0, 3000, 0, 0, 0), 5);
        is(x.chance(0, 0, 3000, 0, 0, 1), 0);
    }

    /** All that can be asked and that changes nothing, by some 120 calls. */
    static String seen(ThreeToSend x) {
        List<Long> all = new ArrayList<>();
        for (int what : new int[] {0, 1, 2, 3, 4, 5, 6, 10, 11, 12, 20, 21, 22, 23, 30, 31, 32, 33, 34}) {
            all.add((long) x.count(what));
        }
        for (int i = 0; i <= 5; i++) {
            for (int what = 0; what < 4; what++) {
                all.add((long) x.logged(i, what));
            }
        }
        int n = x.count(0);
        for (int score = -2; score <= 2; score += 2) {
            all.add(x.best(n, score, 3000, 0, 0));
        }
        for (int action : ACTIONS) {
            all.add((long) x.chance(0, 0, 3000, action, 0, 0));
        }
        for (int what = 0; what < 5; what++) {
            all.add((long) x.chance(n - 1, 0, 3000, 0, 1, what));
        }
        for (int k = 0; k < 4; k++) {
            all.add((long) x.says(k, n - 1, 0, 3000, 2));
            for (int what = 0; what < 4; what++) {
                all.add(x.by(k, 0, 1, 3000, 2, what));
            }
            all.add(x.game(k));
        }
        for (int other = 0; other < 3; other++) {
            all.add(x.best(0, 0, 3000, other, 0));
            all.add(x.best(0, 0, 3000, other, 1));
            all.add((long) x.edge(0, other));
        }
        all.add(x.kept(0));
        all.add(x.together(0));
        all.add(x.slower(0));
        all.add(x.wrong(0, 0));
        all.add(x.worst(0, 0));
        all.add(x.worst(0, 1));
        all.add((long) x.season(1, NONE));
        for (int what = NONE; what < 2; what++) {
            all.add((long) x.season(2, what));
        }
        return all.toString();
    }

    /** Twos of ints, one of them beside what may be: below, above, far below, far above. */
    static int[] beside(int low, int high) {
        return new int[] {low - 1, high + 1, MIN, MAX};
    }
}
