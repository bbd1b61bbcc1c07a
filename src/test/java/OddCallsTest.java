import java.util.ArrayList;
import java.util.List;
import java.util.Random;
import java.util.function.Supplier;

/** No call may throw or fail to end, whatever it is told, in whatever state; and an object lasts for 512 calls. */
public final class OddCallsTest extends Named {
    /** Numbers at the edges of what may be, beside them, and far away. */
    private static final int[] ODD = {MIN, MIN + 1, MIN / 8, -1000000, -65536, -1000, -257, -10, -7, -3, -2, -1, 0, 1, 2, 3,
        4, 5, 6, 7, 8, 9, 10, 11, 13, 14, 23, 24, 28, 29, 34, 35, 45, 48, 49, 50, 77, 99, 100, 101, 199, 200, 201, 219, 220,
        221, 255, 256, 777, 778, 999, 1000, 1001, 2001, 3000, 3001, 3777, 3778, 4000, 32767, 65535, 65536, 1 << 28, 1 << 29,
        1 << 30, MAX / 8, MAX - 1, MAX};

    private static final int CALLS = 31;

    public static void main(String[] args) throws ReflectiveOperationException {
        run(OddCallsTest.class);
    }

    private static long call(ThreeToSend x, int which, int[] a) {
        switch (which) {
            case 0: return x.match(a[0], a[1], a[2]) ? 1 : 0;
            case 1: return x.player(a[0], a[1], a[2], a[3], a[4]) ? 1 : 0;
            case 2: return x.pair(a[0], a[1], a[2]) ? 1 : 0;
            case 3: return x.worth(a[0], a[1], a[2]) ? 1 : 0;
            case 4: return x.feed(a[0], a[1], a[2], a[3], a[4]);
            case 5: return x.law(a[0]);
            case 6: return x.other(a[0], a[1]);
            case 7: return x.rule(a[0], a[1]);
            case 8: return x.may(a[0], a[1], a[2]);
            case 9: return x.after(a[0], a[1], a[2]);
            case 10: return x.chance(a[0], a[1], a[2], a[3], a[4], a[5]);
            case 11: return x.best(a[0], a[1], a[2], a[3], a[4]);
            case 12: return x.by(a[0], a[1], a[2], a[3], a[4], a[5]);
            case 13: return x.says(a[0], a[1], a[2], a[3], a[4]);
            case 14: return x.edge(a[0], a[1]);
            case 15: return x.kept(a[0]);
            case 16: return x.together(a[0]);
            case 17: return x.slower(a[0]);
            case 18: return x.game(a[0]);
            case 19: return x.mixed(a[0], a[1], a[2], a[3], a[4]);
            case 20: return x.happens(a[0], a[1]);
            case 21: return x.undo();
            case 22: return x.logged(a[0], a[1]);
            case 23: return x.wrong(a[0], a[1]);
            case 24: return x.worst(a[0], a[1]);
            case 25: return x.seed(a[0]) ? 1 : 0;
            case 26: return x.draw(a[0], a[1]);
            case 27: return x.fresh(a[0], a[1]) ? 1 : 0;
            case 28: return x.season(a[0], a[1]);
            case 29: return x.check(a[0]);
            default: return x.count(a[0]);
        }
    }

    /** Arguments that all may be, for each call. */
    private static int[] plain(int which) {
        switch (which) {
            case 0: return new int[] {2, 3, 2, 0, 0, 0};
            case 8: case 9: return new int[] {0, 3000, 1, 0, 0, 0};
            case 10: return new int[] {0, 0, 3000, 1, 0, 0};
            case 11: return new int[] {0, 0, 3000, 0, 0, 0};
            case 12: case 13: return new int[] {0, 0, 0, 3000, 0, 0};
            case 19: return new int[] {0, 1, 0, 1, 0, 0};
            case 28: return new int[] {2, 0, 0, 0, 0, 0};
            default: return new int[] {1, 0, 1, 1, 1, 0};
        }
    }

    /** How many arguments of a call are asked for: more would be the same calls again. */
    private static int many(int which) {
        return new int[] {3, 5, 3, 3, 5, 1, 2, 2, 3, 3, 6, 5, 6, 5, 2, 1, 1, 1, 1, 5, 2, 1, 2, 2, 2, 1, 2, 2, 2, 1, 1}[which];
    }

    private List<Supplier<ThreeToSend>> states() {
        List<Supplier<ThreeToSend>> states = new ArrayList<>();
        states.add(ThreeToSend::new);
        states.add(Named::rich);
        // A full LOG, a full tape, all on the BENCH gone, and what is divided by 0.
        states.add(() -> {
            ThreeToSend y = rich();
            y.check(0);
            Due.law(y, "g1/s(1=1);a1%[s-1](1/s=1|1=1);h99999*99999/[0-1](1=1)");
            Due.rule(y, 0, "c1/0(1=1)");
            y.happens(1, 3);
            Due.feed(y, "((((((((((".repeat(22));
            return y;
        });
        states.add(() -> {
            ThreeToSend y = rich();
            y.match(5, 3, 2);
            y.worth(1000, 1000, 1000);
            y.happens(29, 3);
            y.happens(6, 4);
            return y;
        });
        return states;
    }

    void promises01to32_noOddNumberThrowsInAnyPlace() {
        for (Supplier<ThreeToSend> state : states()) {
            for (int which = 0; which < CALLS; which++) {
                for (int place = 0; place < many(which); place++) {
                    ThreeToSend y = state.get();
                    for (int odd : ODD) {
                        int[] a = plain(which);
                        a[place] = odd;
                        call(y, which, a);
                        if (which == 4 || which == 29) {
                            y.check(0);
                        }
                    }
                }
            }
        }
    }

    void promises01to32_noOddNumbersThrowInAnyOrder() {
        Random random = new Random(1);
        List<Supplier<ThreeToSend>> states = states();
        for (int run = 0; run < 400; run++) {
            ThreeToSend y = states.get(run % states.size()).get();
            for (int i = 0; i < 400; i++) {
                int which = random.nextInt(CALLS);
                int[] a = plain(which);
                for (int place = 0; place < 6; place++) {
                    a[place] = random.nextInt(3) == 0 ? ODD[random.nextInt(ODD.length)] : a[place] + random.nextInt(3) - 1;
                }
                call(y, which, a);
            }
        }
    }

    void promises10to32_aQuestionThatIsRefusedLeavesAllAsItWas() {
        int[] questions = {8, 9, 10, 11, 12, 13, 14, 15, 16, 17, 18, 19, 22, 23, 24, 28, 30};
        ThreeToSend y = rich();
        String before = seen(y);
        for (int which : questions) {
            for (int place = 0; place < many(which); place++) {
                for (int far : new int[] {MIN, -3, 9999, MAX}) {
                    int[] a = plain(which);
                    a[place] = far;
                    long answer = call(y, which, a);
                    is("call " + which, answer == -1 || answer == -1000 || answer == NO_PACE, true);
                }
            }
        }
        same(seen(y), before);
        tapeIsAsItWas(y);
    }

    void promises01to32_noBytesThrowAsATextOfAnyKind() {
        Random random = new Random(2);
        String signs = "gahoctnsbflmexuqoypkj0123456789+-*/%<>=&|!()[];((([[[!!!";
        for (int run = 0; run < 300; run++) {
            ThreeToSend y = new ThreeToSend();
            for (int i = 0; i < 40; i++) {
                int[] words = new int[5];
                for (int j = 0; j < 20; j++) {
                    int sign = run % 2 == 0 ? random.nextInt(256) : signs.charAt(random.nextInt(signs.length()));
                    words[j / 4] = words[j / 4] << 8 | sign;
                }
                y.feed(words[0], words[1], words[2], words[3], words[4]);
                int n = random.nextInt(21);
                int answer = i % 3 == 0 ? y.law(n) : i % 3 == 1 ? y.other(i % 5 - 1, n) : y.rule(i % 6 - 1, n);
                is(answer >= -5000 - 20 && answer <= 14, true);
            }
        }
    }

    void promises01to32_textsAsLongAndAsDeepAsMayBeEnd() {
        String[] texts = {"g" + "[".repeat(199), "g1(" + "!".repeat(197), "g1(" + "(".repeat(197), "g" + "1".repeat(199),
            "g" + "1+".repeat(99) + "1", "g1(1=1" + "&1=1".repeat(48) + ")", "g1(1=1" + "|1=1".repeat(48) + ")",
            "g1" + "*99999".repeat(32) + "(1=1)", "g1" + "/[1]".repeat(48) + "(1=1)", ";".repeat(200),
            "g1(" + "!!!!!1=1&".repeat(21) + "1=1)", "g[[[[[[1]]]]]]" + "+[[[[[[1]]]]]]".repeat(12) + "(1=1)"};
        for (String text : texts) {
            ThreeToSend y = new ThreeToSend();
            int n = Math.min(200, Due.feed(y, text));
            is(text, y.law(n) != NONE, true);
            y.best(0, 0, 3000, 0, 0);
            y.slower(0);
        }
    }

    void promises01to32_anObjectLastsFor512Calls() {
        for (int i = 0; i < 509; i++) {
            is(x.seed(i), true);
        }
        is(x.match(5, 1, 1), true);
        is(x.count(0), 5);
        is(x.best(0, 1, 3000, 0, 0), 30000000000L);
    }

    void promises01to32_itDoesNotThrowBehindThem() {
        for (int i = 0; i < 3000; i++) {
            for (int which = 0; which < CALLS; which += 1 + i % 3) {
                if (which < 10 || which > 20) {
                    call(x, which, plain(which));
                }
            }
        }
    }
}
