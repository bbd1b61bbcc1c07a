/** The boundaries of promises 30 and 32: a SEASON of WEEKS, and what is counted. */
public final class SeasonBoundsTest extends Named {
    public static void main(String[] args) throws ReflectiveOperationException {
        run(SeasonBoundsTest.class);
    }

    // ---- 30, season

    void promise30_oneWeekIsTheLeast() {
        is(x.season(1, NONE), 0);
        is(x.season(1, 0), 1);
        is(x.season(0, NONE), NONE);
        is(x.season(0, 0), NONE);
        is(x.season(-1, NONE), NONE);
        is(x.season(MIN, NONE), NONE);
    }

    void promise30_eightWeeksAreTheMost() {
        is(x.season(8, NONE), 0);
        is(x.season(8, 7), 1);
        is(x.season(9, NONE), NONE);
        is(x.season(9, 0), NONE);
        is(x.season(MAX, NONE), NONE);
        is(x.season(MAX, MAX), NONE);
    }

    void promise30_whatFromNoneToTheLastWeek() {
        for (int weeks = 1; weeks <= 8; weeks++) {
            is(x.season(weeks, NONE), 0);
            for (int week = 0; week < weeks; week++) {
                is(x.season(weeks, week), 1);
            }
            for (int far : beside(NONE, weeks - 1)) {
                is(x.season(weeks, far), NONE);
            }
        }
    }

    void promise30_nobodyPlaysAtBothPlaces() {
        // One is the best at both by far: he plays where he is worth more.
        for (int i = 0; i < 5; i++) {
            ThreeToSend y = new ThreeToSend();
            y.player(i, 9, 8, 0, 0);
            is(y.season(1, NONE), 27);
            is(y.season(1, 0), i == 0 ? 1 : 5 * i);
            y.player(i, 8, 9, 0, 0);
            is(y.season(1, NONE), 27);
            is(y.season(1, 0), i == 0 ? 5 : i);
        }
    }

    void promise30_eachTwoMayPlay() {
        for (int back = 0; back < 5; back++) {
            for (int front = 0; front < 5; front++) {
                if (back != front) {
                    ThreeToSend y = new ThreeToSend();
                    y.player(back, 9, 0, 0, 0);
                    y.player(front, 0, 9, 0, 0);
                    is(y.season(1, NONE), 54);
                    is(y.season(1, 0), 5 * back + front);
                }
            }
        }
    }

    void promise30_aPairIsWorthTheSameHoweverFreshTheyAre() {
        x.pair(4, 3, 9);
        for (int i = 0; i < 5; i++) {
            x.fresh(i, 0);
        }
        is(x.season(1, NONE), 9);
        is(x.season(1, 0), 5 * 3 + 4);
        is(x.season(8, NONE), 72);
        is(x.season(8, 7), 5 * 3 + 4);
    }

    void promise30_whoPlaysIsLessFreshByOne() {
        x.player(0, 9, 0, 0, 0);
        is(x.season(1, NONE), 27);
        is(x.season(2, NONE), 27 + 18);
        is(x.season(3, NONE), 27 + 18 + 9);
    }

    void promise30_notBelowNought() {
        x.player(0, 9, 0, 0, 0);
        x.fresh(0, 0);
        is(x.season(1, NONE), 0);
        // He rests, and plays by 1; nothing is owed from below 0.
        is(x.season(2, NONE), 9);
        is(x.season(2, 0), 5 + 2);
        is(x.season(2, 1), 1);
        // All pairs play: whoever is at 0 FRESH stays at 0.
        ThreeToSend y = new ThreeToSend();
        y.pair(0, 1, 9);
        y.player(0, 1, 0, 0, 0);
        y.fresh(0, 1);
        y.fresh(1, 0);
        is(y.season(1, NONE), 10);
        is(y.season(2, NONE), 19);
        is(y.season(3, NONE), 28);
    }

    void promise30_theOthersAreFreshByOneMore() {
        x.player(0, 9, 0, 0, 0);
        for (int much = 0; much <= 3; much++) {
            x.fresh(0, much);
            // Either at once and then by one less, or a rest first and then by one more.
            int atOnce = 9 * much + 9 * Math.max(0, much - 1);
            int later = 9 * Math.min(3, much + 1);
            is(x.season(2, NONE), Math.max(atOnce, later));
        }
    }

    void promise30_notAboveThree() {
        x.player(0, 9, 0, 0, 0);
        // However long he rests, he plays by 3 at most.
        for (int weeks = 1; weeks <= 8; weeks++) {
            is(x.season(weeks, NONE), bestOfOne(weeks));
        }
        x.fresh(0, 0);
        is(x.season(4, NONE), 27);
        is(x.season(5, NONE), 45);
    }

    /** The most that one by 9 can be worth, playing or resting in each WEEK: all ways are tried. */
    private static int bestOfOne(int weeks) {
        int best = 0;
        for (int way = 0; way < 1 << weeks; way++) {
            int fresh = 3;
            int worth = 0;
            for (int week = 0; week < weeks; week++) {
                boolean plays = (way >> week & 1) == 1;
                worth += plays ? 9 * fresh : 0;
                fresh = plays ? Math.max(0, fresh - 1) : Math.min(3, fresh + 1);
            }
            best = Math.max(best, worth);
        }
        return best;
    }

    /** Back, front, FRESH by players, and pairs: all ways of the WEEKS are tried, the first of the best is kept. */
    private static int[] bestRows(int[][] players, int[][] pairs, int weeks) {
        int[] best = new int[weeks + 1];
        best[0] = -1;
        tryAll(players, pairs, weeks, 0, new int[] {players[0][2], players[1][2], players[2][2], players[3][2],
            players[4][2]}, 0, new int[weeks], best);
        return best;
    }

    private static void tryAll(int[][] players, int[][] pairs, int weeks, int week, int[] fresh, int worth, int[] rows,
            int[] best) {
        if (week == weeks) {
            if (worth > best[0]) {
                best[0] = worth;
                System.arraycopy(rows, 0, best, 1, weeks);
            }
            return;
        }
        for (int row = 0; row < 25; row++) {
            int back = row / 5;
            int front = row % 5;
            if (back != front) {
                int[] then = new int[5];
                for (int i = 0; i < 5; i++) {
                    then[i] = i == back || i == front ? Math.max(0, fresh[i] - 1) : Math.min(3, fresh[i] + 1);
                }
                rows[week] = row;
                tryAll(players, pairs, weeks, week + 1, then, worth + players[back][0] * fresh[back]
                        + players[front][1] * fresh[front] + pairs[back][front], rows, best);
            }
        }
    }

    void promise30_ofLikePlansTheLeastRow() {
        java.util.Random random = new java.util.Random(30);
        for (int turn = 0; turn < 60; turn++) {
            ThreeToSend y = new ThreeToSend();
            int[][] players = new int[5][];
            int[][] pairs = new int[5][5];
            int most = turn % 3 == 0 ? 2 : turn % 3 == 1 ? 4 : 10;
            for (int i = 0; i < 5; i++) {
                players[i] = new int[] {random.nextInt(most), random.nextInt(most), random.nextInt(4)};
                y.player(i, players[i][0], players[i][1], 0, 0);
                y.fresh(i, players[i][2]);
                for (int j = 0; j < i; j++) {
                    pairs[i][j] = pairs[j][i] = random.nextInt(most);
                    y.pair(i, j, pairs[i][j]);
                }
            }
            for (int weeks = 1; weeks <= 3; weeks++) {
                int[] best = bestRows(players, pairs, weeks);
                for (int what = NONE; what < weeks; what++) {
                    is("turn " + turn + " " + weeks + " " + what, y.season(weeks, what), best[what + 1]);
                }
            }
        }
    }

    void promise30_theMostThatMayBe() {
        for (int i = 0; i < 5; i++) {
            x.player(i, 9, 9, 2, 2);
            for (int j = 0; j < i; j++) {
                x.pair(i, j, 9);
            }
        }
        is(x.season(1, NONE), 63);
        is(x.season(2, NONE), 126);
        // Then one who has played once must play again, or two have rested one WEEK: FRESH by 3 and 3 again.
        is(x.season(3, NONE), 189);
        int all = x.season(8, NONE);
        is(all > 7 * 45 && all <= 8 * 63, true);
        int sum = 0;
        int[] fresh = {3, 3, 3, 3, 3};
        for (int week = 0; week < 8; week++) {
            int row = x.season(8, week);
            sum += 9 * fresh[row / 5] + 9 * fresh[row % 5] + 9;
            for (int i = 0; i < 5; i++) {
                fresh[i] = i == row / 5 || i == row % 5 ? Math.max(0, fresh[i] - 1) : Math.min(3, fresh[i] + 1);
            }
        }
        is(sum, all);
    }

    void promise30_aSeasonAskedAgainIsTheSame() {
        team(x);
        for (int weeks = 1; weeks <= 8; weeks++) {
            int worth = x.season(weeks, NONE);
            int row = x.season(weeks, weeks - 1);
            x.season(9 - weeks, NONE);
            is(x.season(weeks, NONE), worth);
            is(x.season(weeks, weeks - 1), row);
        }
    }

    void promise30_whatIsToldAnewCountsAtOnce() {
        is(x.season(3, NONE), 0);
        x.player(3, 9, 0, 0, 0);
        is(x.season(3, NONE), 54);
        is(x.season(3, 0), 5 * 3);
        x.player(3, 0, 9, 0, 0);
        is(x.season(3, 0), 3);
        x.player(3, 0, 0, 0, 0);
        is(x.season(3, NONE), 0);
        x.pair(1, 4, 5);
        is(x.season(3, NONE), 15);
        is(x.season(3, 2), 5 + 4);
        x.pair(4, 1, 0);
        is(x.season(3, NONE), 0);
        is(x.season(3, 2), 1);
        x.player(0, 1, 0, 0, 0);
        is(x.season(2, NONE), 5);
        x.fresh(0, 0);
        is(x.season(2, NONE), 1);
        x.fresh(0, 3);
        is(x.season(2, NONE), 5);
    }

    void promise30_nothingElseChanges() {
        ThreeToSend y = rich();
        String before = seen(y);
        for (int what = -2; what <= 8; what++) {
            y.season(8, what);
        }
        same(seen(y), before);
        tapeIsAsItWas(y);
    }

    // ---- 32, count

    void promise32_eachNumberIsItself() {
        team(x);
        x.match(5, 2, 1);
        x.seed(4711);
        Due.law(x, "g1(1=1);a1(1=1);h1(1=1);g2(1=1);a2(1=1);h2(1=1);g3(1=1);a3(1=1)");
        String[] many = {"(1=1)", "(1=1);%1(1=1)", "(1=1);%1(1=1);%1(1=1)", "(1=1);%1(1=1);%1(1=1);%1(1=1)"};
        for (int k = 0; k < 4; k++) {
            Due.rule(x, k, ("%1" + many[k]).replace('%', 'c'));
            Due.other(x, k, ("%1" + many[3 - k]).replace('%', 'o'));
        }
        x.check(0);
        x.happens(0, 0);
        x.happens(0, 0);
        x.happens(0, 0);
        x.feed(0, 0, 0, 0, 0);
        x.feed(0, 0, 0, 0, 0);
        int[][] want = {{0, 5}, {1, 2}, {2, 1}, {3, 4711}, {4, 8}, {5, 40}, {6, 3}, {10, 4}, {11, 3}, {12, 2}, {20, 1},
            {21, 2}, {22, 3}, {23, 4}, {30, 2}, {31, 2}, {32, 2}, {33, 1}, {34, 0}};
        for (int[] w : want) {
            is("count " + w[0], x.count(w[0]), w[1]);
        }
    }

    void promise32_othersAreNone() {
        for (int what = -60; what <= 60; what++) {
            boolean is = what >= 0 && what <= 6 || what >= 10 && what <= 12 || what >= 20 && what <= 23
                    || what >= 30 && what <= 34;
            is("count " + what, x.count(what) == NONE, !is);
        }
        for (int what : new int[] {MIN, MIN + 10, MIN + 20, MIN + 30, MAX, MAX - 10, 100, 256, 65536}) {
            is("count " + what, x.count(what), NONE);
        }
    }

    void promise32_aTextWithAFaultIsNotCounted() {
        Due.law(x, "g1(1=1);g1(1=1)");
        Due.law(x, "g1(1=1);g1(1=1);g");
        is(x.count(4), 2);
        Due.other(x, 2, "o1(1=1);o");
        is(x.count(12), 0);
        Due.rule(x, 3, "c1(1=1);c");
        is(x.count(23), 0);
    }

    void promise32_asManyAsMayBe() {
        String fourteen = "g1(1=1)" + ";g1(1=1)".repeat(13);
        Due.law(x, fourteen);
        is(x.count(4), 14);
        Due.other(x, 2, fourteen.replace('g', 'o'));
        is(x.count(12), 14);
        Due.rule(x, 3, fourteen.replace('g', 'c'));
        is(x.count(23), 14);
        for (int i = 0; i < 12; i++) {
            x.feed(0, 0, 0, 0, 0);
        }
        is(x.count(5), 220);
    }

    void promise32_legsAreThoseOfTheFirst() {
        team(x);
        x.happens(1, 0);
        x.happens(0, 0);
        is(x.count(30), 2);
        is(x.count(32), 2);
    }

    void promise32_askingChangesNothing() {
        ThreeToSend y = rich();
        String before = seen(y);
        same(seen(y), before);
        tapeIsAsItWas(y);
    }
}
