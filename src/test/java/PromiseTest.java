/** Each promise by its number: ordinary inputs, the edges that the document names, wrong inputs. */
public final class PromiseTest {
    private static final int NONE = -1;
    private static final long NO_PACE = -1000000000000000000L;

    private final Due due = new Due();

    public static void main(String[] args) {
        PromiseTest test = new PromiseTest();
        test.newObject();
        test.match();
        test.player();
        test.pair();
        test.worth();
        test.feed();
        test.lawTexts();
        test.lawFaults();
        test.lawSums();
        test.lawConditions();
        test.lawLetters();
        test.other();
        test.rule();
        test.may();
        test.after();
        test.chance();
        test.best();
        test.by();
        test.says();
        test.edge();
        test.keptTogetherSlower();
        test.game();
        test.mixed();
        test.happensUndoLogged();
        test.wrongWorst();
        test.seedDraw();
        test.freshSeason();
        test.check();
        test.count();
        test.due.close("PromiseTest");
    }

    /** Five players who differ in all: back, front, legs, loss. */
    private static ThreeToSend team() {
        ThreeToSend x = new ThreeToSend();
        x.player(0, 3, 0, 2, 1);
        x.player(1, 0, 4, 2, 2);
        x.player(2, 5, 6, 2, 1);
        x.player(3, 9, 1, 1, 0);
        x.player(4, 2, 8, 0, 2);
        return x;
    }

    // Promise 1.
    private void newObject() {
        ThreeToSend x = new ThreeToSend();
        due.is("NONE", ThreeToSend.NONE, -1);
        int[] plain = {4, 3, 2, 1, 0, 0, 0};
        for (int i = 0; i < plain.length; i++) {
            due.is("1: count " + i, x.count(i), plain[i]);
        }
        for (int what : new int[] {10, 11, 12, 20, 21, 22, 23, 30, 31, 32, 33, 34}) {
            due.is("1: count " + what, x.count(what), 0);
        }
        due.is("1: won", x.best(4, 2, 3000, 0, 0), 3);
        due.is("1: drawn", x.best(4, 0, 3000, 0, 0), 1);
        due.is("1: lost", x.best(4, -2, 3000, 0, 0), 0);
        x.player(0, 1, 0, 0, 0);
        due.is("1: PLAYER 0 is FRESH by 3", x.season(1, NONE), 3);
        for (int i = 1; i < 5; i++) {
            ThreeToSend one = new ThreeToSend();
            one.player(i, 1, 0, 0, 0);
            due.is("1: PLAYER " + i + " is FRESH by 3", one.season(1, NONE), 3);
        }
        ThreeToSend y = new ThreeToSend();
        y.match(1, 0, 1);
        due.is("1: objects share nothing", new ThreeToSend().count(0), 4);
    }

    // Promise 2.
    private void match() {
        ThreeToSend x = team();
        due.is("2: the least", x.match(1, 0, 1), true);
        due.is("2: n", x.count(0), 1);
        due.is("2: C", x.count(1), 0);
        due.is("2: M", x.count(2), 1);
        x.happens(0, 0);
        int[][] wrong = {{0, 3, 2}, {6, 3, 2}, {4, -1, 2}, {4, 4, 2}, {4, 3, 0}, {4, 3, 3}};
        for (int[] w : wrong) {
            due.is("2: no such match", x.match(w[0], w[1], w[2]), false);
        }
        due.is("2: a refused one changes nothing", x.count(0) + x.count(1) + x.count(2) + x.count(6), 3);
        due.is("2: the most", x.match(5, 3, 2), true);
        due.is("2: n, the most", x.count(0), 5);
        due.is("2: the LOG falls", x.count(6), 0);
        due.is("2: a PERIOD more", x.may(4, 3000, 0), 1);
        Due.law(x, "gx+n(1=1)");
        Due.rule(x, 0, "c1(1=1)");
        Due.other(x, 0, "o1(1=1)");
        long before = x.best(4, 0, 3000, 0, 0) + x.game(0);
        x.match(4, 0, 1);
        due.is("2: VALUES are reckoned anew by C", x.best(3, 0, 3000, 0, 0), 3 * 4 + 96);
        x.match(3, 0, 1);
        due.is("2: VALUES are reckoned anew by n", x.best(2, 0, 3000, 0, 0), 3 * 3 + 97);
        due.is("2: GAME is reckoned anew", x.game(0) < before, true);
    }

    // Promise 3.
    private void player() {
        ThreeToSend x = new ThreeToSend();
        due.is("3: the least", x.player(0, 0, 0, 0, 0), true);
        due.is("3: the most", x.player(4, 9, 9, 2, 2), true);
        due.is("3: legs", x.count(34), 2);
        x.happens(0, 0);
        int[][] wrong = {{-1, 1, 1, 1, 1}, {5, 1, 1, 1, 1}, {4, -1, 1, 1, 1}, {4, 10, 1, 1, 1}, {4, 1, -1, 1, 1},
            {4, 1, 10, 1, 1}, {4, 1, 1, -1, 1}, {4, 1, 1, 3, 1}, {4, 1, 1, 1, -1}, {4, 1, 1, 1, 3}};
        for (int[] w : wrong) {
            due.is("3: no such player", x.player(w[0], w[1], w[2], w[3], w[4]), false);
        }
        due.is("3: a refused one changes nothing", x.count(34), 2);
        due.is("3: the LOG stays", x.count(6), 1);
        x.player(0, 1, 2, 1, 0);
        due.is("3: the LOG falls", x.count(6), 0);
        Due.law(x, "gb*10(1=1);af(1=1)");
        due.is("3: good at the back", x.chance(0, 0, 3000, 0, 0, 0), 10);
        due.is("3: good in front", x.chance(0, 0, 3000, 6, 0, 1), 9);
        x.match(1, 0, 1);
        x.worth(1, 0, 0);
        due.is("3: VALUE", x.best(0, 0, 3000, 0, 0), 10);
        due.is("3: worth in a SEASON", x.season(1, NONE), 6 + 27);
        x.player(0, 2, 3, 1, 0);
        due.is("3: VALUE anew", x.best(0, 0, 3000, 0, 0), 20);
        due.is("3: worth anew", x.season(1, NONE), 9 + 27);
    }

    // Promise 4.
    private void pair() {
        ThreeToSend x = new ThreeToSend();
        Due.law(x, "gq(1=1)");
        due.is("4: at first", x.chance(0, 0, 3000, 0, 0, 0), 0);
        x.happens(0, 0);
        due.is("4: told", x.pair(1, 0, 9), true);
        due.is("4: the LOG stays", x.count(6), 1);
        due.is("4: both ways", x.chance(0, 0, 3000, 0, 0, 0), 9);
        due.is("4: nothing", x.pair(4, 3, 0), true);
        due.is("4: of the bench", x.pair(3, 2, 7), true);
        due.is("4: two of the bench", x.chance(0, 0, 3000, 29, 0, 0), 7);
        due.is("4: one is lacking", x.chance(0, 0, 1000, 0, 0, 0), 0);
        x.pair(1, 4, 8);
        x.pair(2, 4, 8);
        due.is("4: one is lacking in front", x.chance(0, 0, 1, 0, 0, 0) + x.chance(0, 0, 20, 0, 0, 0), 0);
        due.is("4: one is lacking at the back", x.chance(0, 0, 4, 0, 0, 0) + x.chance(0, 0, 2000, 0, 0, 0), 0);
        int[][] wrong = {{-1, 0, 1}, {0, -1, 1}, {5, 0, 1}, {0, 5, 1}, {1, 1, 1}, {0, 1, -1}, {0, 1, 10}};
        for (int[] w : wrong) {
            due.is("4: no such pair", x.pair(w[0], w[1], w[2]), false);
        }
        due.is("4: a refused one changes nothing", x.chance(0, 0, 3000, 0, 0, 0), 9);
    }

    // Promise 5.
    private void worth() {
        ThreeToSend x = new ThreeToSend();
        due.is("5: told", x.worth(1000, 0, 1000), true);
        due.is("5: drawn", x.best(4, 0, 3000, 0, 0), 0);
        due.is("5: others", x.worth(0, 1000, 7), true);
        int[][] wrong = {{-1, 1, 1}, {1001, 1, 1}, {1, -1, 1}, {1, 1001, 1}, {1, 1, -1}, {1, 1, 1001}};
        for (int[] w : wrong) {
            due.is("5: no such worth", x.worth(w[0], w[1], w[2]), false);
        }
        due.is("5: won", x.best(4, 1, 3000, 0, 0), 0);
        due.is("5: drawn then", x.best(4, 0, 3000, 0, 0), 1000);
        due.is("5: lost", x.best(4, -1, 3000, 0, 0), 7);
    }

    // Promise 6.
    private void feed() {
        ThreeToSend x = new ThreeToSend();
        due.is("6: twenty", x.feed(0x67352831, 0x3d31293b, 0x61362831, 0x3d312900, -1), 20);
        for (int i = 2; i <= 11; i++) {
            due.is("6: " + i, x.feed(i, i, i, i, i), 20 * i);
        }
        due.is("6: too many", x.feed(1, 1, 1, 1, 1), NONE);
        due.is("6: the tape stays", x.count(5), 220);
        due.is("6: the highest byte first", x.law(15), 2);
        due.is("6: empty then", x.count(5), 0);
        due.is("6: goal", x.chance(0, 0, 3000, 0, 0, 0), 5);
        due.is("6: one let in", x.chance(0, 0, 3000, 0, 0, 1), 6);
    }

    private static String twice(String text, int times) {
        StringBuilder all = new StringBuilder(text);
        for (int i = 1; i < times; i++) {
            all.append(';').append(text);
        }
        return all.toString();
    }

    // Promise 7.
    private void lawTexts() {
        ThreeToSend x = new ThreeToSend();
        due.is("7: one", Due.law(x, "g5(1=1)"), 1);
        due.is("7: all letters", Due.law(x, "g5(1=1);a6(1=1);h7(1=1)"), 3);
        due.is("7: fourteen", Due.law(x, twice("g1(1=1)", 14)), 14);
        due.is("7: in place of the one before", x.chance(0, 0, 3000, 0, 0, 1), 0);
        String long200 = "g" + "1+".repeat(96) + "1(1=1)";
        due.is("7: it is of 199", long200.length(), 199);
        due.is("7: 199 bytes", Due.law(x, long200), 1);
        due.is("7: their sum", x.chance(0, 0, 3000, 0, 0, 0), 97);
        due.is("7: 200 bytes", Due.law(x, "g" + "1+".repeat(96) + "12(1=1)"), 1);
        due.is("7: clamped", x.chance(0, 0, 3000, 0, 0, 0), 100);
        Due.feed(x, "g5(1=1)".repeat(31));
        for (int n : new int[] {0, -1, 201, 220, 221, Integer.MAX_VALUE, Integer.MIN_VALUE}) {
            due.is("7: no such n", x.law(n), NONE);
        }
        due.is("7: the tape stays", x.count(5), 220);
        due.is("7: behind the 7 bytes nothing counts", x.law(7), 1);
        due.is("7: empty then", x.count(5), 0);
        due.is("7: it has not so many", x.law(1), NONE);
        x.feed(0x67362831, 0x3d312900, 0, 0, 0);
        due.is("7: not so many as 21", x.law(21), NONE);
        due.is("7: those stay", x.count(5), 20);
        due.is("7: a fault", x.law(8), -1007);
        due.is("7: empty behind a fault", x.count(5), 0);
        due.is("7: the TEXT before stays", x.chance(0, 0, 3000, 0, 0, 0), 5);
        due.is("7: its CLAUSES, too", x.count(4), 1);
        x.happens(0, 0);
        Due.law(x, "g1(1=1)");
        due.is("7: the LOG stays", x.count(6), 1);
    }

    private void fault(ThreeToSend x, String text, int want) {
        due.is("7: " + text, Due.law(x, text), want);
    }

    private void lawFaults() {
        ThreeToSend x = new ThreeToSend();
        fault(x, "o5(1=1)", -1000);
        fault(x, "c5(1=1)", -1000);
        fault(x, " g5(1=1)", -1000);
        fault(x, "g", -1001);
        fault(x, "g(1=1)", -1001);
        fault(x, "g-5(1=1)", -1001);
        fault(x, "g 5(1=1)", -1001);
        fault(x, "g5", -1002);
        fault(x, "gg(1=1)", -1001);
        fault(x, "g55t(1=1)", -1003);
        fault(x, "g5+(1=1)", -1003);
        fault(x, "g[5(1=1)", -1003);
        fault(x, "g5](1=1)", -1002);
        fault(x, "g[](1=1)", -1002);
        fault(x, "g5()", -1003);
        fault(x, "g5(1)", -1004);
        fault(x, "g5(1=)", -1005);
        fault(x, "g5(1=1", -1006);
        fault(x, "g5(1=1=1)", -1006);
        fault(x, "g5(1<=1)", -1005);
        fault(x, "g5((1)=1)", -1005);
        fault(x, "g5((1=1)=1)", -1008);
        fault(x, "g5((1=1)+1=1)", -1008);
        fault(x, "g5(1=(1))", -1005);
        fault(x, "g5(1=!1)", -1005);
        fault(x, "g5(1=1&)", -1007);
        fault(x, "g5(1=1||1=1)", -1007);
        fault(x, "g5(!)", -1004);
        fault(x, "g5([1=1])", -1005);
        fault(x, "g5(1=1))", -1007);
        fault(x, "g5(1=1);", -1008);
        fault(x, "g5(1=1);;", -1008);
        fault(x, "g5(1=1)a5(1=1)", -1007);
        fault(x, "g5(1=1);o5(1=1)", -1008);
        fault(x, "g5(z=1)", -1003);
        fault(x, "g5(1=\u00e9)", -1005);
        fault(x, "g00000(1=1)", 1);
        fault(x, "g000000(1=1)", -2006);
        fault(x, "g123456(1=1)", -2006);
        fault(x, "g5(1=123456", -2010);
        fault(x, "g5(1=12345", -1010);
        fault(x, twice("g1(1=1)", 15), -4112);
        fault(x, twice("g1(1=1)", 14) + ";", -1112);
        fault(x, twice("g1(1=1)", 14) + ";o", -1112);
        fault(x, "g[[[[[[5]]]]]](1=1)", 1);
        fault(x, "g[[[[[[[5]]]]]]](1=1)", -5007);
        fault(x, "g[[[[[[5]]]]]]+[[[[[[5]]]]]]((((((1=1))))))", 1);
        fault(x, "g5(((((((1=1)))))))", -5008);
        fault(x, "g5((((([1]=1)))))", 1);
        fault(x, "g5(((((([1]=1))))))", -5008);
        fault(x, "g5((((((1=[1]))))))", -5010);
        fault(x, "g5(!!!!!1=1)", 1);
        fault(x, "g5(!!!!!!1=1)", -5008);
        fault(x, "g5(!!!!!1=1&!!!!!1=1|(((((1=1)))))&!(!(!1=1)))", 1);
        fault(x, "g5(!(!(!1=1)&!!1=1))", 1);
        fault(x, "g5(!(!(![1]=1)))", -5008);
        fault(x, "g5(!(!(!1=1))&!(!(!1=1)))", 1);
        fault(x, "g5(!!!!(1=1&!1=1))", -5012);
        fault(x, "g5(!!!!(1=1)&!1=1)", 1);
        fault(x, "g5(!!!![[1]]=1)", -5008);
        fault(x, "g5(!!!![1]=[1])", 1);
    }

    private long sum(String text) {
        ThreeToSend x = team();
        due.is("7: " + text + " can be read", Due.law(x, "g" + text + "(1=1)"), 1);
        return x.chance(1, -1, 3000, 0, 0, 0);
    }

    private void lawSums() {
        due.is("7: * first", sum("2+3*4"), 14);
        due.is("7: [ ]", sum("[2+3]*4"), 20);
        due.is("7: - from the left", sum("20-5-3+1"), 13);
        due.is("7: / from the left", sum("24/4/2"), 3);
        due.is("7: % from the left", sum("17%10%4"), 3);
        due.is("7: / then *", sum("7/2*2"), 6);
        due.is("7: * then /", sum("7*2/2"), 7);
        due.is("7: [ ] on the right", sum("20-[5-3]"), 18);
        due.is("7: below 0", sum("5-9"), 0);
        due.is("7: above 100", sum("101"), 100);
        due.is("7: 32 bits", sum("99999*99999%100"), 9);
        due.is("7: / to 0", sum("[0-7]/2+10"), 7);
        due.is("7: % with the sign of the left", sum("[0-7]%4+10"), 7);
        due.is("7: the least by -1", sum("[65536*32768/[0-1]+1]%100+50"), 3);
        due.is("7: the rest of the least by -1", sum("65536*32768%[0-1]+4"), 4);
        due.is("7: an E is 0", sum("50+1/0"), 0);
        due.is("7: an E is 0 through *", sum("50+0*[1%0]"), 0);
        ThreeToSend x = new ThreeToSend();
        Due.law(x, "g1/0(1=1);g5(1=1)");
        due.is("7: the first whose C holds, though its E is REFUSED", x.chance(0, 0, 3000, 0, 0, 0), 0);
        Due.law(x, "g1(1/0=1);g5(1=1);g6(1=1)");
        due.is("7: a C REFUSED does not hold", x.chance(0, 0, 3000, 0, 0, 0), 5);
        Due.law(x, "g1(1=2)");
        due.is("7: none", x.chance(0, 0, 3000, 0, 0, 0), 0);
    }

    private void holds(String text, boolean want) {
        ThreeToSend x = team();
        due.is("7: " + text + " can be read", Due.law(x, "g1(" + text + ")"), 1);
        due.is("7: " + text, x.chance(1, -1, 3000, 0, 0, 0), want ? 1 : 0);
    }

    private void lawConditions() {
        holds("1<2", true);
        holds("2<2", false);
        holds("3>2", true);
        holds("2>2", false);
        holds("2=2", true);
        holds("1+1=2*1", true);
        holds("!2=2", false);
        holds("!1<2", false);
        holds("!2>1", false);
        holds("!2<1", true);
        holds("!!2>1", true);
        holds("!!2=2", true);
        holds("1=1&1=2", false);
        holds("1=2|1=1", true);
        holds("1=1|1=1&1=2", true);
        holds("1=2&1=1|1=1", true);
        holds("(1=1|1=1)&1=2", false);
        holds("!1=2&1=1", true);
        holds("!(1=2&1=1)", true);
        holds("!1=1|1=1", true);
        holds("1=2|1=2|1=1", true);
        holds("1=1&1=1&1=2", false);
        holds("65536*32768/[0-1]<0", true);
        holds("99999*99999<0-1", false);
        holds("99999*25000<0-1", true);
        holds("1=1|1/0=1", true);
        holds("1/0=1|1=1", false);
        holds("1=2&1/0=1|1=1", true);
        holds("1=1&1/0=1|1=1", false);
        holds("!1/0=1", false);
        holds("(1/0=1)|1=1", false);
        holds("!(1=2&1/0=1)", true);
        holds("(1=1|1%0=1)&2=2", true);
        holds("1=2|1=1|1/0=1", true);
        holds("1=2&1=1&1/0=1|1=1", true);
        holds("0*[1/0]=0", false);
        holds("1/[0-0]=1|2>1", false);
    }

    private long letter(ThreeToSend x, String head, String text, int code, int what) {
        Due.law(x, head + text + "(1=1)");
        return x.chance(1, -1, code, 0, 0, what);
    }

    private void lawLetters() {
        ThreeToSend x = team();
        x.match(5, 3, 2);
        x.pair(3, 1, 8);
        Due.other(x, 0, "o7(1=1)");
        // PLAYER 2 off, PLAYER 3 at 0 with LEGS 1, PLAYER 1 at 1.
        String letters = "tnsbflmexuqoypkj";
        int[] want = {1, 5, -1, 9, 4, 1, 0, 0, 0, 1, 8, 7, 0, 0, 0, 0};
        for (int i = 0; i < want.length; i++) {
            due.is("7: " + letters.charAt(i), letter(x, "g", letters.charAt(i) + "+10", 2027, 0), want[i] + 10);
        }
        // Nobody at 0, PLAYER 2 at 1 with LEGS 2.
        int[] lone = {1, 5, -1, 0, 6, 0, 2, 1, 0, 2, 0, 7, 0, 0, 0, 0};
        for (int i = 0; i < lone.length; i++) {
            due.is("7: lone " + letters.charAt(i), letter(x, "a", letters.charAt(i) + "+10", 6, 1), lone[i] + 10);
        }
        due.is("7: both empty", letter(x, "g", "e", 0, 0), 2);
        due.is("7: p at 0", letter(x, "h", "p+10", 2027, 2), 10);
        due.is("7: p at 1", letter(x, "h", "p+10", 2027, 3), 11);
        due.is("7: k at 0", letter(x, "h", "k", 2027, 2), 3);
        due.is("7: k at 1", letter(x, "h", "k", 2027, 3), 1);
        due.is("7: j at 0", letter(x, "h", "j+5", 2027, 2), 6);
        due.is("7: j at 1", letter(x, "h", "j+5", 2027, 3), 5);
        due.is("7: h of a lone one at 0", letter(x, "h", "50", 6, 2), 0);
        due.is("7: h of a lone one at 1", letter(x, "h", "p*10+k", 6, 3), 12);
        Due.law(x, "gx*10+u(1=1)");
        due.is("7: x and u behind two", x.chance(0, 0, 3000, 29, 0, 0), 21);
        due.is("7: x and u behind one", x.chance(0, 0, 3000, 4, 0, 0), 12);
        due.is("7: x and u behind one more", x.chance(0, 0, 7, 4, 0, 0), 11);
        // LEGS of PLAYERS 0 and 1 by PERIODS.
        Due.law(x, "gl*10+m(1=1)");
        due.is("7: LEGS at first", x.chance(0, 0, 3000, 0, 0, 0), 22);
        due.is("7: LEGS in 1", x.chance(1, 0, 3000, 0, 0, 0), 10);
        due.is("7: LEGS in 2", x.chance(2, 0, 3000, 0, 0, 0), 0);
        due.is("7: LEGS in 4", x.chance(4, 0, 3000, 0, 0, 0), 0);
    }

    // Promise 8.
    private void other() {
        ThreeToSend x = team();
        Due.law(x, "go(1=1)");
        due.is("8: not told", x.chance(2, 1, 3000, 0, 1, 0), 0);
        due.is("8: told", Due.other(x, 1, "o5(t=0);o6+t+n+s(1=1)"), 2);
        due.is("8: the first", x.chance(0, 1, 3000, 0, 1, 0), 5);
        due.is("8: the second", x.chance(2, 1, 3000, 0, 1, 0), 13);
        due.is("8: by SCORE", x.chance(2, -2, 3000, 0, 1, 0), 10);
        due.is("8: not of another one", x.chance(2, 1, 3000, 0, 2, 0), 0);
        due.is("8: 2", Due.other(x, 2, "o500(1=1)"), 1);
        due.is("8: not above 99", x.chance(2, 1, 3000, 0, 2, 0), 99);
        Due.other(x, 2, "o0-5(1=1)");
        Due.law(x, "go+50(1=1)");
        due.is("8: not below 0", x.chance(2, 1, 3000, 0, 2, 0), 50);
        Due.other(x, 0, "o1+b+f+l+m+e+x+u+q+o+y+p+k+j(1=1)");
        due.is("8: nobody is there", x.chance(0, 1, 3000, 29, 0, 0), 51);
        Due.other(x, 0, "o3/0(1=1)");
        due.is("8: an E is 0", x.chance(0, 1, 3000, 0, 0, 0), 50);
        due.is("8: g can't stand there", Due.other(x, 0, "g1(1=1)"), -1000);
        due.is("8: c can't stand there", Due.other(x, 0, "c1(1=1)"), -1000);
        due.is("8: the fifteenth", Due.other(x, 0, twice("o1(1=1)", 15)), -4112);
        Due.feed(x, "o1(1=1)");
        due.is("8: no such one", x.other(-1, 7), NONE);
        due.is("8: no such one either", x.other(3, 7), NONE);
        due.is("8: no such n", x.other(0, 0), NONE);
        due.is("8: not so many", x.other(0, 21), NONE);
        due.is("8: the tape stays", x.count(5), 20);
        due.is("8: it is read then", x.other(0, 7), 1);
        due.is("8: in place of the one before", x.chance(0, 1, 3000, 0, 0, 0), 51);
        due.is("8: the tape is empty", x.count(5), 0);
    }

    // Promise 9.
    private void rule() {
        ThreeToSend x = team();
        due.is("9: told", Due.rule(x, 3, "c29(t=0);c5(1=1)"), 2);
        due.is("9: the first", x.says(3, 0, 0, 3000, 0), 29);
        due.is("9: the second", x.says(3, 1, 0, 3000, 0), 5);
        due.is("9: g can't stand there", Due.rule(x, 3, "g5(1=1)"), -1000);
        due.is("9: a fault behind", Due.rule(x, 3, "c5(1=1);o5(1=1)"), -1008);
        due.is("9: the TEXT before stays", x.says(3, 1, 0, 3000, 0), 5);
        Due.feed(x, "c1(1=1)");
        due.is("9: no such one", x.rule(-1, 7), NONE);
        due.is("9: no such one either", x.rule(4, 7), NONE);
        due.is("9: no such n", x.rule(0, 0), NONE);
        due.is("9: the tape stays", x.count(5), 20);
        due.is("9: it is read then", x.rule(0, 7), 1);
        due.is("9: the tape is empty", x.count(5), 0);
    }

    // Promise 10.
    private void may() {
        ThreeToSend x = team();
        int[] right = {0, 1, 2, 3, 4, 5, 6, 23, 29, 37, 39, 43, 45};
        int next = 0;
        for (int action = 0; action < 49; action++) {
            boolean is = next < right.length && right[next] == action;
            next += is ? 1 : 0;
            due.is("10: " + action, x.may(0, 3000, action), is ? 1 : 0);
        }
        int[][] none = {{-1, 3000, 0}, {4, 3000, 0}, {0, -1, 0}, {0, 4000, 0}, {0, 3008, 0}, {0, 3090, 0}, {0, 800, 0},
            {0, 3001, 0}, {0, 3004, 0}, {0, 12, 0}, {0, 405, 0}, {0, 3000, -1}, {0, 3000, 49}, {0, 1030, 0}};
        for (int[] w : none) {
            due.is("10: no such " + w[0] + " " + w[1] + " " + w[2], x.may(w[0], w[1], w[2]), NONE);
        }
        due.is("10: nobody is on", x.may(3, 0, 0), 1);
        due.is("10: any LEGS", x.may(0, 2003, 0) + x.may(0, 1600, 0) + x.may(0, 41, 0), 3);
        due.is("10: to an empty PLACE", x.may(0, 7, 4), 1);
        due.is("10: who is off", x.may(0, 3007, 1), 0);
        due.is("10: who is on", x.may(0, 2001, 2), 0);
        due.is("10: two, one of whom is off", x.may(0, 3007, 29), 0);
        due.is("10: two of the others", x.may(0, 3007, 45), 1);
        due.is("10: all have come on", x.may(0, 777, 0), 1);
        due.is("10: the highest CODE", x.may(0, 3777, 0), 1);
        x.match(4, 3, 1);
        due.is("10: two at once", x.may(0, 3000, 29), 0);
        due.is("10: one at once", x.may(0, 3000, 6), 1);
        x.match(4, 2, 2);
        due.is("10: two in all", x.may(0, 3000, 29), 1);
        due.is("10: three in all", x.may(0, 3007, 45), 0);
        due.is("10: a second", x.may(0, 3007, 5), 1);
        due.is("10: a third", x.may(0, 3077, 5), 0);
        due.is("10: three made", x.may(0, 3777, 0), NONE);
        x.match(4, 0, 1);
        due.is("10: none at all", x.may(0, 3000, 1), 0);
        due.is("10: none is right", x.may(0, 3000, 0), 1);
    }

    // Promise 11.
    private void after() {
        ThreeToSend x = team();
        int[][] right = {{3000, 0, 3000}, {3000, 1, 2003}, {3000, 2, 1006}, {3000, 3, 2020}, {3000, 4, 1050},
            {3000, 5, 2100}, {3000, 6, 1400}, {3000, 29, 53}, {3000, 23, 26}, {3000, 43, 403}, {3000, 45, 420},
            {2001, 3, 2027}, {1004, 6, 1407}, {7, 3, 27}};
        for (int[] r : right) {
            due.is("11: " + r[0] + " by " + r[1], x.after(3, r[0], r[1]), r[2]);
        }
        due.is("11: who is on can't come on", x.after(0, 2003, 37), NONE);
        due.is("11: no LOSS yet", x.after(3, 2002, 0), 2002);
        due.is("11: it may not be", x.after(0, 3000, 22), NONE);
        due.is("11: no such PERIOD", x.after(4, 3000, 0), NONE);
        due.is("11: no such CODE", x.after(0, 3001, 0), NONE);
        due.is("11: no such ACTION", x.after(0, 3000, 49), NONE);
        due.is("11: nor below 0", x.after(0, 3000, -1), NONE);
    }

    private void shares(ThreeToSend x, String law, int code, int... want) {
        Due.law(x, law);
        for (int what = 0; what < 5; what++) {
            due.is("12: " + law + " " + what, x.chance(0, 0, code, 0, 0, what), want[what]);
        }
    }

    // Promise 12.
    private void chance() {
        ThreeToSend x = team();
        shares(x, "g10(1=1);a20(1=1);h5+p(1=1)", 3000, 10, 20, 5, 6, 59);
        shares(x, "g70(1=1);a50(1=1);h5(1=1)", 3000, 70, 30, 0, 0, 0);
        shares(x, "g40(1=1);a50(1=1);h8(1=1)", 3000, 40, 50, 8, 2, 0);
        shares(x, "g200(1=1);a5(1=1)", 3000, 100, 0, 0, 0, 0);
        shares(x, "g0-3(1=1);a0-1(1=1);h0-9(p=0);h7(1=1)", 3000, 0, 0, 0, 7, 93);
        shares(x, "h60(1=1)", 3000, 0, 0, 60, 40, 0);
        shares(x, "h60(1=1)", 2000, 0, 0, 0, 60, 40);
        shares(x, "h60(1=1)", 1000, 0, 0, 60, 0, 40);
        shares(x, "h60(1=1)", 0, 0, 0, 0, 0, 100);
        Due.law(x, "gb*10+f(1=1)");
        due.is("12: behind the ACTION", x.chance(0, 0, 3000, 23, 0, 0), 96);
        int[][] none = {{-1, 0, 3000, 0, 0, 0}, {4, 0, 3000, 0, 0, 0}, {0, -3, 3000, 0, 0, 0}, {0, 3, 3000, 0, 0, 0},
            {0, 0, 3001, 0, 0, 0}, {0, 0, 3000, 7, 0, 0}, {0, 0, 3000, -1, 0, 0}, {0, 0, 3000, 49, 0, 0},
            {0, 0, 3000, 0, -1, 0}, {0, 0, 3000, 0, 3, 0}, {0, 0, 3000, 0, 0, -1}, {0, 0, 3000, 0, 0, 5},
            {0, 0, 3007, 1, 0, 0}};
        for (int[] w : none) {
            due.is("12: no such ones", x.chance(w[0], w[1], w[2], w[3], w[4], w[5]), NONE);
        }
    }

    // Promise 13.
    private void best() {
        ThreeToSend x = team();
        x.match(2, 1, 1);
        x.worth(1, 0, 0);
        Due.law(x, "gb+f+l+m(1=1)");
        // In the last PERIOD at 0: b + f + l + m: 3 + 4 + 1 + 0; PLAYER 3 for 0: 9 + 4 + 1 + 0 is the most.
        due.is("13: the last", x.best(1, 0, 3000, 0, 0), 14);
        due.is("13: its ACTION", x.best(1, 0, 3000, 0, 1), 3);
        // Ahead: with 3 now 9 + 4 + 1 + 2 = 16 a goal, and then 14; without one now 11 a goal and then 14.
        due.is("13: the first", x.best(0, 0, 3000, 0, 0), 16 * 100 + 84 * 14);
        due.is("13: 3 at once", x.best(0, 0, 3000, 0, 1), 3);
        due.is("13: ahead already", x.best(0, 1, 3000, 0, 0), 10000);
        due.is("13: of like ones the least", x.best(0, 1, 3000, 0, 1), 0);
        due.is("13: behind by two", x.best(0, -2, 3000, 0, 0), 0);
        due.is("13: behind the last", x.best(2, 0, 3000, 0, 0), 0);
        due.is("13: won behind the last", x.best(2, 2, 7, 0, 0), 1);
        due.is("13: more changes than C behind the last", x.best(2, 2, 77, 0, 0), -1);
        due.is("13: no ACTION behind the last", x.best(2, 0, 3000, 0, 1), NONE);
        x.worth(0, 0, 5);
        due.is("13: a goal at 2 changes nothing", x.best(0, 2, 3000, 0, 0), 0);
        Due.law(x, "a100(1=1)");
        due.is("13: two let in", x.best(0, 1, 3000, 0, 0), 50000);
        due.is("13: two let in from 2", x.best(0, 2, 3000, 0, 0), 0);
        due.is("13: one at -2 changes nothing", x.best(0, -2, 3000, 0, 0), 50000);
        x.match(5, 3, 2);
        x.worth(1000, 1000, 1000);
        due.is("13: the most", x.best(0, 0, 3000, 0, 0), 10000000000000L);
        int[][] none = {{-1, 0, 3000, 0, 0}, {6, 0, 3000, 0, 0}, {0, -3, 3000, 0, 0}, {5, 3, 3000, 0, 0},
            {0, 0, 3001, 0, 0}, {5, 0, 3001, 0, 0}, {0, 0, 3000, -1, 0}, {5, 0, 3000, 3, 0}, {0, 0, 3000, 0, -1},
            {5, 0, 3000, 0, 2}, {0, 0, 3000, 0, 2}};
        for (int[] w : none) {
            due.is("13: no such ones", x.best(w[0], w[1], w[2], w[3], w[4]), NONE);
        }
        bestThroughHurtsAndLegs();
        bestOfEachAction();
    }

    private void bestOfEachAction() {
        ThreeToSend x = team();
        x.match(1, 3, 2);
        x.worth(1, 0, 0);
        // ACTION, and how GOOD those are who are then at 0 and 1.
        int[][] actions = {{0, 3, 4}, {1, 5, 4}, {2, 3, 6}, {3, 9, 4}, {4, 3, 1}, {5, 2, 4}, {6, 3, 8}, {23, 9, 6},
            {29, 5, 1}, {37, 2, 6}, {39, 2, 1}, {43, 5, 8}, {45, 9, 8}};
        for (int[] a : actions) {
            Due.law(x, "g50(b=" + a[1] + "&f=" + a[2] + ")");
            due.is("13: VALUE of " + a[0], x.best(0, 0, 3000, 0, 0), 50);
            due.is("13: ACTION " + a[0], x.best(0, 0, 3000, 0, 1), a[0]);
        }
        x.match(2, 0, 1);
        Due.law(x, "h1(t=0&p=1);g50*e(t=1)");
        due.is("13: one in a hundred is hurt in front", x.best(0, 0, 3000, 0, 0), 50);
        Due.law(x, "h1(t=0&p=0);g50*e(t=1)");
        due.is("13: one in a hundred is hurt at the back", x.best(0, 0, 3000, 0, 0), 50);
    }

    private void bestThroughHurtsAndLegs() {
        ThreeToSend x = team();
        x.match(2, 3, 2);
        x.worth(1, 0, 0);
        // Who is at 0 is hurt in PERIOD 0 for sure; then a goal by how many are there, and by their LEGS.
        Due.law(x, "h100(t=0&p=0);g50-25*e+l*4+m(t=1)");
        // The most in PERIOD 1: PLAYER 2 at 0 with LEGS 2, PLAYER 3 at 1 with LEGS 1: 50 + 8 + 1.
        due.is("13: a PLACE is empty then", x.best(1, 0, 2000, 0, 0), 59);
        due.is("13: one comes in, one goes", x.best(1, 0, 2000, 0, 1), 29);
        due.is("13: both are empty", x.best(1, 0, 0, 0, 0), 59);
        due.is("13: both come in", x.best(1, 0, 0, 0, 1), 29);
        due.is("13: one is left, with LEGS 0", x.best(1, 0, 2077, 0, 0), 50);
        due.is("13: hurt first", x.best(0, 0, 3000, 0, 0), 5900);
        due.is("13: nobody is spent on a hurt", x.best(0, 0, 3000, 0, 1), 0);
        Due.other(x, 1, "o40(1=1)");
        Due.law(x, "go(1=1)");
        due.is("13: against another", x.best(1, 0, 3000, 1, 0), 40);
        due.is("13: against one not told", x.best(1, 0, 3000, 0, 0), 0);
        x.pair(0, 1, 2);
        Due.law(x, "gq(1=1)");
        due.is("13: a pair", x.best(1, 0, 3000, 1, 0), 2);
        x.pair(0, 1, 5);
        due.is("13: a pair told anew", x.best(1, 0, 3000, 1, 0), 5);
        x.player(0, 9, 9, 2, 0);
        Due.law(x, "gb(1=1)");
        due.is("13: a PLAYER told anew", x.best(1, 0, 3000, 1, 0), 9);
        Due.other(x, 1, "o41(1=1)");
        Due.law(x, "go(1=1)");
        due.is("13: another told anew", x.best(1, 0, 3000, 1, 0), 41);
    }

    // Promise 14.
    private void by() {
        ThreeToSend x = team();
        x.match(2, 3, 2);
        x.worth(3, 1, 2);
        due.is("14: not told", x.by(0, 0, 0, 3000, 0, 0), -1);
        Due.law(x, "gb(1=1);a10(1=1);h20(p=0)");
        Due.rule(x, 0, "c3(t=1)");
        // PERIOD 0: 3 a goal, 10 one let in, 20 the one at 0 is hurt, 67 nothing.
        // PERIOD 1, PLAYER 3 at 0: 9 a goal, 10 one let in, 81 else.
        long won = 3 * 90 + 10 * 0 + 87 * 9;
        long lost = 3 * 0 + 10 * 91 + 87 * 10;
        long drawn = 3 * 10 + 10 * 9 + 87 * 81;
        due.is("14: all of it", won + drawn + lost, 10000);
        due.is("14: won", x.by(0, 0, 0, 3000, 0, 1), won);
        due.is("14: drawn", x.by(0, 0, 0, 3000, 0, 2), drawn);
        due.is("14: lost", x.by(0, 0, 0, 3000, 0, 3), lost);
        due.is("14: VALUE", x.by(0, 0, 0, 3000, 0, 0), 3 * won + drawn + 2 * lost);
        due.is("14: from a STATE on", x.by(0, 1, 1, 3000, 0, 1), 90);
        Due.law(x, "h1(t=0);g50*e+10*y(t=1)");
        due.is("14: hurt, one in a hundred each", x.by(0, 0, 0, 3000, 0, 1), 50);
        Due.rule(x, 3, "c2(t=0)");
        Due.law(x, "gm*10(t=1)");
        due.is("14: LEGS of one who came on", x.by(3, 0, 0, 3000, 0, 1), 1000);
        Due.law(x, "gb(1=1);a10(1=1);h20(p=0)");
        due.is("14: WORTH told anew", x.worth(1, 0, 0), true);
        due.is("14: VALUE then", x.by(0, 0, 0, 3000, 0, 0), won);
        int[][] none = {{-1, 0, 0, 3000, 0, 0}, {4, 0, 0, 3000, 0, 0}, {1, 0, 0, 3000, 0, 0}, {0, -1, 0, 3000, 0, 0},
            {0, 3, 0, 3000, 0, 0}, {0, 0, -3, 3000, 0, 0}, {0, 0, 3, 3000, 0, 0}, {0, 0, 0, 3001, 0, 0},
            {0, 0, 0, 3000, -1, 0}, {0, 0, 0, 3000, 3, 0}, {0, 0, 0, 3000, 0, -1}, {0, 0, 0, 3000, 0, 4}};
        for (int[] w : none) {
            due.is("14: no such ones", x.by(w[0], w[1], w[2], w[3], w[4], w[5]), -1);
        }
        byBehindTheLastPeriod();
    }

    private void byBehindTheLastPeriod() {
        for (int n = 1; n <= 5; n++) {
            ThreeToSend x = team();
            x.match(n, 2, 2);
            x.worth(700, 50, 3);
            Due.law(x, "g100(s<0);a100(s>0)");
            due.is("14: behind the last, not told", x.by(2, n, 0, 3000, 0, 0), -1);
            Due.rule(x, 2, "c1(1=1)");
            for (int score = -2; score <= 2; score++) {
                for (int code : new int[] {3000, 0, 2007, 770, 41, 1005}) {
                    String state = "14: behind the last of " + n + ", by " + score + ", " + code + ": ";
                    due.is(state + "VALUE", x.by(2, n, score, code, 1, 0), score > 0 ? 700 : score == 0 ? 50 : 3);
                    due.is(state + "won", x.by(2, n, score, code, 1, 1), score > 0 ? 1 : 0);
                    due.is(state + "drawn", x.by(2, n, score, code, 1, 2), score == 0 ? 1 : 0);
                    due.is(state + "lost", x.by(2, n, score, code, 1, 3), score < 0 ? 1 : 0);
                    due.is(state + "as BEST", x.by(2, n, score, code, 1, 0), x.best(n, score, code, 1, 0));
                    due.is(state + "says", x.says(2, n, score, code, 1), NONE);
                }
            }
            int[][] none = {{-1, n, 0, 3000, 0, 0}, {4, n, 0, 3000, 0, 0}, {1, n, 0, 3000, 0, 0},
                {2, n + 1, 0, 3000, 0, 0}, {2, n, -3, 3000, 0, 0}, {2, n, 3, 3000, 0, 0}, {2, n, 0, 777, 0, 0},
                {2, n, 0, 3001, 0, 0}, {2, n, 0, -1, 0, 0}, {2, n, 0, 4000, 0, 0}, {2, n, 0, 3000, -1, 0},
                {2, n, 0, 3000, 3, 0}, {2, n, 0, 3000, 0, -1}, {2, n, 0, 3000, 0, 4}};
            for (int[] w : none) {
                due.is("14: no such ones behind the last", x.by(w[0], w[1], w[2], w[3], w[4], w[5]), -1);
            }
        }
    }

    // Promise 15.
    private void says() {
        ThreeToSend x = team();
        x.pair(0, 1, 6);
        Due.other(x, 2, "o3(1=1)");
        due.is("15: not told", x.says(0, 0, 0, 3000, 0), NONE);
        Due.rule(x, 0, "c1(t=0&s=0-2);c2(t=1&s=1);c5+e(e>0);c3(o=3);c0(1=1)");
        due.is("15: the first", x.says(0, 0, -2, 3000, 0), 1);
        due.is("15: the second", x.says(0, 1, 1, 3000, 0), 2);
        due.is("15: by who is there", x.says(0, 2, 0, 2000, 0), 6);
        due.is("15: by the OTHER", x.says(0, 2, 0, 3000, 2), 3);
        due.is("15: none", x.says(0, 2, 0, 3000, 0), 0);
        due.is("15: it may not be", x.says(0, 0, -2, 3007, 0), 0);
        Due.rule(x, 1, "c100(t=0);c0-1(t=1);c22(t=2);c1/0(1=1);c1(1=1)");
        for (int period = 0; period < 4; period++) {
            due.is("15: no ACTION " + period, x.says(1, period, 0, 3000, 0), 0);
        }
        Due.rule(x, 1, "c29(b*1000+f*100+l*10+m=3410&q=6&n=4);c37(u=3);c1(x+y+p+k+j>0)");
        due.is("15: all letters", x.says(1, 1, 0, 3000, 0), 29);
        due.is("15: u", x.says(1, 0, 0, 3000, 0), 37);
        due.is("15: x, y, p, k, j are 0", x.says(1, 0, 0, 3007, 0), 0);
        Due.rule(x, 1, "c5(u=2);c3(u=1)");
        due.is("15: u behind one", x.says(1, 0, 0, 3007, 0), 5);
        due.is("15: u behind two", x.says(1, 0, 0, 3707, 0), 3);
        int[][] none = {{-1, 0, 0, 3000, 0}, {4, 0, 0, 3000, 0}, {2, 0, 0, 3000, 0}, {0, -1, 0, 3000, 0},
            {0, 4, 0, 3000, 0}, {0, 0, -3, 3000, 0}, {0, 0, 3, 3000, 0}, {0, 0, 0, 8, 0}, {0, 0, 0, 3000, -1},
            {0, 0, 0, 3000, 3}};
        for (int[] w : none) {
            due.is("15: no such ones", x.says(w[0], w[1], w[2], w[3], w[4]), NONE);
        }
    }

    // Promise 16.
    private void edge() {
        ThreeToSend x = team();
        x.worth(1, 0, 0);
        // A change is worth something from PERIOD 2 on alone, and at SCORE 0 alone.
        Due.law(x, "g20*x(t>1&s=0)");
        due.is("16: by 0", x.edge(0, 0), 2);
        due.is("16: by 1", x.edge(1, 0), -2);
        due.is("16: by -2", x.edge(-2, 0), -2);
        Due.law(x, "gm(1=1)");
        // m is 2, 0, 0, 0: who goes on in front loses LEGS, so the fresh one comes on when PLAYER 1 is tired.
        due.is("16: by LEGS", x.edge(0, 0), 1);
        due.is("16: no such SCORE", x.edge(3, 0), NONE);
        due.is("16: nor below", x.edge(-3, 0), NONE);
        due.is("16: no such OTHER", x.edge(0, 3), NONE);
        due.is("16: nor below 0", x.edge(0, -1), NONE);
        Due.law(x, "gb(1=1)");
        due.is("16: at once", x.edge(0, 0), 0);
        Due.law(x, "gb*o(1=1)");
        Due.other(x, 1, "o1(t=3)");
        due.is("16: by the OTHER", x.edge(0, 1), 3);
        due.is("16: of one not told", x.edge(0, 0), -2);
    }

    // Promises 17 to 19.
    private void keptTogetherSlower() {
        ThreeToSend x = team();
        x.match(1, 3, 2);
        x.worth(1, 0, 0);
        Due.law(x, "gb+f(1=1)");
        // Two changes: PLAYER 3 (9) and PLAYER 4 (8); one: PLAYER 3 and PLAYER 1 (4); none: 3 + 4.
        due.is("17: a third changes nothing", x.kept(0), 0);
        due.is("18: two at once", x.together(0), 17 - 13);
        x.match(1, 2, 2);
        due.is("17: the second", x.kept(0), 17 - 13);
        x.match(1, 1, 2);
        due.is("17: the first", x.kept(0), 13 - 7);
        due.is("18: one in all", x.together(0), 0);
        x.match(1, 2, 1);
        due.is("17: one at once", x.kept(0), 0);
        Due.law(x, "gb+f+9*y(1=1)");
        due.is("18: whatever M is", x.together(0), 17 - 13);
        x.match(1, 0, 1);
        due.is("17: C is 0", x.kept(0), -1);
        due.is("18: C is 0", x.together(0), 0);
        x.match(1, 1, 1);
        Due.law(x, "gu*10(1=1)");
        due.is("17: u is less", x.kept(0), 10);
        for (int other : new int[] {-1, 3}) {
            due.is("17: no such OTHER", x.kept(other), -1);
            due.is("18: no such OTHER", x.together(other), -1);
            due.is("19: no such OTHER", x.slower(other), NO_PACE);
        }
        x.match(2, 0, 1);
        Due.law(x, "gl*10+m-y(1=1)");
        // PACE 0: l 2, 1 and m 2, 0: 22, then 10. PACE 1: LOSS 0 and 1: l 2, 2 and m 2, 1, less 1: 21, then 20.
        due.is("19: slower", x.slower(0), 21 * 100 + 79 * 20 - (22 * 100 + 78 * 10));
        due.is("19: all else is with 0", x.best(0, 0, 3000, 0, 0), 22 * 100 + 78 * 10);
        Due.law(x, "g50-10*y(1=1)");
        due.is("19: it may be less", x.slower(0), 40 * 100 + 60 * 40 - (50 * 100 + 50 * 50));
        Due.other(x, 1, "o9(1=1)");
        x.match(1, 1, 1);
        Due.law(x, "go*u+y*o*3(1=1)");
        due.is("17: by the OTHER", x.kept(1), 9);
        due.is("19: by the OTHER", x.slower(1), 27);
        due.is("19: by one not told", x.slower(0), 0);
    }

    /** One PERIOD, won alone counts; RULE k sends on nobody, 1 or 2, and the chances stand in a table. */
    private static ThreeToSend table(int... g) {
        ThreeToSend x = new ThreeToSend();
        x.match(1, 1, 1);
        x.worth(1, 0, 0);
        x.player(2, 1, 2, 0, 0);
        Due.law(x, "g" + g[0] + "(o=1&b+f=0);g" + g[1] + "(o=2&b+f=0);g" + g[2] + "(o=1&b=1);g" + g[3] + "(o=2&b=1);g"
                + g[4] + "(o=1&f=2);g" + g[5] + "(o=2&f=2)");
        return x;
    }

    // Promise 20.
    private void game() {
        ThreeToSend x = table(40, 20, 10, 30, 5, 6);
        due.is("20: none is told", x.game(0), -1);
        Due.rule(x, 1, "c0(1=1)");
        due.is("20: no OTHER is told", x.game(0) + x.game(1) + x.game(2) + x.game(3), -4);
        Due.other(x, 0, "o1(1=1)");
        due.is("20: one against one", x.game(0), 40);
        due.is("20: its RULE", x.game(1), 1);
        due.is("20: HIGH of it", x.game(2), 40);
        due.is("20: its OTHER", x.game(3), 0);
        Due.other(x, 2, "o2(1=1)");
        Due.rule(x, 2, "c1(1=1)");
        due.is("20: LOW", x.game(0), 20);
        due.is("20: RULE of LOW", x.game(1), 1);
        due.is("20: HIGH", x.game(2), 30);
        due.is("20: OTHER of HIGH", x.game(3), 2);
        Due.rule(x, 0, "c0(1=1)");
        due.is("20: of like RULES the lowest", x.game(1), 0);
        Due.other(x, 1, "o2(1=1)");
        due.is("20: of like OTHERS the lowest", x.game(3), 1);
        Due.rule(x, 0, "c2(1=1)");
        due.is("20: a RULE told anew", x.game(1), 1);
        due.is("20: no such what", x.game(-1), -1);
        due.is("20: nor 4", x.game(4), -1);
        x.worth(0, 0, 0);
        due.is("20: LOW of 0", x.game(0), 0);
        due.is("20: its first RULE", x.game(1), 0);
        due.is("20: HIGH of 0", x.game(2), 0);
        due.is("20: its first OTHER", x.game(3), 0);
        ThreeToSend first = table(40, 20, 10, 30, 5, 6);
        Due.rule(first, 0, "c0(1=1)");
        Due.other(first, 0, "o1(1=1)");
        due.is("20: RULE 0 alone", first.game(0), 40);
        due.is("20: RULE 0 alone, HIGH", first.game(2), 40);
        ThreeToSend last = table(40, 20, 10, 30, 0, 6);
        Due.rule(last, 3, "c2(1=1)");
        Due.other(last, 1, "o2(1=1)");
        Due.other(last, 2, "o1(1=1)");
        due.is("20: the last, LOW", last.game(0), 0);
        due.is("20: the last RULE", last.game(1), 3);
        due.is("20: the last, HIGH", last.game(2), 0);
        due.is("20: the last OTHER", last.game(3), 2);
        ThreeToSend y = table(1, 1, 1, 1, 1, 1);
        Due.other(y, 0, "o1(1=1)");
        due.is("20: no RULE is told", y.game(0) + y.game(1) + y.game(2) + y.game(3), -4);
    }

    private static ThreeToSend twoByTwo(int... g) {
        ThreeToSend x = table(g[0], g[1], g[2], g[3], 0, 0);
        Due.rule(x, 0, "c0(1=1)");
        Due.rule(x, 3, "c1(1=1)");
        Due.other(x, 1, "o1(1=1)");
        Due.other(x, 2, "o2(1=1)");
        return x;
    }

    private void mixed(ThreeToSend x, long low, long above, long below) {
        int[][] ways = {{0, 3, 1, 2}, {3, 0, 1, 2}, {0, 3, 2, 1}, {3, 0, 2, 1}};
        for (int[] w : ways) {
            due.is("21: LOW", x.mixed(w[0], w[1], w[2], w[3], 0), low);
            due.is("21: above", x.mixed(w[0], w[1], w[2], w[3], 1), above);
            due.is("21: below", x.mixed(w[0], w[1], w[2], w[3], 2), below);
        }
    }

    // Promise 21.
    private void mixed() {
        mixed(twoByTwo(40, 20, 10, 30), 20, 5, 1);
        // (7 * 9 - 2 * 3) / 11 = 57 / 11, less 3.
        mixed(twoByTwo(7, 2, 3, 9), 3, 24, 11);
        // LOW is HIGH: 20.
        mixed(twoByTwo(40, 20, 30, 10), 20, 0, 1);
        mixed(twoByTwo(5, 5, 5, 5), 5, 0, 1);
        mixed(twoByTwo(40, 20, 10, 5), 20, 0, 1);
        mixed(twoByTwo(10, 20, 5, 40), 10, 0, 1);
        mixed(twoByTwo(0, 100, 100, 0), 0, 50, 1);
        ThreeToSend x = twoByTwo(40, 20, 10, 30);
        int[][] none = {{0, 0, 1, 2, 0}, {0, 3, 1, 1, 0}, {0, 1, 1, 2, 0}, {0, 3, 0, 2, 0}, {-1, 3, 1, 2, 0},
            {0, 4, 1, 2, 0}, {4, 0, 1, 2, 0}, {0, 3, 3, 1, 0}, {0, 3, -1, 2, 0}, {0, 3, 1, 3, 0}, {0, 3, 1, 2, -1}, {0, 3, 1, 2, 3}};
        for (int[] w : none) {
            due.is("21: no such ones", x.mixed(w[0], w[1], w[2], w[3], w[4]), -1);
        }
        // 100 to the fifth, times WORTH: 10000000000 is too far, 2000000000 is not.
        ThreeToSend far = new ThreeToSend();
        far.match(5, 1, 1);
        far.player(2, 1, 0, 0, 0);
        Due.law(far, "g20(t=0&o=1&b=1);g20(t=0&o=2&b=0)");
        Due.rule(far, 0, "c0(1=1)");
        Due.rule(far, 1, "c1(1=1)");
        Due.other(far, 0, "o1(1=1)");
        Due.other(far, 1, "o2(1=1)");
        far.worth(1, 0, 0);
        due.is("21: as far as may be, LOW", far.mixed(0, 1, 0, 1, 0), 0);
        due.is("21: as far as may be", far.mixed(0, 1, 0, 1, 1), 1000000000L);
        due.is("21: over 1", far.mixed(0, 1, 0, 1, 2), 1);
        far.worth(2, 0, 0);
        for (int what = 0; what < 3; what++) {
            due.is("21: too far", far.mixed(0, 1, 0, 1, what), -2);
        }
        // One of the four alone is far from the others, each in its turn.
        String[] alone = {"g20(t=0&o=1&b=1)", "g20(t=0&o=2&b=1)", "g20(t=0&o=1&b=0)", "g20(t=0&o=2&b=0)"};
        for (String law : alone) {
            Due.law(far, law);
            due.is("21: one is too far", far.mixed(0, 1, 0, 1, 0), -2);
        }
        String[] low = {"g0(t=0&o=1&b=1)", "g0(t=0&o=2&b=1)", "g0(t=0&o=1&b=0)", "g0(t=0&o=2&b=0)"};
        for (String law : low) {
            Due.law(far, law + ";g20(t=0)");
            due.is("21: one is too far below", far.mixed(0, 1, 0, 1, 0), -2);
        }
        Due.law(far, "g40(1=1)");
        due.is("21: far from 0, but not from one another", far.mixed(0, 1, 0, 1, 1), 0);
        due.is("21: no such what, though far", far.mixed(0, 1, 0, 1, 3), -1);
    }

    private void logged(ThreeToSend x, int i, int... want) {
        for (int what = 0; what < 4; what++) {
            due.is("24: " + i + " " + what, x.logged(i, what), want[what]);
        }
    }

    // Promises 22 to 24.
    private void happensUndoLogged() {
        ThreeToSend x = team();
        due.is("23: it has none", x.undo(), NONE);
        logged(x, 0, 3000, 0, -1, -1);
        due.is("24: none yet", x.logged(1, 0), -1000);
        due.is("22: it may not be", x.happens(7, 0), NONE);
        due.is("22: no such ACTION", x.happens(49, 0) + x.happens(-1, 0), 2 * NONE);
        due.is("22: nothing like that", x.happens(0, 5) + x.happens(0, -1), 2 * NONE);
        due.is("22: one", x.happens(23, 1), 1);
        // PLAYER 2 at 1 with LEGS 2, LOSS 1; PLAYER 3 at 0 with LEGS 1, LOSS 0.
        logged(x, 1, 25, 1, 23, 1);
        due.is("22: two", x.happens(0, 3), 2);
        logged(x, 2, 74, 1, 0, 3);
        due.is("22: nobody is at 0", x.happens(0, 3), NONE);
        due.is("22: who has been on", x.happens(1, 0), NONE);
        due.is("22: three", x.happens(5, 1), 3);
        logged(x, 3, 174, 2, 5, 1);
        due.is("22: hurt at 1", x.happens(0, 4), 4);
        logged(x, 4, 177, 2, 0, 4);
        due.is("22: it has n", x.happens(0, 0), NONE);
        due.is("23: undone", x.undo(), 3);
        due.is("24: gone", x.logged(4, 0), -1000);
        due.is("22: a goal at 2", x.happens(0, 1), 4);
        due.is("22: stays at 2", x.logged(4, 1), 2);
        for (int i = 3; i >= 0; i--) {
            due.is("23: undone to " + i, x.undo(), i);
        }
        due.is("23: nothing left", x.undo(), NONE);
        for (int i = 1; i <= 3; i++) {
            x.happens(0, 2);
        }
        logged(x, 3, 3000, -2, 0, 2);
        due.is("22: hurt in front", x.happens(0, 4), 4);
        due.is("24: PLAYER 1 is off", x.logged(4, 0), 1000);
        due.is("24: no such what", x.logged(1, 4), -1000);
        due.is("24: nor below 0", x.logged(1, -1), -1000);
        due.is("24: no such PERIOD", x.logged(-1, 0), -1000);
        due.is("24: nor behind them", x.logged(5, 0), -1000);
        x.match(1, 1, 1);
        due.is("22: the first of one", x.happens(0, 3), 1);
        due.is("24: PLAYER 0 is off", x.logged(1, 0), 2000);
    }

    // Promises 25 and 26.
    private void wrongWorst() {
        ThreeToSend x = team();
        x.match(3, 3, 2);
        x.worth(1, 0, 0);
        Due.law(x, "g10*x(1=1)");
        due.is("26: the LOG is empty", x.worst(0, 0), -1);
        x.happens(0, 0);
        x.happens(0, 0);
        x.happens(3, 0);
        due.is("25: two would be better", x.wrong(2, 0), (20 - 10) * 10000);
        long atOne = x.best(1, 0, 3000, 0, 0);
        due.is("25: VALUE in 1", atOne, 20 * 100 + 80 * 10);
        due.is("25: none in 1", x.wrong(1, 0), (atOne - 100 * 20) * 100);
        long atNone = x.best(0, 0, 3000, 0, 0);
        due.is("25: none in 0", x.wrong(0, 0), atNone - 100 * atOne);
        due.is("25: three in three", atNone, 20 * 10000 + 80 * 1000);
        due.is("26: the worst", x.worst(0, 0), 2);
        due.is("26: how wrong", x.worst(0, 1), 100000);
        x.undo();
        due.is("26: behind the undone one", x.worst(0, 0), 1);
        due.is("25: no such PERIOD", x.wrong(2, 0), -1);
        due.is("25: nor below 0", x.wrong(-1, 0), -1);
        due.is("25: no such OTHER", x.wrong(0, 3), -1);
        due.is("25: nor one below 0", x.wrong(0, -1), -1);
        due.is("26: no such OTHER", x.worst(3, 0) + x.worst(-1, 0), -2);
        due.is("26: no such what", x.worst(0, 2) + x.worst(0, -1), -2);
        Due.law(x, "g1(1=1)");
        due.is("25: nothing is wrong", x.wrong(0, 0) + x.wrong(1, 0), 0);
        due.is("26: the first of like ones", x.worst(0, 0), 0);
        due.is("26: nothing is wrong", x.worst(0, 1), 0);
        Due.law(x, "go*x(1=1)");
        Due.other(x, 2, "o5(1=1)");
        due.is("26: by the OTHER", x.worst(2, 0), 1);
        due.is("26: by one not told", x.worst(1, 0), 0);
    }

    // Promises 27 and 28.
    private void seedDraw() {
        ThreeToSend x = team();
        x.match(3, 3, 2);
        due.is("28: not told", x.draw(0, 0), -1000);
        Due.rule(x, 0, "c3(t=1);c6(t=2)");
        Due.law(x, "g30(1=1);a30(1=1);h20+p(1=1)");
        int state = 1;
        int score = 0;
        x.draw(0, 0);
        for (int i = 1; i <= 3; i++) {
            state = (25173 * state + 13849) % 65536;
            int r = state % 100;
            int event = r < 30 ? 1 : r < 60 ? 2 : r < 80 ? 3 : 4;
            score += event == 1 ? 1 : event == 2 ? -1 : 0;
            due.is("28: what happened in " + i, x.logged(i, 3), event);
            due.is("28: SCORE in " + i, x.logged(i, 1), score);
            due.is("28: ACTION in " + i, x.logged(i, 2), i == 2 ? 3 : i == 3 ? 6 : 0);
        }
        due.is("28: X", x.count(3), state);
        due.is("28: it becomes the LOG", x.count(6), 3);
        x.draw(0, 0);
        for (int i = 1; i <= 3; i++) {
            state = (25173 * state + 13849) % 65536;
        }
        due.is("28: X goes on", x.count(3), state);
        due.is("28: no such ones", x.draw(-1, 0) + x.draw(4, 0) + x.draw(0, -1) + x.draw(0, 3), -4000);
        due.is("28: nothing is drawn then", x.count(3), state);
        due.is("27: the least", x.seed(0), true);
        due.is("27: X", x.count(3), 0);
        due.is("27: the most", x.seed(65535), true);
        due.is("27: X then", x.count(3), 65535);
        due.is("27: no such number", x.seed(-1) || x.seed(65536), false);
        due.is("27: X stays", x.count(3), 65535);
        due.is("27: the LOG stays", x.count(6), 3);
        bounds();
        Due.law(x, "g100-100*y(1=1)");
        due.is("28: the SCORE", x.draw(0, 1), 2);
        Due.other(x, 1, "o100(1=1)");
        Due.law(x, "ao+1(1=1)");
        due.is("28: against the OTHER", x.draw(0, 1), -2);
    }

    /** By SEED 0 X is 13849: 49 hundredths. */
    private void bounds() {
        String[] laws = {"g50(1=1)", "g49(1=1)", "g49(1=1);a1(1=1)", "a49(1=1);h1(1=1)", "h49(p=0);h1(1=1)",
            "g40(1=1);a5(1=1);h4(p=0)"};
        int[] events = {1, 0, 2, 3, 4, 0};
        for (int i = 0; i < laws.length; i++) {
            ThreeToSend x = new ThreeToSend();
            x.match(1, 0, 1);
            Due.rule(x, 2, "c0(1=1)");
            Due.law(x, laws[i]);
            x.seed(0);
            x.draw(2, 0);
            due.is("28: X by SEED 0", x.count(3), 13849);
            due.is("28: " + laws[i], x.logged(1, 3), events[i]);
        }
    }

    // Promises 29 and 30.
    private void freshSeason() {
        ThreeToSend x = team();
        // In WEEK 0: 9 at 0 and 8 at 1, all FRESH by 3: 51.
        due.is("30: one WEEK", x.season(1, NONE), 51);
        due.is("30: who plays", x.season(1, 0), 5 * 3 + 4);
        // Then FRESH by 2: 34; PLAYER 3 with PLAYER 2: 18 + 18 = 36.
        due.is("30: two WEEKS", x.season(2, NONE), 87);
        due.is("30: the least row", x.season(2, 0), 5 * 3 + 2);
        due.is("30: then", x.season(2, 1), 5 * 3 + 4);
        x.pair(2, 4, 9);
        due.is("30: a pair: 15 + 24 + 9 and 27 + 16", x.season(2, NONE), 91);
        due.is("30: its first row", x.season(2, 0), 5 * 2 + 4);
        due.is("30: nothing in a WEEK beyond", x.season(2, 2), NONE);
        due.is("30: no such what", x.season(2, -2), NONE);
        due.is("30: no such WEEKS", x.season(0, NONE) + x.season(9, NONE) + x.season(-1, NONE), 3 * NONE);
        due.is("29: told", x.fresh(3, 0), true);
        due.is("30: one is not FRESH: 15 + 24 + 9", x.season(1, NONE), 48);
        due.is("29: the most", x.fresh(3, 3), true);
        due.is("30: FRESH again", x.season(1, NONE), 51);
        due.is("29: no such ones", x.fresh(-1, 1) || x.fresh(5, 1) || x.fresh(3, -1) || x.fresh(3, 4), false);
        due.is("29: that changes nothing", x.season(1, NONE), 51);
        ThreeToSend most = new ThreeToSend();
        for (int i = 0; i < 5; i++) {
            most.player(i, 9, 9, 0, 0);
            for (int j = 0; j < i; j++) {
                most.pair(i, j, 9);
            }
        }
        due.is("30: the most of one", most.season(1, NONE), 63);
        due.is("30: of two", most.season(2, NONE), 126);
        int worth = most.season(8, NONE);
        due.is("30: of eight", worth > 7 * 54 && worth <= 8 * 63, true);
        due.is("30: of eight again", most.season(8, NONE), worth);
        due.is("30: of seven again", most.season(7, NONE), most.season(7, NONE));
        ThreeToSend turns = new ThreeToSend();
        turns.player(0, 9, 0, 0, 0);
        turns.player(1, 8, 0, 0, 0);
        turns.player(2, 0, 9, 0, 0);
        turns.player(3, 0, 8, 0, 0);
        int[] rows = {2, 8, 2, 8, 2, 8, 2, 8};
        for (int weeks = 1; weeks <= 8; weeks++) {
            due.is("30: in turns", turns.season(weeks, NONE), (weeks + 1) / 2 * 54 + weeks / 2 * 48);
            for (int week = 0; week < weeks; week++) {
                due.is("30: row " + week + " of " + weeks, turns.season(weeks, week), rows[week]);
            }
        }
        ThreeToSend tired = new ThreeToSend();
        tired.player(0, 9, 0, 0, 0);
        tired.fresh(0, 0);
        due.is("30: not below 0", tired.season(1, NONE), 0);
        // He rests a WEEK and plays by 1, or rests for three and plays by 3.
        due.is("30: he rests", tired.season(2, NONE), 9);
        due.is("30: all rest but two", tired.season(2, 0), 5 + 2);
        due.is("30: then he plays", tired.season(2, 1), 1);
        due.is("30: he rests longer: 1, 2 or 3 at last", tired.season(4, NONE), 27);
    }

    private static int check(ThreeToSend x, int n, int... numbers) {
        for (int i = 0; i < numbers.length; i += 5) {
            int[] five = java.util.Arrays.copyOfRange(numbers, i, i + 5);
            x.feed(five[0], five[1], five[2], five[3], five[4]);
        }
        return x.check(n);
    }

    // Promise 31.
    private void check() {
        ThreeToSend x = team();
        due.is("31: nothing is right", x.check(0), NONE);
        due.is("31: beyond the LOG", check(x, 1, 3000, 0), 0);
        due.is("31: empty then", x.count(5), 0);
        x.happens(0, 2);
        x.happens(1, 2);
        due.is("31: all are lacking", x.check(0), 0);
        due.is("31: right", check(x, 2, 3000, -1, 2002, -2), NONE);
        due.is("31: empty behind a right one", x.count(5), 0);
        due.is("31: the first", check(x, 2, 3001, -1, 2002, -2), 0);
        due.is("31: the second", check(x, 2, 3000, 0, 0, 0), 1);
        due.is("31: the third", check(x, 2, 3000, -1, 2003, 0), 2);
        due.is("31: the fourth", check(x, 2, 3000, -1, 2002, 254), 3);
        due.is("31: some are lacking", check(x, 1, 3000, -1), 2);
        due.is("31: one too many", check(x, 3, 3000, -1, 2002, -2, 2001, -2), 4);
        due.is("31: not so many", check(x, 3, 3000, -1, 2002), -2);
        due.is("31: the tape stays", x.count(5), 20);
        due.is("31: below 0", x.check(-1), -2);
        due.is("31: far too many", x.check(Integer.MAX_VALUE) + x.check(1 << 29) + x.check(1 << 28), -6);
        due.is("31: it stays still", x.count(5), 20);
        due.is("31: none of it", x.check(0), 0);
        x.match(5, 0, 1);
        for (int i = 0; i < 5; i++) {
            x.happens(0, 0);
        }
        due.is("31: forty bytes", check(x, 5, 3000, 0, 3000, 0, 3000, 0, 3000, 0, 3000, 0), NONE);
        for (int i = 0; i < 11; i++) {
            x.feed(3000, 0, 3000, 0, 3000);
        }
        due.is("31: more than the tape can have", x.check(28), -2);
        due.is("31: as many as the tape can have", x.check(27), 5);
        due.is("31: empty behind none of it", x.count(5), 0);
    }

    // Promise 32.
    private void count() {
        ThreeToSend x = team();
        x.match(5, 2, 1);
        x.seed(77);
        Due.law(x, "g1(1=1);a1(1=1);h1(1=1)");
        Due.other(x, 0, twice("o1(1=1)", 4));
        Due.other(x, 2, twice("o1(1=1)", 5));
        Due.rule(x, 0, twice("c1(1=1)", 6));
        Due.rule(x, 3, twice("c1(1=1)", 7));
        x.happens(0, 0);
        x.feed(0, 0, 0, 0, 0);
        int[][] want = {{0, 5}, {1, 2}, {2, 1}, {3, 77}, {4, 3}, {5, 20}, {6, 1}, {10, 4}, {11, 0}, {12, 5}, {20, 6},
            {21, 0}, {22, 0}, {23, 7}, {30, 2}, {31, 2}, {32, 2}, {33, 1}, {34, 0}};
        for (int[] w : want) {
            due.is("32: " + w[0], x.count(w[0]), w[1]);
        }
        for (int what : new int[] {-1, 7, 8, 9, 13, 19, 24, 29, 35, 36, Integer.MAX_VALUE, Integer.MIN_VALUE}) {
            due.is("32: others", x.count(what), NONE);
        }
    }
}
