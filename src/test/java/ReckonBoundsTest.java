/** The boundaries of what TEXTS say (promises 7 to 9): numbers of 32 bits, what is REFUSED, letters, hundredths. */
public final class ReckonBoundsTest extends Named {
    public static void main(String[] args) throws ReflectiveOperationException {
        run(ReckonBoundsTest.class);
    }

    /** What E of 0 to 100 is, ahead of PERIOD 1, by -1, with all on as at first. */
    private void sum(String text, int want) {
        ThreeToSend y = team(new ThreeToSend());
        is(Due.law(y, "g" + text + "(1=1)"), 1);
        is(text, y.chance(1, -1, 3000, 0, 0, 0), want);
    }

    private void holds(String text, boolean want) {
        ThreeToSend y = team(new ThreeToSend());
        is(Due.law(y, "g1(" + text + ")"), 1);
        is(text, y.chance(1, -1, 3000, 0, 0, 0), want ? 1 : 0);
    }

    // ---- 32 bits

    void promise07_theGreatestNumberAndOneMore() {
        holds("65536*32767+65535>0", true);
        holds("65536*32767+65535+1<0", true);
        holds("65536*32767+65535+1=0-65536*32768", true);
        holds("65536*32767+65535+1=65536*32768", true);
    }

    void promise07_theLeastNumberAndOneLess() {
        holds("0-65536*32767-65535-1<0", true);
        holds("0-65536*32767-65535-2>0", true);
        holds("0-65536*32767-65535-2=65536*32767+65535", true);
    }

    void promise07_productsWrapAround() {
        holds("65536*65536=0", true);
        holds("65536*32768<0", true);
        holds("46340*46340>0", true);
        holds("46341*46341<0", true);
        sum("99999*99999%1000-400", 9);
        sum("65536*65536*5+7", 7);
    }

    void promise07_theLeastNumberIsItsOwnOpposite() {
        holds("65536*32768/[0-1]=65536*32768", true);
        holds("65536*32768*[0-1]<0", true);
        holds("0-65536*32768<0", true);
        sum("65536*32768%[0-1]+4", 4);
    }

    void promise07_quotientsGoTowardsNought() {
        sum("7/2", 3);
        sum("[0-7]/2+10", 7);
        sum("7/[0-2]+10", 7);
        sum("[0-7]/[0-2]", 3);
        sum("1/2+5", 5);
        sum("[0-1]/2+5", 5);
    }

    void promise07_restsHaveTheSignOfTheLeft() {
        sum("7%4", 3);
        sum("[0-7]%4+10", 7);
        sum("7%[0-4]+10", 13);
        sum("[0-7]%[0-4]+10", 7);
        sum("4%4+5", 5);
        sum("3%4", 3);
        sum("5%1+2", 2);
    }

    void promise07_fromTheLeftOn() {
        sum("20-5-3", 12);
        sum("20-5+3", 18);
        sum("60/6/2", 5);
        sum("60/6*2", 20);
        sum("7*3/2", 10);
        sum("17%10%4", 3);
        sum("7/2*2", 6);
        sum("2+3*4-1", 13);
        sum("20-[5-3]", 18);
        sum("60/[6/2]", 20);
    }

    void promise07_comparisonsAtTheirEdge() {
        holds("1<2", true);
        holds("2<2", false);
        holds("3<2", false);
        holds("3>2", true);
        holds("2>2", false);
        holds("1>2", false);
        holds("2=2", true);
        holds("1=2", false);
        holds("3=2", false);
        holds("0-1<0", true);
        holds("0>0-1", true);
        holds("65536*32768<65536*32767", true);
    }

    void promise07_notTurnsWhatHolds() {
        holds("!1=1", false);
        holds("!1=2", true);
        holds("!1<2", false);
        holds("!2<1", true);
        holds("!2>1", false);
        holds("!1>2", true);
        holds("!!1=1", true);
        holds("!!1=2", false);
        holds("!!!1=1", false);
        holds("!!!!!1=2", true);
        holds("!(1=1)", false);
        holds("!(1=1|1=2)", false);
        holds("!(1=1&1=2)", true);
        holds("!(!1=1)", true);
    }

    void promise07_aNotIsOfItsPieceAlone() {
        holds("!1=2&1=2", false);
        holds("!1=1|1=1", true);
        holds("!1=2&1=1", true);
        holds("1=1&!1=1", false);
        holds("1=2|!1=2", true);
    }

    void promise07_andGoesAheadOfOr() {
        holds("1=1|1=1&1=2", true);
        holds("1=2&1=1|1=1", true);
        holds("(1=1|1=1)&1=2", false);
        holds("1=2&(1=1|1=1)", false);
        holds("1=2|1=2|1=1", true);
        holds("1=2|1=2|1=2", false);
        holds("1=1&1=1&1=2", false);
        holds("1=1&1=1&1=1", true);
        holds("1=1&1=2|1=1&1=1", true);
    }

    void promise07_asManyNumbersWaitAsMayBe() {
        sum("90-1*[80-1*[70-1*[60-1*[50-1*[40-1*[30-1*2]]]]]]", 58);
        holds("80-1*[70-1*[60-1*[50-1*[40-1*[30-1*2]]]]]=32", true);
        holds("32+0*1=80-1*[70-1*[60-1*[50-1*[40-1*[30-1*2]]]]]", true);
        holds("1=2|(1=1&!(!(32=80-48)))", true);
        holds("1=1&(1=1&(1=1&(1=1&(1=1&(1=1&32=80-48)))))", true);
    }

    // ---- what is divided by 0

    void promise07_aNumberDividedByNoughtIsNought() {
        sum("50+1/0", 0);
        sum("50+1%0", 0);
        sum("50+0/0", 0);
        sum("50+0*[1/0]", 0);
        sum("50+[t-1-0]*[5/[t-1]]", 0);
        sum("50+5/[t-2]", 45);
    }

    void promise07_aNumberDividedByNoughtIsOfTheFirstClauseThatHolds() {
        Due.law(x, "g1/0(1=1);g5(1=1)");
        is(x.chance(0, 0, 3000, 0, 0, 0), 0);
        Due.law(x, "g7(1=2);g1/0(1=1);g5(1=1)");
        is(x.chance(0, 0, 3000, 0, 0, 0), 0);
    }

    void promise07_aConditionDividedByNoughtDoesNotHold() {
        holds("1/0=1", false);
        holds("1%0=1", false);
        holds("1/0=0", false);
        holds("1=1/0", false);
        holds("1/0<9", false);
        holds("0*[1/0]=0", false);
        holds("1/0=1/0", false);
    }

    void promise07_throughNotBracketAndOr() {
        holds("!1/0=1", false);
        holds("!!1/0=1", false);
        holds("!(1/0=1)", false);
        holds("(1/0=1)", false);
        holds("1/0=1|1=1", false);
        holds("(1/0=1)|1=1", false);
        holds("((1=2|1%0=1))|1=1", false);
        holds("1=1&1/0=1|1=1", false);
        holds("!(1=1&1/0=1)|1=1", false);
    }

    void promise07_whatIsRefusedLeavesNothingBehind() {
        Due.law(x, "g1(1+2*[3+4*[5+6/0]]=1);g9+8*[7+6*[5+4/0]](t=0);g90-1*[80-1*[70-1*[60-1*[50-1*[40-1*[30-2]]]]]](1=1)");
        for (int turn = 0; turn < 60; turn++) {
            is(x.chance(0, 0, 3000, 0, 0, 0), 0);
            is(x.chance(1, 0, 3000, 0, 0, 0), 58);
        }
    }

    void promise07_theNextClauseIsAskedThen() {
        Due.law(x, "g1(1/0=1);g5(1=1);g6(1=1)");
        is(x.chance(0, 0, 3000, 0, 0, 0), 5);
        Due.rule(x, 0, "c1(1/0=1);c5(1=1)");
        is(x.says(0, 0, 0, 3000, 0), 5);
        Due.other(x, 0, "o1(1/0=1);o9(1=1)");
        Due.law(x, "go(1=1)");
        is(x.chance(0, 0, 3000, 0, 0, 0), 9);
    }

    void promise07_onlyAsMuchIsAskedAsMatters() {
        holds("1=1|1/0=1", true);
        holds("1=2&1/0=1|1=1", true);
        holds("1=2&1/0=1", false);
        holds("!(1=2&1/0=1)", true);
        holds("(1=1|1%0=1)&2=2", true);
        holds("1=2|1=1|1/0=1", true);
        holds("1=2&1=1&1/0=1|1=1", true);
        holds("1=2&(1=1|1/0=1)|2=2", true);
        holds("(1=1|1/0=1)|1/0=1", true);
        holds("!(1=1|1/0=1)|2=2", true);
        holds("1=2|1/0=1", false);
        holds("1=1|1=2&1/0=1", true);
    }

    void promise07_whatIsDividedByNoughtBesideDoesNotMatter() {
        Due.law(x, "g5(1=1);g1/0(1/0=1);a1/0(1=1);h7(1/0=1);h3(1=1)");
        is(x.chance(0, 0, 3000, 0, 0, 0), 5);
        is(x.chance(0, 0, 3000, 0, 0, 1), 0);
        is(x.chance(0, 0, 3000, 0, 0, 2), 3);
    }

    // ---- which CLAUSE

    void promise07_theFirstClauseThatHolds() {
        Due.law(x, "g1(t=0);g2(t<2);g3(1=1);g4(1=1)");
        is(x.chance(0, 0, 3000, 0, 0, 0), 1);
        is(x.chance(1, 0, 3000, 0, 0, 0), 2);
        is(x.chance(2, 0, 3000, 0, 0, 0), 3);
        is(x.chance(3, 0, 3000, 0, 0, 0), 3);
    }

    void promise07_clausesOfAnotherLetterAreNotAsked() {
        Due.law(x, "a1(1=1);h2(1=1);g3(1=1)");
        is(x.chance(0, 0, 3000, 0, 0, 0), 3);
        is(x.chance(0, 0, 3000, 0, 0, 1), 1);
        is(x.chance(0, 0, 3000, 0, 0, 2), 2);
        is(x.chance(0, 0, 3000, 0, 0, 3), 2);
    }

    void promise07_noneThatHoldsIsNought() {
        Due.law(x, "g9(1=2);a9(1=2);h9(1=2)");
        for (int what = 0; what < 4; what++) {
            is(x.chance(0, 0, 3000, 0, 0, what), 0);
        }
        is(x.chance(0, 0, 3000, 0, 0, 4), 100);
    }

    // ---- hundredths

    private void shares(String law, int code, int... want) {
        Due.law(x, law);
        for (int what = 0; what < 5; what++) {
            is(law + " " + what, x.chance(0, 0, code, 0, 0, what), want[what]);
        }
    }

    void promise07_aGoalFromNoughtToAHundred() {
        shares("g0(1=1)", 3000, 0, 0, 0, 0, 100);
        shares("g0-1(1=1)", 3000, 0, 0, 0, 0, 100);
        shares("g1(1=1)", 3000, 1, 0, 0, 0, 99);
        shares("g99(1=1)", 3000, 99, 0, 0, 0, 1);
        shares("g100(1=1)", 3000, 100, 0, 0, 0, 0);
        shares("g101(1=1)", 3000, 100, 0, 0, 0, 0);
        shares("g99999(1=1)", 3000, 100, 0, 0, 0, 0);
        shares("g65536*32768(1=1)", 3000, 0, 0, 0, 0, 100);
        shares("g65536*32767(1=1)", 3000, 100, 0, 0, 0, 0);
    }

    void promise07_oneLetInToWhatIsLeft() {
        shares("g60(1=1);a0-1(1=1)", 3000, 60, 0, 0, 0, 40);
        shares("g60(1=1);a39(1=1)", 3000, 60, 39, 0, 0, 1);
        shares("g60(1=1);a40(1=1)", 3000, 60, 40, 0, 0, 0);
        shares("g60(1=1);a41(1=1)", 3000, 60, 40, 0, 0, 0);
        shares("g100(1=1);a1(1=1)", 3000, 100, 0, 0, 0, 0);
        shares("g0-5(1=1);a100(1=1)", 3000, 0, 100, 0, 0, 0);
        shares("g0-5(1=1);a101(1=1)", 3000, 0, 100, 0, 0, 0);
    }

    void promise07_aHurtAtTheBackToWhatIsLeft() {
        shares("g30(1=1);a30(1=1);h0-1(p=0)", 3000, 30, 30, 0, 0, 40);
        shares("g30(1=1);a30(1=1);h39(p=0)", 3000, 30, 30, 39, 0, 1);
        shares("g30(1=1);a30(1=1);h40(p=0)", 3000, 30, 30, 40, 0, 0);
        shares("g30(1=1);a30(1=1);h41(p=0)", 3000, 30, 30, 40, 0, 0);
        shares("g30(1=1);a70(1=1);h1(p=0)", 3000, 30, 70, 0, 0, 0);
        shares("h100(p=0)", 3000, 0, 0, 100, 0, 0);
        shares("h101(p=0)", 3000, 0, 0, 100, 0, 0);
    }

    void promise07_aHurtInFrontToWhatIsLeftThen() {
        shares("g30(1=1);a30(1=1);h10(p=0);h0-1(p=1)", 3000, 30, 30, 10, 0, 30);
        shares("g30(1=1);a30(1=1);h10(p=0);h29(p=1)", 3000, 30, 30, 10, 29, 1);
        shares("g30(1=1);a30(1=1);h10(p=0);h30(p=1)", 3000, 30, 30, 10, 30, 0);
        shares("g30(1=1);a30(1=1);h10(p=0);h31(p=1)", 3000, 30, 30, 10, 30, 0);
        shares("g30(1=1);a30(1=1);h40(p=0);h1(p=1)", 3000, 30, 30, 40, 0, 0);
        shares("h100(p=1)", 3000, 0, 0, 0, 100, 0);
        shares("h101(p=1)", 3000, 0, 0, 0, 100, 0);
    }

    void promise07_aHurtIsAskedOnlyIfSomebodyIsThere() {
        shares("h60(1=1)", 3000, 0, 0, 60, 40, 0);
        shares("h60(1=1)", 2000, 0, 0, 0, 60, 40);
        shares("h60(1=1)", 1000, 0, 0, 60, 0, 40);
        shares("h60(1=1)", 0, 0, 0, 0, 0, 100);
        shares("h60(1=1)", 1, 0, 0, 60, 0, 40);
        shares("h60(1=1)", 6, 0, 0, 0, 60, 40);
        shares("h60(1=1)", 41, 0, 0, 60, 40, 0);
        shares("h60(1=1)", 2007, 0, 0, 0, 60, 40);
    }

    // ---- letters

    /** A letter of a TEXT for THE LAW: asked in g, so that 0 to 100 comes out. */
    private void letter(String text, int period, int score, int code, int action, int want) {
        Due.law(x, "g" + text + "(1=1)");
        is(text, x.chance(period, score, code, action, 0, 0), want);
    }

    void promise07_thePeriodAndHowManyThereAre() {
        for (int n = 1; n <= 5; n++) {
            x.match(n, 3, 2);
            letter("t", 0, 0, 3000, 0, 0);
            letter("t", n - 1, 0, 3000, 0, n - 1);
            letter("n", 0, 0, 3000, 0, n);
            letter("n", n - 1, 0, 3000, 0, n);
        }
    }

    void promise07_theScoreFromTwoBelowToTwoAbove() {
        for (int score = -2; score <= 2; score++) {
            letter("s+2", 0, score, 3000, 0, score + 2);
        }
    }

    void promise07_howGoodIsNoughtIfNobodyIsThere() {
        team(x);
        letter("b", 0, 0, 3000, 0, 3);
        letter("b", 0, 0, 2000, 0, 0);
        letter("f", 0, 0, 3000, 0, 4);
        letter("f", 0, 0, 1000, 0, 0);
        letter("l", 0, 0, 3000, 0, 2);
        letter("l", 0, 0, 2000, 0, 0);
        letter("m", 0, 0, 3000, 0, 2);
        letter("m", 0, 0, 1000, 0, 0);
        letter("b+f+l+m", 0, 0, 0, 0, 0);
    }

    void promise07_howManyPlacesAreEmpty() {
        letter("e", 0, 0, 3000, 0, 0);
        letter("e", 0, 0, 2000, 0, 1);
        letter("e", 0, 0, 1000, 0, 1);
        letter("e", 0, 0, 0, 0, 2);
        letter("e", 0, 0, 777, 0, 2);
        letter("e", 0, 0, 41, 0, 0);
        letter("e", 0, 0, 2000, 1, 0);
        letter("e", 0, 0, 0, 29, 0);
    }

    void promise07_changesMadeNowAndLeft() {
        letter("x", 0, 0, 3000, 0, 0);
        letter("x", 0, 0, 3000, 6, 1);
        letter("x", 0, 0, 3000, 45, 2);
        letter("x", 0, 0, 3077, 5, 1);
        letter("x", 0, 0, 3777, 0, 0);
        letter("u", 0, 0, 3000, 0, 3);
        letter("u", 0, 0, 3000, 1, 2);
        letter("u", 0, 0, 3000, 23, 1);
        letter("u", 0, 0, 3007, 45, 0);
        letter("u", 0, 0, 3777, 0, 0);
        x.match(4, 0, 1);
        letter("u", 0, 0, 3000, 0, 0);
        x.match(4, 1, 2);
        letter("u", 0, 0, 3000, 0, 1);
        letter("u", 0, 0, 3000, 1, 0);
    }

    void promise07_noPairIfOneIsLacking() {
        for (int one = 0; one < 5; one++) {
            for (int two = 0; two < one; two++) {
                x.pair(one, two, 9);
            }
        }
        letter("q", 0, 0, 3000, 0, 9);
        letter("q", 0, 0, 41, 0, 9);
        for (int code : new int[] {2000, 1000, 0, 1, 4, 10, 40, 100, 400, 777}) {
            letter("q", 0, 0, code, 0, 0);
        }
    }

    void promise07_legsGoNoDeeperThanNought() {
        x.match(5, 3, 2);
        x.player(0, 0, 0, 2, 1);
        x.player(1, 0, 0, 2, 2);
        int[] back = {2, 1, 0, 0, 0};
        int[] front = {2, 0, 0, 0, 0};
        for (int period = 0; period < 5; period++) {
            letter("l", period, 0, 3000, 0, back[period]);
            letter("m", period, 0, 3000, 0, front[period]);
        }
        x.player(0, 0, 0, 1, 2);
        x.player(1, 0, 0, 0, 2);
        letter("l", 0, 0, 3000, 0, 1);
        letter("l", 1, 0, 3000, 0, 0);
        letter("m+5", 4, 0, 3000, 0, 5);
        x.player(0, 0, 0, 2, 0);
        letter("l", 4, 0, 3000, 0, 2);
    }

    void promise07_legsOfWhoCameOnAreOfTheCode() {
        team(x);
        for (int legs = 0; legs <= 2; legs++) {
            for (int period = 0; period < 4; period++) {
                letter("l*10+m", period, 0, 2001 + legs, 0, 10 * legs + (period == 0 ? 2 : 0));
                letter("l", period, 0, 2010 + 10 * legs, 0, legs);
                letter("l", period, 0, 2100 + 100 * legs, 0, legs);
                letter("m", period, 0, 1004 + legs, 0, legs);
                letter("m", period, 0, 1040 + 10 * legs, 0, legs);
                letter("m", period, 0, 1400 + 100 * legs, 0, legs);
            }
        }
    }

    void promise07_whoComesOnHasHisLegsOfTheFirst() {
        team(x);
        letter("l", 3, 0, 3000, 1, 2);
        letter("l", 3, 0, 3000, 3, 1);
        letter("l", 3, 0, 3000, 5, 0);
        letter("m", 3, 0, 3000, 2, 2);
        letter("m", 3, 0, 3000, 4, 1);
        letter("m", 3, 0, 3000, 6, 0);
    }

    void promise07_aHurtKnowsPlacePlayerAndLegs() {
        team(x);
        Due.law(x, "h1+p*50+k*10+j(1=1)");
        is(x.chance(0, 0, 3000, 0, 0, 2), 1 + 2);
        is(x.chance(0, 0, 3000, 0, 0, 3), 51 + 10 + 2);
        is(x.chance(1, 0, 3000, 0, 0, 2), 1 + 1);
        is(x.chance(1, 0, 3000, 0, 0, 3), 51 + 10);
        is(x.chance(0, 0, 3000, 1, 0, 2), 1 + 20 + 2);
        is(x.chance(0, 0, 3000, 3, 0, 2), 1 + 30 + 1);
        is(x.chance(0, 0, 3000, 5, 0, 2), 1 + 40);
        is(x.chance(0, 0, 3000, 2, 0, 3), 51 + 20 + 2);
        is(x.chance(0, 0, 3000, 4, 0, 3), 51 + 30 + 1);
        is(x.chance(0, 0, 3000, 6, 0, 3), 51 + 40);
        Due.law(x, "h9(k=0&p=0&j=2);h8(k=1&p=1&j=2)");
        is(x.chance(0, 0, 3000, 0, 0, 2), 9);
        is(x.chance(0, 0, 3000, 0, 0, 3), 8);
    }

    void promise07_placePlayerAndLegsAreNoughtButInAHurt() {
        team(x);
        Due.law(x, "g7+p+k+j(p=0&k=0&j=0);a8+p+k+j(p+k+j=0);h1(1=1)");
        for (int turn = 0; turn < 2; turn++) {
            for (int code : new int[] {3000, 2003, 41, 1004}) {
                is(x.chance(0, 0, code, 0, 0, 0), 7);
                is(x.chance(0, 0, code, 0, 0, 1), 8);
            }
        }
    }

    void promise07_thePaceIsNoughtBehindAllButSlower() {
        x.match(1, 3, 2);
        x.worth(1, 0, 0);
        Due.law(x, "g10+50*y(1=1)");
        is(x.slower(0), 50);
        is(x.chance(0, 0, 3000, 0, 0, 0), 10);
        is(x.best(0, 0, 3000, 0, 0), 10);
        Due.rule(x, 0, "c0(1=1)");
        is(x.by(0, 0, 0, 3000, 0, 0), 10);
        is(x.slower(0), 50);
        is(x.kept(0), 0);
        is(x.together(0), 0);
    }

    // ---- 8, how strong the OTHERS are

    private void strong(String text, int want) {
        is(Due.other(x, 0, "o" + text + "(1=1)"), 1);
        Due.law(x, "go(1=1)");
        is(text, x.chance(1, -1, 3000, 0, 0, 0), want);
    }

    void promise08_strongFromNoughtToNinetyNine() {
        strong("0", 0);
        strong("1", 1);
        strong("98", 98);
        strong("99", 99);
        strong("100", 99);
        strong("99999", 99);
        strong("65536*32767", 99);
        strong("1/0", 0);
    }

    void promise08_notBelowNought() {
        Due.law(x, "g50+o(1=1)");
        for (String text : new String[] {"0", "0-1", "0-99", "65536*32768"}) {
            Due.other(x, 0, "o" + text + "(1=1)");
            is(text, x.chance(1, -1, 3000, 0, 0, 0), 50);
        }
    }

    void promise08_anOtherNotToldIsNought() {
        Due.law(x, "g50+o(1=1)");
        Due.other(x, 1, "o9(1=1)");
        is(x.chance(0, 0, 3000, 0, 0, 0), 50);
        is(x.chance(0, 0, 3000, 0, 1, 0), 59);
        is(x.chance(0, 0, 3000, 0, 2, 0), 50);
        Due.other(x, 1, "o9(1=2)");
        is(x.chance(0, 0, 3000, 0, 1, 0), 50);
    }

    void promise08_anOtherKnowsThePeriodAndTheScore() {
        strong("t", 1);
        strong("n", 4);
        strong("s+5", 4);
        Due.other(x, 0, "o10(s=0-2);o20(s=2);o30(t=0);o40(t=n-1);o50(1=1)");
        is(x.chance(0, -2, 3000, 0, 0, 0), 10);
        is(x.chance(3, 2, 3000, 0, 0, 0), 20);
        is(x.chance(0, 0, 3000, 0, 0, 0), 30);
        is(x.chance(3, 1, 3000, 0, 0, 0), 40);
        is(x.chance(2, -1, 3000, 0, 0, 0), 50);
    }

    void promise08_allElseIsNoughtInAnOther() {
        team(x);
        x.pair(0, 1, 9);
        Due.law(x, "g50+o*y+o(1=1);h10(1=1)");
        for (char letter : "bflmexuqoypkj".toCharArray()) {
            Due.other(x, 0, "o1+" + letter + "(" + letter + "=0)");
            for (int turn = 0; turn < 2; turn++) {
                is("o " + letter, x.chance(1, -1, 2003, 0, 0, 0), 51);
                is("o " + letter, x.chance(1, -1, 3000, 29, 0, 0), 51);
                is("o " + letter, x.chance(1, -1, 0, 0, 0, 0), 51);
            }
        }
    }

    void promise08_thePaceIsNoughtInAnOtherThoughItIsSlower() {
        x.match(1, 3, 2);
        x.worth(1, 0, 0);
        Due.other(x, 0, "o10+50*y(1=1)");
        Due.law(x, "go(1=1)");
        is(x.slower(0), 0);
    }

    // ---- 9, the RULES

    private void says(String text, int period, int score, int code, int other, int want) {
        is(Due.rule(x, 1, text), text.split(";").length);
        is(text, x.says(1, period, score, code, other), want);
    }

    void promise09_aRuleKnowsAllThatIsThere() {
        team(x);
        x.pair(0, 1, 6);
        x.pair(3, 2, 8);
        Due.other(x, 2, "o77(1=1)");
        says("c1(t=0&n=4&s=0-2)", 0, -2, 3000, 0, 1);
        says("c1(t=3&n=4&s=2)", 3, 2, 3000, 0, 1);
        says("c1(b=3&f=4&l=2&m=2&e=0&q=6)", 0, 0, 3000, 0, 1);
        says("c5(b=9&f=6&l=1&m=0&e=0&q=8)", 3, 0, 24, 0, 5);
        says("c1(b=0&f=4&l=0&m=0&e=1&q=0)", 1, 0, 2000, 0, 1);
        says("c1(e=2)", 1, 0, 0, 0, 1);
        says("c1(o=77)", 0, 0, 3000, 2, 1);
        says("c1(o=0)", 0, 0, 3000, 1, 1);
    }

    void promise09_whatIsLeftIsCountedWithoutAChange() {
        says("c1(u=3)", 0, 0, 3000, 0, 1);
        says("c3(u=2)", 0, 0, 3007, 0, 3);
        says("c5(u=1)", 0, 0, 3077, 0, 5);
        says("c0(u=0);c1(1=1)", 0, 0, 3777, 0, 0);
        x.match(4, 1, 1);
        says("c1(u=1)", 0, 0, 3000, 0, 1);
    }

    void promise09_allElseIsNoughtInARule() {
        team(x);
        Due.law(x, "h10(1=1);g3*y(1=1)");
        for (char letter : "xypkj".toCharArray()) {
            x.chance(1, 0, 3000, 29, 0, 3);
            x.slower(0);
            says("c3(" + letter + "=0)", 1, 0, 3000, 0, 3);
            says("c3+" + letter + "(1=1)", 1, 0, 3000, 0, 3);
        }
    }

    void promise09_whatIsNoActionIsNone() {
        for (String text : new String[] {"0-1", "7", "8", "22", "24", "38", "44", "46", "47", "48", "49", "50", "99999",
            "1/0", "65536*32768", "65536*32767"}) {
            says("c" + text + "(1=1);c1(1=1)", 0, 0, 3000, 0, 0);
        }
    }

    void promise09_eachActionIsSaid() {
        for (int action : ACTIONS) {
            says("c" + action + "(1=1)", 0, 0, 3000, 0, action);
        }
    }

    void promise09_whatMayNotBeIsNone() {
        says("c1(1=1);c3(1=1)", 0, 0, 3007, 0, 0);
        says("c1(1=1);c3(1=1)", 0, 0, 2001, 0, 0);
        says("c29(1=1)", 0, 0, 3070, 0, 0);
        x.match(4, 1, 2);
        says("c29(1=1);c1(1=1)", 0, 0, 3000, 0, 0);
        says("c3(1=1)", 0, 0, 3007, 0, 0);
        x.match(4, 3, 1);
        says("c29(1=1);c1(1=1)", 0, 0, 3000, 0, 0);
        x.match(4, 0, 1);
        says("c1(1=1)", 0, 0, 3000, 0, 0);
    }
}
