/** Boundary sentences of promise 5: the text of a RULE, what its words mean, and what rule() changes. */
public final class EdgesOfRulesTest {
    private EdgesOfRulesTest() {
    }

    public static void main(String[] args) {
        Edges.run(EdgesOfRulesTest.class);
    }

    private static void due(int got, int want) {
        Edges.due(got, want);
    }

    private static void due(boolean got, boolean want) {
        Edges.due(got, want);
    }

    // ---- what it changes --------------------------------------------------------------------------

    @Edges.Says("`int rule()`: The TAPE, which is empty then,")
    private static void p05_theTapeIsEmptyThen() {
        DownOnly x = new DownOnly();
        Texts.tell(x, "wait");
        due(x.rule(), 0);
        due(x.count(10), 0);
        due(x.end(1), -1);
        due(x.feed(0, 0, 0, 0, 0), 20);
    }

    @Edges.Says("`int rule()`: The TAPE, which is empty then,")
    private static void p05_theTapeIsEmptyWithAFaultToo() {
        DownOnly x = new DownOnly();
        Texts.tell(x, "take 24");
        due(x.rule(), Edges.fault(5, 1));
        due(x.count(10), 0);
        due(x.rule(), Edges.fault(0, 0));
        due(x.feed(0, 0, 0, 0, 0), 20);
    }

    @Edges.Says("is a RULE: its number;")
    private static void p05_itsNumberInTheOrderTold() {
        DownOnly x = Edges.told("room 1;room 0;flight 0 1 5;person 0");
        due(Texts.rule(x, "wait"), 0);
        due(Texts.rule(x, "take 0"), 1);
        due(Texts.rule(x, "ride"), 2);
        due(x.count(3), 3);
        x.tick(0, 1);
        due(x.person(0, 0), 0);
        x.tick(2, 1);
        due(x.person(0, 0), 0);
        x.tick(1, 1);
        due(x.person(0, 0), -1);
    }

    @Edges.Says("-2 - its FAULT;")
    private static void p05_withAFaultThereIsNoRuleMore() {
        DownOnly x = Edges.told("room 1;room 0;flight 0 1 5;person 0", "wait");
        due(Texts.rule(x, "take 0;take 24"), Edges.fault(12, 1));
        due(x.count(3), 1);
        due(x.tick(1, 1), -1);
        due(x.tick(0, 1), 1);
        due(x.person(0, 0), 0);
        due(Texts.rule(x, "take 0"), 1);
        x.tick(1, 1);
        due(x.person(0, 0), -1);
    }

    @Edges.Says("-2 - its FAULT;")
    private static void p05_nothingOfAFaultyTextStays() {
        DownOnly x = Edges.told("room 1;room 0;flight 0 1 5;person 0");
        for (int k = 0; k < 6; k++) {
            due(Texts.rule(x, "take 0;wait if " + Edges.times("1", 58, "+") + "=1;x"), Edges.fault(133, 0));
        }
        due(Texts.rule(x, "wait if now=0;take 0 if now=1"), 0);
        x.tick(0, 1);
        due(x.person(0, 0), 0);
        x.tick(0, 1);
        due(x.person(0, 4), 6);
    }

    @Edges.Says("-2 - its FAULT;")
    private static void p05_withAFaultAllElseStays() {
        DownOnly x = Edges.told("room 3;room 1;flight 0 1 5;hoist 10 1 30;person 1", "wait");
        x.tick(0, 3);
        x.rider(9);
        Edges.refused(x, y -> Texts.rule(y, "wait if"), Edges.fault(7, 0));
    }

    @Edges.Says("RULES 0 to 5:")
    private static void p05_rules0To5() {
        DownOnly x = new DownOnly();
        for (int k = 0; k < 6; k++) {
            due(x.tick(k, 1), -1);
            due(Texts.rule(x, "wait"), k);
            due(x.tick(k, 1), k + 1);
        }
        due(x.tick(6, 1), -1);
        due(x.count(3), 6);
    }

    @Edges.Says("NONE, and nothing happens: there are 6.")
    private static void p05_noneIfThereAre6() {
        DownOnly x = Edges.told("room 1;room 0;flight 0 1 5;person 0", "wait", "wait", "wait", "wait", "wait", "wait");
        Texts.tell(x, "room 7");
        due(x.rule(), -1);
        due(x.count(3), 6);
        due(x.count(10), 6);
        due(x.house(), 1);
        due(x.room(0, 0), 7);
    }

    @Edges.Says("NONE, and nothing happens: there are 6.")
    private static void p05_noneIfThereAre6WhateverTheTapeHas() {
        DownOnly x = Edges.told("room 1;room 0;flight 0 1 5;person 0", "wait", "wait", "wait", "wait", "wait", "wait");
        due(x.rule(), -1);
        Texts.tell(x, "take 0");
        due(x.rule(), -1);
        due(x.rule(), -1);
        due(x.count(10), 6);
        for (int k = 0; k < 6; k++) {
            x.tick(k, 1);
        }
        due(x.person(0, 0), 0);
    }

    @Edges.Says("(these stay).")
    private static void p05_rulesStayWithAnotherHouse() {
        DownOnly x = Edges.told("room 1;room 0;flight 0 1 5;person 0", "take 0");
        Texts.house(x, "room 3;room 2;flight 0 1 7;person 0");
        due(x.count(3), 1);
        x.tick(0, 1);
        due(x.person(0, 4), 7);
    }

    // ---- its text ---------------------------------------------------------------------------------

    @Edges.Says("texts likewise,")
    private static void p05_aTextOf400Bytes() {
        Edges.ruleIs("wait" + " ".repeat(396));
        Edges.ruleIs(" ".repeat(396) + "wait");
        Edges.ruleFault(" ".repeat(399) + "^x", 0);
        Edges.ruleFault(" ".repeat(400) + "^", 0);
        Edges.ruleFault(" ".repeat(395) + "wait;^", 0);
    }

    @Edges.Says("texts likewise,")
    private static void p05_aClauseBetweenAnyTwoSigns() {
        Edges.ruleFault("^;wait", 0);
        Edges.ruleFault("wait;^;wait", 0);
        Edges.ruleFault("wait;^", 0);
        Edges.ruleFault("wait ^wait", 0);
        Edges.ruleFault("wait^,wait", 0);
        Edges.ruleFault("wait if 1=1 ^wait", 0);
    }

    @Edges.Says("12 CLAUSES at most:")
    private static void p05_12ClausesAtMost() {
        Edges.ruleIs(Edges.times("wait", 12, ";"));
        Edges.ruleIs(Edges.times("take 1 if 1=1", 12, ";"));
        Edges.ruleFault(Edges.times("wait", 12, ";") + ";^wait", 4);
        Edges.ruleFault(Edges.times("ride if 1=1", 12, ";") + "; ^ride", 4);
        Edges.ruleFault(Edges.times("wait", 12, ";") + ";^take 24", 4);
    }

    @Edges.Says("12 CLAUSES at most:")
    private static void p05_theTwelfthClauseCounts() {
        DownOnly x = Edges.told("room 1;room 0;flight 0 1 5;person 0", Edges.times("ride", 11, ";") + ";take 0",
                Edges.times("ride", 11, ";") + ";take 0 if now=1");
        due(x.ahead(0, 0), 0);
        x.tick(1, 1);
        due(x.person(0, 0), 0);
        x.tick(1, 1);
        due(x.person(0, 4), 6);
    }

    @Edges.Says("take NUMBER [ if TEST ] (a WAY 0 to 23)")
    private static void p05_takeAWay0To23() {
        Edges.ruleIs("take 0");
        Edges.ruleIs("take 23");
        Edges.ruleIs("take 23 if 1=1");
        Edges.ruleFault("take ^24", 1);
        Edges.ruleFault("take ^99999", 1);
        Edges.ruleFault("take^", 0);
        Edges.ruleFault("take ^if 1=1", 0);
        Edges.ruleFault("take ^now", 0);
        Edges.ruleFault("take 0 ^0", 0);
    }

    @Edges.Says("take NUMBER [ if TEST ] (a WAY 0 to 23)")
    private static void p05_takeAWayThatTheHouseHasNot() {
        DownOnly x = Edges.told("room 1;room 0;flight 0 1 5;person 0", "take 23;take 1");
        due(x.tick(0, 1), 1);
        due(x.person(0, 0), 0);
    }

    @Edges.Says("| ride [ if TEST ] | wait [ if TEST ].")
    private static void p05_rideAndWaitHaveNoNumber() {
        Edges.ruleIs("ride");
        Edges.ruleIs("wait");
        Edges.ruleIs("ride if 1=1;wait if 1=1");
        Edges.ruleFault("ride ^1", 0);
        Edges.ruleFault("wait ^1", 0);
        Edges.ruleFault("ride if^", 0);
        Edges.ruleFault("wait if ^;", 0);
        Edges.ruleFault("wait ^1=1", 0);
        Edges.ruleFault("wait if 1=1 ^if 1=1", 0);
    }

    @Edges.Says("TEST: PART { or PART }. PART: FACT { and FACT }.")
    private static void p05_aPartBehindEachOrAFactBehindEachAnd() {
        Edges.ruleIs("wait if 1=1 or 1=1 and 1=1 or 1=1");
        Edges.ruleFault("wait if 1=1 or^", 0);
        Edges.ruleFault("wait if 1=1 and^", 0);
        Edges.ruleFault("wait if ^or 1=1", 0);
        Edges.ruleFault("wait if ^and 1=1", 0);
        Edges.ruleFault("wait if 1=1 or ^and 1=1", 0);
        Edges.ruleFault("wait if 1=1 and ^or 1=1", 0);
        Edges.ruleFault("wait if 1=1 ^not 1=1", 0);
        Edges.ruleFault("wait if 1=1 ^[1=1]", 0);
    }

    @Edges.Says("TEST: PART { or PART }. PART: FACT { and FACT }.")
    private static void p05_andBindsMoreThanOr() {
        due(holds("1=1 or 1=1 and 1=2"), true);
        due(holds("1=2 and 1=2 or 1=1"), true);
        due(holds("1=2 or 1=1 and 1=2"), false);
        due(holds("1=2 or 1=2 or 1=1"), true);
        due(holds("1=1 and 1=1 and 1=2"), false);
    }

    @Edges.Says("FACT: not FACT | [ TEST ] (these brackets are signs) | SUM SIGN SUM,")
    private static void p05_aFactHasItsWholeForm() {
        Edges.ruleIs("wait if [1=1]");
        Edges.ruleIs("wait if not 1=1");
        Edges.ruleIs("wait if not not [not 1=1 or [1=1]]");
        Edges.ruleFault("wait if [1=1^", 0);
        Edges.ruleFault("wait if [1=1^;", 0);
        Edges.ruleFault("wait if [^]", 0);
        Edges.ruleFault("wait if 1=1^]", 0);
        Edges.ruleFault("wait if [1=1]^]", 0);
        Edges.ruleFault("wait if not^", 0);
        Edges.ruleFault("wait if not ^or", 0);
        Edges.ruleFault("wait if [1=1] ^= 1", 0);
        Edges.ruleFault("wait if [now^] = 1", 0);
        Edges.ruleFault("wait if 1 = ^[1=1]", 0);
        Edges.ruleFault("wait if 1 = ^not 1", 0);
        Edges.ruleFault("wait if ^(1=1)", 0);
        Edges.ruleFault("wait if 1 = 1 ^= 1", 0);
        Edges.ruleFault("wait if 1^", 0);
        Edges.ruleFault("wait if 1 ^and 1", 0);
    }

    @Edges.Says("FACT: not FACT | [ TEST ] (these brackets are signs) | SUM SIGN SUM,")
    private static void p05_notIsOfItsFactAlone() {
        due(holds("not 1=2 and 1=2"), false);
        due(holds("not 1=1 or 1=1"), true);
        due(holds("not [1=1 and 1=2]"), true);
        due(holds("not not 1=1"), true);
        due(holds("not not not 1=1"), false);
        due(holds("[1=1 or 1=1] and 1=2"), false);
    }

    @Edges.Says("SIGN one of < <= = >= >.")
    private static void p05_theSignsAtEqualAndBesideIt() {
        due(holds("1<2"), true);
        due(holds("2<2"), false);
        due(holds("2<=2"), true);
        due(holds("3<=2"), false);
        due(holds("2=2"), true);
        due(holds("1=2"), false);
        due(holds("3=2"), false);
        due(holds("2>=2"), true);
        due(holds("1>=2"), false);
        due(holds("3>2"), true);
        due(holds("2>2"), false);
    }

    @Edges.Says("SIGN one of < <= = >= >.")
    private static void p05_noOtherSign() {
        Edges.ruleFault("wait if 1 < ^= 1", 0);
        Edges.ruleFault("wait if 1 > ^= 1", 0);
        Edges.ruleFault("wait if 1 =^< 1", 0);
        Edges.ruleFault("wait if 1 =^> 1", 0);
        Edges.ruleFault("wait if 1 =^= 1", 0);
        Edges.ruleFault("wait if 1 <^> 1", 0);
        Edges.ruleFault("wait if 1 <=^= 1", 0);
        Edges.ruleFault("wait if 1 >^< 1", 0);
        Edges.ruleFault("wait if 1 ^!= 1", 0);
        Edges.ruleFault("wait if 1 ^;", 0);
    }

    @Edges.Says("SUM: TERM { (+ or -) TERM }. TERM: VALUE { (* or /) VALUE }.")
    private static void p05_aValueBehindEachReckoningSign() {
        Edges.ruleFault("wait if 1+^", 0);
        Edges.ruleFault("wait if 1*^=1", 0);
        Edges.ruleFault("wait if 1/ ^*1=1", 0);
        Edges.ruleFault("wait if 1-^-1=1", 0);
        Edges.ruleFault("wait if ^-1=1", 0);
        Edges.ruleFault("wait if ^+1=1", 0);
        Edges.ruleFault("wait if 1=1+^;", 0);
        Edges.ruleFault("wait if 1=^*1", 0);
        Edges.ruleFault("wait if 1^%1=1", 0);
    }

    @Edges.Says("SUM: TERM { (+ or -) TERM }. TERM: VALUE { (* or /) VALUE }.")
    private static void p05_termsAheadOfSumsAndFromTheLeft() {
        reckons("2+3*4", "14");
        reckons("2*3+4", "10");
        reckons("20-6/2", "17");
        reckons("9-3-2", "4");
        reckons("9-3+2", "8");
        reckons("48/4/2", "6");
        reckons("48/4*2", "24");
        reckons("7*3/2", "10");
        reckons("7/2*3", "9");
        reckons("1+2*3+3", "10");
        reckons("2*3*4", "24");
        reckons("1+2+3", "6");
        reckons("9*2-8/4+5-3*2", "15");
        reckons("5", "5");
    }

    @Edges.Says("VALUE: NUMBER (1 to 5 digits, as far as digits go on) | WORD.")
    private static void p05_aNumberHas1To5Digits() {
        due(holds("99999=100*1000-1"), true);
        due(holds("00007=7"), true);
        due(holds("0=00000"), true);
        Edges.ruleFault("wait if ^100000=1", 1);
        Edges.ruleFault("wait if ^000001=1", 1);
        Edges.ruleFault("wait if 1=^000000", 1);
        Edges.ruleFault("take ^000000", 1);
        Edges.ruleFault("wait if 1 ^1=11", 0);
        Edges.ruleFault("wait if 11=1 ^1", 0);
    }

    @Edges.Says("WORDS (small letters, as far as these go on)")
    private static void p05_aWordGoesOnAsFarAsSmallLettersDo() {
        Edges.ruleFault("^waits", 0);
        Edges.ruleFault("^wai", 0);
        Edges.ruleFault("^waita", 0);
        Edges.ruleFault("^waitz", 0);
        Edges.ruleFault("^Wait", 0);
        Edges.ruleFault("wait^X", 0);
        Edges.ruleFault("wait ^ifnow=1", 0);
        Edges.ruleFault("wait if ^nowx=1", 0);
        Edges.ruleFault("wait if ^no=1", 0);
        Edges.ruleFault("wait if ^n ow=1", 0);
        Edges.ruleFault("wait if 1=1 ^andnow=1", 0);
        Edges.ruleFault("wait if ^notnow=1", 0);
        Edges.ruleFault("wait if ^if=1", 0);
        Edges.ruleFault("wait if ^take=1", 0);
        Edges.ruleFault("wait if now^_=1", 0);
    }

    @Edges.Says("0 a byte or WORD that can't stand there,")
    private static void p05_eachLetterOfAWordCounts() {
        String[] ahead = {"", "", "", "wait ", "wait if ", "wait if 1=1 ", "wait if 1=1 "};
        String[] words = {"take", "ride", "wait", "if", "not", "and", "or"};
        String[] behind = {" 0", "", "", " 1=1", " 1=1", " 1=1", " 1=1"};
        for (int k = 0; k < words.length; k++) {
            eachLetter(ahead[k], words[k], behind[k]);
        }
        for (String word : new String[] {"now", "person", "room", "height", "here", "rode", "home", "top"}) {
            eachLetter("wait if ", word, "=1");
            eachLetter("wait if 1=", word, "");
        }
    }

    private static void eachLetter(String ahead, String word, String behind) {
        Edges.ruleIs(ahead + word + behind);
        for (int at = 0; at < word.length(); at++) {
            Edges.ruleFault(ahead + "^" + word.substring(0, at) + 'q' + word.substring(at + 1) + behind, 0);
            Edges.ruleFault(ahead + "^" + word.substring(0, at) + 'q' + word.substring(at) + behind, 0);
        }
    }

    @Edges.Says("Blanks (32) stand between as one likes.")
    private static void p05_blanksStandBetweenAsOneLikes() {
        Edges.ruleIs("take0if1=1and[not now<=1or 2*here>=top];ride;wait");
        Edges.ruleIs("  take   0   if   1  =  1   and  [  not   now  <=  1  ]  ;   wait  ");
        Edges.ruleFault("wait^\t", 0);
        Edges.ruleFault("wait^\n;wait", 0);
        Edges.ruleFault("wait^\u0000", 0);
        Edges.ruleFault("wait if^\u00a01=1", 0);
    }

    @Edges.Says("[ and not lie within one another 10 deep at most;")
    private static void p05_10DeepAtMost() {
        Edges.ruleIs("wait if " + "[".repeat(10) + "1=1" + "]".repeat(10));
        Edges.ruleIs("wait if " + "not ".repeat(10) + "1=1");
        Edges.ruleIs("wait if " + "not [".repeat(5) + "1=1" + "]".repeat(5));
        Edges.ruleFault("wait if " + "[".repeat(10) + "^[1=1", 2);
        Edges.ruleFault("wait if " + "not ".repeat(10) + "^not 1=1", 2);
        Edges.ruleFault("wait if " + "not [".repeat(5) + "^not 1=1", 2);
        Edges.ruleFault("wait if " + "[not ".repeat(5) + "^[1=1", 2);
    }

    @Edges.Says("[ and not lie within one another 10 deep at most;")
    private static void p05_notWithinOneAnotherIsNoDeeper() {
        Edges.ruleIs("wait if " + Edges.times("not 1=1", 15, " and "));
        Edges.ruleIs("wait if " + Edges.times("[1=1]", 15, "or"));
        Edges.ruleIs("wait if " + "[".repeat(9) + "not 1=1 and not 1=1 or [1=1]" + "]".repeat(9));
        Edges.ruleIs("wait if [1=1] and " + "[".repeat(10) + "1=1" + "]".repeat(10) + " or " + "not ".repeat(10) + "1=1");
        Edges.ruleIs("wait if " + "not ".repeat(10) + "1=1;wait if " + "[".repeat(10) + "1=1" + "]".repeat(10));
        Edges.ruleFault("wait if " + "[".repeat(9) + "[1=1] or [^[1=1", 2);
    }

    @Edges.Says("[ and not lie within one another 10 deep at most;")
    private static void p05_10DeepIsStillReckoned() {
        due(holdsAlone("not ".repeat(10) + "1=1"), true);
        due(holdsAlone("not ".repeat(9) + "1=1"), false);
        due(holdsAlone("[".repeat(10) + "1=1" + "]".repeat(10)), true);
        due(holdsAlone("[1=2 or ".repeat(10) + "now=0" + "]".repeat(10)), true);
        due(holdsAlone("[1=1 and ".repeat(10) + "now=1" + "]".repeat(10)), false);
    }

    @Edges.Says("at most 60 VALUES (of SUMS) and FACTS made of a SIGN, together.")
    private static void p05_60ValuesAndFactsAtMost() {
        // 58 VALUES, a SIGN, a VALUE
        Edges.ruleIs("wait if " + Edges.times("1", 58, "+") + "=1");
        Edges.ruleIs("wait if 1=" + Edges.times("1", 58, "+"));
        // 20 FACTS of two VALUES each
        Edges.ruleIs("wait if " + Edges.times("1=1", 20, " or "));
        Edges.ruleFault("wait if " + Edges.times("1", 59, "+") + "=^1", 3);
        Edges.ruleFault("wait if " + Edges.times("1", 60, "+") + "^=1", 3);
        Edges.ruleFault("wait if " + Edges.times("1", 60, "+") + "+^1=1", 3);
        Edges.ruleFault("wait if 1=" + Edges.times("1", 58, "+") + "+^1", 3);
        Edges.ruleFault("wait if " + Edges.times("1=1", 20, " or ") + " or ^1=1", 3);
    }

    @Edges.Says("at most 60 VALUES (of SUMS) and FACTS made of a SIGN, together.")
    private static void p05_the60AreOfAllClausesTogether() {
        Edges.ruleIs(Edges.times("wait if 1=1 or 1=1", 10, ";"));
        Edges.ruleFault(Edges.times("wait if 1=1 or 1=1", 10, ";") + ";ride if ^now=1", 3);
        DownOnly x = new DownOnly();
        due(Texts.rule(x, Edges.times("wait if 1=1 or 1=1", 10, ";")), 0);
        due(Texts.rule(x, Edges.times("wait if 1=1 or 1=1", 10, ";")), 1);
    }

    @Edges.Says("at most 60 VALUES (of SUMS) and FACTS made of a SIGN, together.")
    private static void p05_waysBracketsAndNotAreNoneOfThe60() {
        Edges.ruleIs(Edges.times("take 5 if not [1+1+1=1]", 12, ";"));
        Edges.ruleIs("take 7 if " + Edges.times("[not 1=1]", 20, "or"));
    }

    @Edges.Says("at most 60 VALUES (of SUMS) and FACTS made of a SIGN, together.")
    private static void p05_60AreStillReckoned() {
        due(holdsAlone(Edges.times("1", 58, "+") + "=58"), true);
        due(holdsAlone(Edges.times("1", 58, "+") + "=57"), false);
        due(holdsAlone("58=" + Edges.times("1", 58, "+")), true);
        due(holdsAlone("57=" + Edges.times("1", 58, "+")), false);
        due(holdsAlone(Edges.times("1=2", 19, " or ") + " or now=0"), true);
        due(holdsAlone(Edges.times("1=1", 19, " and ") + " and now=1"), false);
    }

    // ---- its FAULTS -------------------------------------------------------------------------------

    @Edges.Says("FAULTS, the first along the text,")
    private static void p05_theFirstFaultAlongTheText() {
        Edges.ruleFault("take ^24 if x", 1);
        Edges.ruleFault("wait if ^100000=x", 1);
        Edges.ruleFault("wait if " + "[".repeat(10) + "^[x", 2);
        Edges.ruleFault("wait if " + Edges.times("1", 60, "+") + "^=100000", 3);
        Edges.ruleFault(Edges.times("wait", 11, ";") + ";^x;wait;wait", 0);
    }

    @Edges.Says("1 + 8 * its place and:")
    private static void p05_aFaultIs1And8TimesItsPlace() {
        due(Texts.rule(new DownOnly(), "x"), -3);
        due(Texts.rule(new DownOnly(), "  x"), -19);
        due(Texts.rule(new DownOnly(), "take 24"), -44);
        due(Texts.rule(new DownOnly(), "wait if " + "[".repeat(11)), -149);
        due(Texts.rule(new DownOnly(), "wait if " + Edges.times("1", 61, "+")), -1030);
        due(Texts.rule(new DownOnly(), Edges.times("wait", 13, ";")), -487);
    }

    @Edges.Says("0 a byte or WORD that can't stand there,")
    private static void p05_fault0AByteOrWordThatCantStandThere() {
        Edges.ruleFault("^?", 0);
        Edges.ruleFault("^7", 0);
        Edges.ruleFault("^room 1", 0);
        Edges.ruleFault("wait ^now", 0);
        Edges.ruleFault("wait if ^;", 0);
        Edges.ruleFault("wait if now ^now", 0);
        Edges.ruleFault("wait if 1=1^\u00ff", 0);
    }

    @Edges.Says("or the end (behind the last byte;")
    private static void p05_fault0TheEndBehindTheLastByte() {
        Edges.ruleFault("^", 0);
        Edges.ruleFault("  ^", 0);
        Edges.ruleFault("take^", 0);
        Edges.ruleFault("take  ^", 0);
        Edges.ruleFault("wait;^", 0);
        Edges.ruleFault("wait if  ^", 0);
        Edges.ruleFault("wait if 1 < ^", 0);
        Edges.ruleFault("wait if [1=1 ^", 0);
    }

    @Edges.Says("2 too deep (at the sign that opens, or the word not);")
    private static void p05_fault2AtTheSignThatOpensOrTheWordNot() {
        Edges.ruleFault("wait if " + "[ ".repeat(10) + "  ^[ 1=1", 2);
        Edges.ruleFault("wait if " + "[ ".repeat(10) + "  ^not 1=1", 2);
        Edges.ruleFault("wait if " + "[".repeat(10) + "1=1 or ^[", 2);
        Edges.ruleFault("wait if " + "[".repeat(10) + "1=1 and ^not", 2);
        // a VALUE may stand there
        Edges.ruleFault("wait if " + "[".repeat(10) + "^x", 0);
        Edges.ruleFault("wait if " + "[".repeat(10) + "^nots", 0);
    }

    @Edges.Says("3 one VALUE or FACT too many (at its first byte; of a FACT at its SIGN);")
    private static void p05_fault3AtTheFirstByteOrTheSign() {
        Edges.ruleFault("wait if " + Edges.times("1", 60, "+") + " +  ^12345=1", 3);
        Edges.ruleFault("wait if " + Edges.times("1", 60, "+") + "+^height=1", 3);
        Edges.ruleFault("wait if " + Edges.times("1", 60, "+") + "  ^>= 1", 3);
        Edges.ruleFault("wait if " + Edges.times("1", 60, "+") + "^<1", 3);
    }

    @Edges.Says("4 one CLAUSE too many,")
    private static void p05_fault4AtTheFirstByteOfTheClause() {
        Edges.ruleFault(Edges.times("wait", 12, ";") + ";   ^take", 4);
        Edges.ruleFault(Edges.times("wait", 12, " ; ") + ";^ride if", 4);
    }

    @Edges.Says("Of one place the least.")
    private static void p05_ofOnePlaceTheLeastFault() {
        Edges.ruleFault(Edges.times("wait", 12, ";") + ";^x", 0);
        Edges.ruleFault(Edges.times("wait", 12, ";") + ";^", 0);
        Edges.ruleFault(Edges.times("wait", 12, ";") + ";^;", 0);
        Edges.ruleFault("wait if " + Edges.times("1", 60, "+") + "+^123456", 1);
        Edges.ruleFault("wait if " + Edges.times("1", 60, "+") + "+^x", 0);
        Edges.ruleFault("wait if " + Edges.times("1", 60, "+") + "+^", 0);
        Edges.ruleFault("wait if " + Edges.times("1", 60, "+") + "^]", 0);
        Edges.ruleFault("wait if " + Edges.times("1", 60, "+") + "+^not", 0);
        Edges.ruleFault("wait if " + Edges.times("1=1", 20, " or ") + " or " + "[".repeat(10) + "^[", 2);
    }

    // ---- what its words mean ----------------------------------------------------------------------

    /** Whether a test holds of the second person, who is in room 1 (not the TOP) at minute 0 with another. */
    private static boolean holds(String test) {
        DownOnly x = Edges.told("room 3;room 2;room 0;flight 1 2 5;person 1;person 1;person 0", "take 0 if person=1 and [" + test + "]");
        x.tick(0, 1);
        return x.person(1, 0) == -1;
    }

    /** A SUM is as much as another one, neither less nor more. */
    private static void reckons(String sum, String value) {
        due(holds(sum + "=" + value), true);
        due(holds(value + "=" + sum), true);
        due(holds(sum + "<" + value), false);
        due(holds(sum + ">" + value), false);
        due(holds(value + "<" + sum), false);
        due(holds(value + ">" + sum), false);
    }

    /** Whether a test, which may be as large as can be, holds of one alone in minute 0. */
    private static boolean holdsAlone(String test) {
        DownOnly x = Edges.told("room 3;room 2;flight 0 1 5;person 0", "take 0 if " + test);
        x.tick(0, 1);
        return x.person(0, 0) == -1;
    }

    @Edges.Says("of a PERSON who is in a ROOM: now, person, room, height,")
    private static void p05_nowFrom0To1439() {
        DownOnly x = Edges.told("room 3;room 2;flight 0 1 60;person 0", "take 0 if now=1439", "take 0 if now<1", "take 0 if now>1439");
        due(x.ahead(0, 1), 1);
        due(x.ahead(2, 0), 1);
        due(x.ahead(1, 0), 0);
        x.tick(0, 1439);
        due(x.person(0, 0), 0);
        x.tick(0, 1);
        due(x.person(0, 4), 1499);
    }

    @Edges.Says("of a PERSON who is in a ROOM: now, person, room, height,")
    private static void p05_personRoomHeightAtTheirEnds() {
        String house = "room40;room0;" + Edges.times("room5", 14, ";") + ";flight0 1 1;flight15 1 1;"
                + "person0;" + Edges.times("person15", 7, ";");
        DownOnly x = Edges.told(house, "take 0 if person=0 and room=0 and height=40;take 1 if person=7 and room=15 and height=5",
                "wait if height=0 and room=1;take 0;take 1");
        x.tick(0, 1);
        due(x.room(1, 1), 129);
        due(x.ahead(1, 0), 0);
        due(x.room(15, 1), 126);
    }

    @Edges.Says("here (PEOPLE in that ROOM, himself too),")
    private static void p05_hereHimselfToo() {
        DownOnly alone = Edges.told("room 1;room 0;flight 0 1 5;person 0", "take 0 if here=1");
        alone.tick(0, 1);
        due(alone.person(0, 0), -1);
        DownOnly eight = Edges.told("room 1;room 0;flight 0 1 5;" + Edges.times("person 0", 8, ";"), "take 0 if here=8");
        eight.tick(0, 1);
        due(eight.room(0, 1), 254);
    }

    @Edges.Says("here (PEOPLE in that ROOM, himself too),")
    private static void p05_hereNotThoseElsewhereOrOnTheWay() {
        DownOnly x = Edges.told("room 1;room 0;flight 0 1 5;person 0;person 0;person 1", "take 0 if here=2", "take 0 if here=1");
        x.go(0, 0);
        x.tick(0, 1);
        due(x.person(1, 0), 0);
        x.tick(1, 1);
        due(x.person(1, 0), -1);
    }

    @Edges.Says("rode (1 if he has ridden today, else 0),")
    private static void p05_rode1IfHeHasRiddenTodayElse0() {
        DownOnly x = Edges.told("room 1;room 0;flight 0 1 5;hoist 1 9 1;person 0;person 0", "take 0 if rode=1", "take 0 if rode=0", "wait");
        x.go(0, 24);
        x.tick(2, 1);
        x.tick(0, 1);
        due(x.person(0, 0), -1);
        due(x.person(1, 0), 0);
        x.tick(1, 1);
        due(x.person(1, 0), -1);
    }

    @Edges.Says("home (1 if it is his HOME, else 0),")
    private static void p05_home1IfItIsHisHomeElse0() {
        DownOnly x = Edges.told("room 1;room 1;passage 0 1 1;person 0;person 1", "take 0 if home=1", "take 0 if home=0", "take 0 if person=0 and home=1");
        x.tick(2, 1);
        due(x.room(1, 1), 3);
        x.tick(2, 1);
        due(x.room(1, 1), 3);
        x.tick(1, 1);
        due(x.room(0, 1), 1);
        due(x.room(1, 1), 2);
        x.tick(0, 1);
        due(x.room(0, 1), 2);
        due(x.room(1, 1), 1);
    }

    @Edges.Says("top (1 if it is the TOP, else 0).")
    private static void p05_top1IfItIsTheTopElse0() {
        DownOnly x = Edges.told("room 1;room 9;room 9;flight 1 0 1;flight 2 0 1;person 1;person 2;person 0",
                "take 0 if top=1;take 1 if top=1", "take 0 if top=0;take 1 if top=0");
        x.tick(0, 1);
        due(x.room(0, 1), 5);
        due(x.room(2, 1), 2);
        x.tick(1, 1);
        due(x.room(0, 1), 7);
    }

    @Edges.Says("/ is towards 0,")
    private static void p05_divisionIsTowards0() {
        reckons("7/2", "3");
        reckons("1/2", "0");
        reckons("6/3", "2");
        // 2 to the 63rd goes round to the least number; a third of it towards 0, three times, is 2 above it
        reckons("65536*65536*65536*32768/3*3-65536*65536*65536*32768", "2");
    }

    @Edges.Says("0 by 0;")
    private static void p05_division0By0() {
        reckons("5/0", "0");
        reckons("0/0", "0");
        reckons("5/0*7+1", "1");
        reckons("5/rode", "0");
        reckons("1+8/0", "1");
        reckons("0/5", "0");
    }

    @Edges.Says("all goes round in 64 bits.")
    private static void p05_allGoesRoundIn64Bits() {
        reckons("65536*65536*65536*65536", "0");
        reckons("65536*65536*65536*32768+65536*65536*65536*32768", "0");
        reckons("65536*65536*65536*32768-1", "65536*65536*65536*32767+65536*65536*65536-1");
        due(holds("65536*65536*65536*32768<0"), true);
        due(holds("65536*65536*65536*32768>=0"), false);
        due(holds("65536*65536*65536*32767>0"), true);
        due(holds("65536*65536*65536*32768-1>0"), true);
        due(holds("65536*65536*65536*32768-1<=0"), false);
        due(holds("0-65536*65536*65536*32768<0"), true);
        // neither 32 bits nor 63 are enough
        due(holds("65536*32768>0"), true);
        due(holds("65536*32768<=0"), false);
        due(holds("65536*65536>0"), true);
        due(holds("65536*65536=0"), false);
    }
}
