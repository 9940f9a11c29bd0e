/** Stops, matches, tails, rules, calm places, three matches. */
final class SentencesOnPlans {
    private SentencesOnPlans() { }

    // ---- promise 19

    @Says(promise = 19, sentence = "STOP: a PLACE (from now on, below DOOR)")
    static void aStopFromNowOn() {
        LitAgain x = Due.told("p001;p000;p000;p000;d02;");
        Due.is("at place 0", x.stop(), 1);
        x.go(0);
        Due.is("at place 1", x.stop(), 11);
        Due.is("all are lit by place 12", Due.told("p001;p000;p000;d24;" + Due.many(12, "m0;")).stop(), -9);
        x.go(0);
        Due.is("at the door", x.stop(), -9);
        // the LANTERN must be lit ahead of the wind at place 2
        Due.is("not later than now", Due.told("p001;p000;p000;p300;w0292;d03;m0;").stop(), 11);
        Due.is("not in the wind that was", Due.told("p301;p000;p000;p300;w0092;w0292;d03;m0;").stop(), 11);
    }

    @Says(promise = 19, sentence = "(from now on, below DOOR) and s")
    static void aStopBelowTheDoor() {
        // only behind the wind of the places 0 and 1 does a stop help
        LitAgain x = Due.told("p091;p000;p000;p000;w0062;w0162;d03;");
        Due.is("the last place below it", x.stop(), 21);
        x.set(2, 2);
        Due.is("not at it", x.stop(), -9);
        LitAgain far = Due.told("p001;p000;p000;d24;" + Due.many(23, "m0;"));
        far.light(1, 0);
        far.light(2, 0);
        Due.is("place 23", far.stop(), 231);
    }

    @Says(promise = 19, sentence = "s (1 .. 5) MINUTES that they STOP there as they come to it")
    static void aStopOf1To5Minutes() {
        Due.is("1", Due.told("p001;p000;p000;d01;").stop(), 1);
        Due.is("5", Due.told("p001;" + Due.many(6, "p000;") + "d01;").stop(), 5);
        Due.is("no 6", Due.told("p001;" + Due.many(7, "p000;") + "d01;").stop(), 5);
    }

    @Says(promise = 19, sentence = "most are LIT at the DOOR, more than without")
    static void aStopMustHelp() {
        Due.is("all are lit without", Due.told("p001;p000;d01;").stop(), -9);
        Due.is("nobody is lit with one", Due.told("p000;p000;d03;").stop(), -9);
        Due.is("nobody there", new LitAgain().stop(), -9);
        Due.is("as many with one", Due.told("p301;p600;p600;d03;").stop(), -9);
    }

    @Says(promise = 19, sentence = "of several the least s, then PLACE: 10 PLACE and s; -9")
    static void ofSeveralTheShortestStop() {
        Due.is("two minutes are no better", Due.told("p001;p000;p000;d01;").stop(), 1);
        Due.is("the first place", Due.told("p001;p000;p000;p000;p000;d03;").stop(), 1);
        Due.is("two at place 0", Due.told("p001;p000;p000;p000;p000;d02;").stop(), 2);
        // behind the wind one minute is enough, at place 0 it takes two to light the last LANTERN
        Due.is("one minute later, ahead of two at once", Due.told("p290;p391;p440;p390;w0182;d03;").stop(), 21);
    }

    // ---- promise 25

    @Says(promise = 25, sentence = "one is LIT at the beginning of a MINUTE (the m-th from now, 0 first)")
    static void theFirstMatchIsThe0th() {
        Due.is("0 and the first", Due.told("p000;p000;d01;").match(), 0);
        Due.is("0 and the last", Due.told("p600;p000;d01;").match(), 1);
        Due.is("0 and the third, most by it", Due.told("p000;p000;p000;p000;p000;d02;").match(), 2);
        LitAgain later = Due.told("p000;p000;p000;p000;d03;");
        Due.is("two minutes are enough for four", later.match(), 12);
        later.go(0);
        Due.is("from now", later.match(), 2);
    }

    @Says(promise = 25, sentence = "by which m and whom (not SMALL)")
    static void noMatchForASmallOne() {
        Due.is("small ones alone", Due.told("p600;p600;d03;").match(), -9);
        Due.is("the first who is not", Due.told("p600;p600;p000;d01;").match(), 2);
    }

    @Says(promise = 25, sentence = "most are LIT at the DOOR, more than without; of several the latest m, then the least")
    static void ofSeveralTheLatestMatch() {
        Due.is("the latest", Due.told("p000;d03;").match(), 20);
        Due.is("then the least", Due.told("p000;p600;p000;d03;").match(), 20);
        Due.is("the 23rd and 7", Due.told(Due.many(7, "p600;") + "p000;d24;").match(), 237);
        Due.is("two, not one, the latest", Due.told("p000;p600;p000;p000;d02;").match(), 12);
    }

    @Says(promise = 25, sentence = "more than without; of several the latest m, then the least: 10 m and whom; -9")
    static void aMatchMustHelp() {
        Due.is("all are lit without", Due.told("p001;p000;d01;").match(), -9);
        Due.is("it goes out at once", Due.told("p000;w0092;d01;").match(), -9);
        Due.is("no minute", Due.told("p000;d01;m0;").match(), -9);
        Due.is("nobody there", new LitAgain().match(), -9);
    }

    @Says(promise = 25, sentence = "one is LIT at the beginning of a MINUTE")
    static void aMatchIsLitAheadOfTheWind() {
        Due.is("the wind of its place blows", Due.told("p000;w0142;d02;").match(), -9);
        Due.is("it lights the next in the same minute", Due.told("p000;p000;d01;").match(), 0);
        Due.is("as all is then", Due.told("p001;p000;p000;p000;d02;").match(), 12);
        // with 0 still LIT a match for 1 would light 2, too
        Due.is("0 went out by then", Due.told("p001;p000;p000;w0042;d02;").match(), 10);
    }

    // ---- promise 26

    @Says(promise = 26, sentence = "how many of the last are to be left behind (0 .. all less 1)")
    static void theTailIs0ToAllLess1() {
        Due.is("none", Due.told("p001;d01;").tail(), 0);
        Due.is("all less 1", Due.told("p301;p600;p600;p600;p600;p600;p600;p600;d01;").tail(), 7);
        Due.is("not all", Due.told("p000;p000;d01;").tail(), 0);
    }

    @Says(promise = 26, sentence = "so that the greatest part of those who go on is LIT at the DOOR; of several the fewest")
    static void theGreatestPartNotNumber() {
        Due.is("two of two, not three of four", Due.told("p001;p000;p600;p001;d01;").tail(), 2);
        Due.is("of several the fewest", Due.told("p001;p001;p001;d01;").tail(), 0);
        Due.is("one of one, not two of three", Due.told("p301;p600;p301;p600;d01;").tail(), 3);
        Due.is("nobody lit", Due.told("p000;p000;p000;d01;").tail(), 0);
        Due.is("a lesser part, if the last stays", Due.told("p600;p001;d01;").tail(), 0);
        Due.is("lesser, if the last two stay", Due.told("p600;p001;p600;d01;").tail(), 1);
        Due.is("one of four, then of three, two, one", Due.told("p600;p600;p600;p301;d01;").tail(), 0);
        Due.is("at the door", Due.told("p001;p000;p000;d01;m0;").tail(), 1);
    }

    @Says(promise = 26, sentence = "TAIL. -3 nobody is there.")
    static void noTailOfNobody() {
        Due.refused("tail()", LitAgain::new, x -> x.tail(), -3);
        Due.is("of one", Due.told("p000;").tail(), 0);
    }

    // ---- promise 27

    @Says(promise = 27, sentence = "a STOP as long as it tells, 5 MINUTES at one PLACE at most")
    static void fiveMinutesAtOnePlaceAtMost() {
        LitAgain x = Due.told("p001;p600;p000;d01;");
        Due.is("at one place", x.rule(2, 1), 6);
        x.set(2, 2);
        Due.is("five more at the next", x.rule(2, 1), 12);
        LitAgain eight = Due.told("p001;" + Due.many(7, "p000;") + "d01;");
        Due.is("lit in six minutes", eight.rule(2, 0), 7);
        LitAgain seven = Due.told("p001;" + Due.many(5, "p000;") + "d01;");
        Due.is("as long as it tells: no fifth", seven.rule(2, 1), 6);
        Due.is("all of six", seven.rule(2, 0), 6);
        LitAgain few = Due.told("p001;p000;p000;d01;");
        Due.is("as long as it tells: two", few.rule(2, 1), 3);
    }

    @Says(promise = 27, sentence = "0 never")
    static void rule0NeverStops() {
        LitAgain x = Due.told("p001;p000;p000;p000;d02;");
        Due.is("lit", x.rule(0, 0), 3);
        Due.is("minutes", x.rule(0, 1), 2);
    }

    @Says(promise = 27, sentence = "1 while less than half are LIT, and some")
    static void rule1StopsWhileLessThanHalfAreLit() {
        Due.is("just half", Due.told("p001;p600;d01;").rule(1, 1), 1);
        Due.is("one of three", Due.told("p001;p600;p600;d01;").rule(1, 1), 6);
        Due.is("one, then two of four", Due.told("p001;p000;p000;p000;d01;").rule(1, 1), 2);
        Due.is("one, then two, then three of five", Due.told("p001;p000;p000;p000;p000;d01;").rule(1, 1), 3);
        Due.is("none", Due.told("p000;p000;p000;d01;").rule(1, 1), 1);
        Due.is("nobody there", new LitAgain().rule(1, 1), 12);
        Due.is("none, when all went out", Due.told("p001;p600;p600;w0042;d02;").rule(1, 1), 3);
    }

    @Says(promise = 27, sentence = "2 while somebody not SMALL is not LIT, and some are")
    static void rule2StopsWhileSomebodyIsNotLit() {
        Due.is("small ones do not count", Due.told("p001;p600;p600;d03;").rule(2, 1), 3);
        Due.is("one who is not small", Due.told("p001;p600;p000;d01;").rule(2, 1), 6);
        Due.is("none is lit", Due.told("p000;p000;d03;").rule(2, 1), 3);
        Due.is("all went out", Due.told("p001;p000;w0042;d02;").rule(2, 1), 3);
        Due.is("all are", Due.told("p001;p001;d03;").rule(2, 1), 3);
    }

    @Says(promise = 27, sentence = "3 while FORCE at PLACE is 2 or less and somebody not SMALL is not LIT, and some are")
    static void rule3StopsInAForceOf2OrLess() {
        LitAgain x = Due.told("p001;p600;p000;d01;");
        Due.is("0", x.rule(3, 1), 6);
        x.blows(0, 2, 2);
        Due.is("2", x.rule(3, 1), 6);
        x.blows(0, 3, 2);
        Due.is("3", x.rule(3, 1), 1);
        Due.is("at the place as it is, not the next", Due.told("p001;p600;p000;w0130;d02;").rule(3, 1), 7);
        Due.is("small ones do not count", Due.told("p001;p600;d01;").rule(3, 1), 1);
        Due.is("none is lit", Due.told("p000;p000;d01;").rule(3, 1), 1);
    }

    @Says(promise = 27, sentence = "4 as 2, but if FORCE at the next PLACE is above 5 alone")
    static void rule4StopsAheadOfAForceAbove5() {
        LitAgain x = Due.told("p001;p600;p000;d01;w0152;");
        Due.is("5 at the door", x.rule(4, 1), 1);
        x.blows(1, 6, 2);
        Due.is("6 at the door", x.rule(4, 1), 6);
        x.blows(1, 0, 2);
        x.blows(0, 9, 2);
        x.kind(0, 3, 0);
        Due.is("9 at the place itself", x.rule(4, 1), 1);
        Due.is("small ones do not count", Due.told("p001;p600;w0192;d01;").rule(4, 1), 1);
        Due.is("none is lit", Due.told("p000;p000;w0192;d01;").rule(4, 1), 1);
        Due.is("ahead of place 24", Due.told("p301;p600;p000;w2492;d24;").rule(4, 1), 29);
    }

    @Says(promise = 27, sentence = "LIT at the DOOR; MINUTES till then")
    static void rulesAtTheDoor() {
        LitAgain x = Due.told("p001;p000;p600;p000;d01;m0;");
        for (int rule = 0; rule < 5; rule++) {
            Due.is("lit by rule " + rule, x.rule(rule, 0), 2);
            Due.is("minutes by rule " + rule, x.rule(rule, 1), 0);
        }
        Due.is("the most minutes", Due.told("p001;p600;p000;d24;").rule(2, 1), 144);
    }

    @Says(promise = 27, sentence = "A RULE: LIT (what 0), MINUTES (1). -2 either.")
    static void ruleRefusesOther() {
        Due.refused("rule(5, 0)", x -> x.rule(5, 0), -2);
        Due.refused("rule(-1, 0)", x -> x.rule(-1, 0), -2);
        Due.refused("rule(0, 2)", x -> x.rule(0, 2), -2);
        Due.refused("rule(0, -1)", x -> x.rule(0, -1), -2);
        Due.refused("rule(5, 2), counted once", x -> x.rule(5, 2), -2);
    }

    // ---- promise 28

    @Says(promise = 28, sentence = "BEST RULE: most LIT, of several the fewest MINUTES, then the least.")
    static void theBestRule() {
        Due.is("nobody there", new LitAgain().best(), 0);
        Due.is("all alike", Due.told("p001;p000;d01;").best(), 0);
        Due.is("most", Due.told("p001;p000;p000;p000;p000;d01;").best(), 2);
        Due.is("in fewer minutes", Due.told("p001;p000;p000;d01;").best(), 1);
        // rule 2 stops at place 0 in a force of 4, too
        Due.is("3 in fewer minutes than 2", Due.told("p091;p000;p000;p000;w0042;d02;").best(), 3);
        // neither 3 nor 4 stops at place 0, and 3 not ahead of the storm at the door
        Due.is("4 in fewer minutes than 2", Due.told("p091;p000;p000;p000;w0042;w0132;w0292;d02;").best(), 4);
        Due.is("the least of 2 and 3", Due.told("p001;p000;p000;p000;p000;p000;d01;").best(), 2);
        Due.is("at the door", Due.told("p001;p000;p000;d01;m0;").best(), 0);
    }

    // ---- promise 43

    @Says(promise = 43, sentence = "CALM PLACES: the PLACE (from now on, below DOOR) whose FORCE, were it 0, would have most LIT at the DOOR")
    static void aCalmPlaceFromNowOnBelowTheDoor() {
        Due.is("place 0", Due.told("p001;w0042;d01;").calms(0), 0);
        Due.is("the last below the door", Due.told("p001;w0242;d03;").calms(0), 2);
        Due.is("not the door's", Due.told("p001;w0042;w0142;d02;").calms(0), -9);
        Due.is("now", Due.told("p001;m0;w0142;d02;").calms(0), 1);
        Due.is("at the door", Due.told("p001;w0192;d01;m0;").calms(0), -9);
        Due.is("one place, not two that are apart", Due.told("p001;w0042;w0242;d03;").calms(0), -9);
        Due.is("place 23", Due.told("p001;w2342;d24;").calms(0), 23);
    }

    @Says(promise = 43, sentence = "more than now, of several the first; -9")
    static void aCalmPlaceMustHelp() {
        Due.is("no wind", Due.told("p001;p000;").calms(0), -9);
        Due.is("nobody there", new LitAgain().calms(0), -9);
        Due.is("nobody lit", Due.told("p000;w0042;").calms(0), -9);
        Due.is("as many with it", Due.told("p301;p600;w0092;d02;").calms(0), -9);
        Due.is("the most", Due.told("p091;p000;p000;p000;w0042;w0142;w0242;d03;f01;").calms(0), 2);
        // were it calm at 1 or at 2, the HOODED one would come to light the LANTERN
        Due.is("the first of two", Due.told("p031;p190;p390;w0182;w0271;d03;").calms(0), 1);
    }

    @Says(promise = 43, sentence = "the pair of unlike ones (100 the lesser and the other) likewise; -9")
    static void aPairOfCalmPlaces() {
        Due.is("0 and 1", Due.told("p001;w0042;w0142;d02;").calms(1), 1);
        Due.is("22 and 23", Due.told("p001;w2242;w2342;d24;").calms(1), 2223);
        Due.is("one place below the door", Due.told("p001;w0042;d01;").calms(1), -9);
        Due.is("one in need, the first pair with it", Due.told("p001;w0142;d03;").calms(1), 1);
        Due.is("one in need, the first pair with it", Due.told("p001;w0042;d03;").calms(1), 1);
        Due.is("from now on", Due.told("p001;m0;w0142;w0242;d03;").calms(1), 102);
        Due.is("not the door's", Due.told("p001;m0;w0142;w0242;d02;").calms(1), -9);
        Due.is("nobody there", new LitAgain().calms(1), -9);
        Due.is("at the door", Due.told("p001;w0192;w0292;d01;m0;").calms(1), -9);
        Due.is("three in need", Due.told("p001;w0042;w0142;w0242;d03;").calms(1), -9);
        Due.is("three in need that are apart", Due.told("p001;w0042;w0242;w0442;d05;").calms(1), -9);
        Due.is("nobody lit", Due.told("p000;w0042;d02;").calms(1), -9);
        Due.is("the first of several with two", Due.told("p001;p001;w0142;d03;").calms(1), 1);
        // 0 and 2 leave three LIT, 1 and 2 four
        Due.is("the most", Due.told("p091;p000;p000;p000;w0042;w0142;w0242;d03;").calms(1), 102);
        Due.is("no wind", Due.told("p001;p000;").calms(1), -9);
    }

    @Says(promise = 43, sentence = "CALM PLACES: the one (what 0), the pair (1); -9. -2.")
    static void calmsRefusesOther() {
        Due.refused("calms(2)", x -> x.calms(2), -2);
        Due.refused("calms(-1)", x -> x.calms(-1), -2);
    }

    // ---- promise 52

    @Says(promise = 52, sentence = "a match is lit at three MINUTES at most (0 .. MINUTES to the DOOR less 1, each at the beginning)")
    static void matchesFromTheFirstToTheLastMinute() {
        LitAgain first = Due.told("p000;p000;w0142;d02;");
        first.kind(1, 3, 0);
        Due.is("in minute 0", first.matches(0), 0);
        LitAgain last = Due.told("p000;w2242;d24;");
        Due.is("in the last minute", last.matches(0), 23);
        Due.is("one", last.matches(-1), 1);
        Due.is("no minute is left", Due.told("p000;d01;m0;").matches(-1), -9);
        Due.is("the wind of its place blows", Due.told("p000;w0142;d02;").matches(-1), -9);
    }

    @Says(promise = 52, sentence = "each for the least number not LIT then (and not SMALL)")
    static void forTheLeastWhoIsNotLit() {
        Due.is("small ones are passed over", Due.told("p600;p000;d01;").matches(-1), 1);
        Due.is("small ones alone", Due.told("p600;p600;").matches(-1), -9);
        // the match comes to 0, who does not hold, though 1 would
        Due.is("the least, though it goes out", Due.told("p000;p300;w0042;d01;").matches(-1), -9);
        Due.is("nobody there", new LitAgain().matches(-1), -9);
        LitAgain next = Due.told("p001;p600;p300;w0192;d02;");
        Due.is("0 is lit then: the LANTERN", next.matches(-1), 1);
        Due.is("0 is lit then: the LANTERN", next.matches(0), 0);
        Due.is("both are dark then: 0, who does not hold", Due.told("p231;p290;w0290;w0362;d04;").matches(-1), -9);
    }

    @Says(promise = 52, sentence = "the fewest matches (0 .. 3) by which somebody is LIT at the DOOR; -9")
    static void fromNoMatchToThree() {
        LitAgain none = Due.told("p001;d02;");
        Due.is("none", none.matches(-1), 0);
        Due.is("none, the first", none.matches(0), -9);
        LitAgain one = Due.told("p000;d02;");
        Due.is("one", one.matches(-1), 1);
        Due.is("one, the second", one.matches(1), -9);
        LitAgain two = Due.told("p000;p600;p300;w0192;d02;");
        Due.is("two", two.matches(-1), 2);
        Due.is("two, the third", two.matches(2), -9);
        LitAgain three = Due.told("p000;p600;p000;p600;p300;w0292;d03;");
        Due.is("three", three.matches(-1), 3);
        Due.is("three, the third", three.matches(2), 2);
        Due.is("three, the fourth", three.matches(3), -9);
        three.kind(4, 0, 0);
        Due.is("three do not help", three.matches(-1), -9);
        Due.is("three do not help", three.matches(0), -9);
        LitAgain four = Due.told("p000;p600;p000;p600;p000;p600;p300;w0392;d04;");
        Due.is("four would be needed", four.matches(-1), -9);
    }

    @Says(promise = 52, sentence = "(of several the first by the first MINUTE, then the next): the i-th; -9")
    static void theFirstMinutesForThese() {
        LitAgain one = Due.told("p000;d05;");
        Due.is("one, the first minute", one.matches(0), 0);
        LitAgain two = Due.told("p000;p600;p300;w0592;d06;");
        Due.is("two", two.matches(-1), 2);
        Due.is("two, the first", two.matches(0), 0);
        Due.is("two, the next", two.matches(1), 1);
        LitAgain three = Due.told("p000;p600;p000;p600;p300;w0592;d06;");
        Due.is("three, the first", three.matches(0), 0);
        Due.is("three, the second", three.matches(1), 1);
        Due.is("three, the third", three.matches(2), 2);
        LitAgain late = Due.told("p000;p600;p000;p600;p300;w0192;w0592;d06;");
        Due.is("behind the wind, the first", late.matches(0), 2);
        Due.is("behind the wind, the second", late.matches(1), 3);
        Due.is("behind the wind, the third", late.matches(2), 4);
    }

    private static void matchesAre(String road, int... minutes) {
        LitAgain x = Due.told(road);
        Due.is(road + " matches(-1)", x.matches(-1), minutes.length);
        for (int i = 0; i < minutes.length; i++) Due.is(road + " matches(" + i + ")", x.matches(i), minutes[i]);
        Due.is(road + " matches(" + minutes.length + ")", x.matches(minutes.length), -9);
    }

    @Says(promise = 52, sentence = "each for the least number not LIT then (and not SMALL): the fewest matches (0 .. 3)")
    static void whoIsLitThenNeedsNoMatch() {
        // the LANTERN behind a SMALL one gets the match as soon as all others are lit
        matchesAre("p001;p600;p300;w0192;d02;", 0);
        matchesAre("p000;p001;p600;p300;w0292;d03;", 1);
        matchesAre("p000;p000;p001;p600;p300;w0392;d04;", 2);
        matchesAre("p001;p600;p000;p600;p300;w0292;d03;", 0, 1);
        matchesAre("p000;p001;p600;p000;p600;p300;w0392;d04;", 1, 2);
        matchesAre("p001;p600;p000;p600;p000;p600;p300;w0392;d04;", 0, 1, 2);
        matchesAre("p000;p001;p600;p000;p600;p000;p600;p300;w0492;d05;", 1, 2, 3);
    }

    @Says(promise = 52, sentence = "a match is lit at three MINUTES at most (0 .. MINUTES to the DOOR less 1")
    static void minutesOfMatchesFromNow() {
        // they are at place 2; in the wind of the places 0 and 1 nobody but the LANTERN would hold
        matchesAre("p000;p600;p300;w0092;w0192;w0592;d06;m0;m0;", 0, 1);
        matchesAre("p000;p600;p000;p600;p300;w0092;w0192;w0592;d06;m0;m0;", 0, 1, 2);
        matchesAre("p000;p000;p000;p600;p300;w0092;w0192;w0592;d06;m0;m0;l2;", 2);
        matchesAre("p000;p000;p600;p000;p600;p300;w0092;w0192;w0592;d06;m0;m0;l1;", 1, 2);
        matchesAre("p000;p000;p600;p000;p600;p000;p600;p300;w0092;w0192;w0692;d07;m0;m0;l1;", 1, 2, 3);
    }

    @Says(promise = 52, sentence = "(0 .. MINUTES to the DOOR less 1, each at the beginning)")
    static void matchesInTheLastMinutes() {
        LitAgain two = Due.told("p000;p600;p300;d24;");
        LitAgain three = Due.told("p000;p600;p000;p600;p300;d24;");
        for (int place = 0; place < 24; place++) {
            if (place != 22) two.blows(place, 9, 2);
            if (place != 21 && place != 22) three.blows(place, 9, 2);
        }
        int[] due = {2, 22, 23, -9, -9};
        for (int i = -1; i < 4; i++) Due.is("two matches, matches(" + i + ")", two.matches(i), due[i + 1]);
        int[] dueOfThree = {3, 21, 22, 23, -9};
        for (int i = -1; i < 4; i++) Due.is("three matches, matches(" + i + ")", three.matches(i), dueOfThree[i + 1]);
    }

    @Says(promise = 52, sentence = "how many (i -1; -9), the i-th MINUTE (-9). -4 below -1.")
    static void matchesRefusesBelow() {
        Due.refused("matches(-2)", x -> x.matches(-2), -4);
        Due.refused("matches(least)", x -> x.matches(Integer.MIN_VALUE), -4);
    }

    @Says(promise = 52, sentence = "-4 below -1.")
    static void matchesAboveTheThirdAreNone() {
        LitAgain x = Due.amidst();
        Due.is("matches(greatest)", x.matches(Integer.MAX_VALUE), -9);
        Due.is("matches(0)", x.matches(0), -9);
        Due.is("matches(-1)", x.matches(-1), 0);
        Due.is("not refused", x.count(14) + x.count(16), 0);
    }
}
