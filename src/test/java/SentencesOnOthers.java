/** Were the people, their order, their form, the wind or the DOOR other than they are. */
final class SentencesOnOthers {
    private SentencesOnOthers() { }

    // ---- promise 20

    @Says(promise = 20, sentence = "LOWER: who, were it LOW (FIGURE as it is), would make more LIGHT at the DOOR")
    static void theFigureStays() {
        Due.is("a LOW of 3 holds 5", Due.told("p031;w0052;d01;").lower(), 0);
        Due.is("a LOW of 0 does not", Due.told("p001;w0052;d01;").lower(), -9);
    }

    @Says(promise = 20, sentence = "would make more LIGHT at the DOOR; of several the most, then the least; -9.")
    static void moreLightTheMostTheLeast() {
        Due.is("as much light", Due.told("p101;d01;").lower(), -9);
        Due.is("less light", Due.told("p001;d01;").lower(), -9);
        Due.is("nobody", new LitAgain().lower(), -9);
        Due.is("the most", Due.told("p600;p001;p600;p000;d02;f02;").lower(), 2);
        Due.is("then the least", Due.told("p600;p001;p600;d02;f02;").lower(), 0);
        // by either both are LIT at the DOOR; but 1 leaves the TALL one's light
        Due.is("the most light, not the most people", Due.told("p491;p091;w0272;d03;").lower(), 1);
        Due.is("the last of eight", Due.told(Due.many(6, "p001;") + "p001;p600;d01;").lower(), 7);
        Due.is("no minute", Due.told("p001;p600;d01;m0;").lower(), -9);
    }

    // ---- promise 21

    @Says(promise = 21, sentence = "CHANGED: the two (10 times the lesser and the other) who are to change (KIND, FIGURE, LIT)")
    static void whatTheTwoChange() {
        // foremost, the TALL one covers the WALKER, who lights it again
        Due.is("kinds", Due.told("p001;p401;w0050;d01;").changed(), 1);
        // 5 of the NUN's figure 2 would hold, 4 of the TALL one's 0 does not
        Due.is("figures go with their kinds", Due.told("p501;p421;w0052;d01;").changed(), -9);
        Due.is("the dark one comes beside the lit one", Due.told(Due.many(5, "p600;") + "p001;p600;p000;d01;").changed(), 47);
    }

    @Says(promise = 21, sentence = "so that most are LIT at the DOOR, more than now; of several the first; -9")
    static void mostThenTheFirst() {
        Due.is("no more", Due.told("p001;p401;d01;").changed(), -9);
        Due.is("one alone", Due.told("p001;").changed(), -9);
        Due.is("nobody", new LitAgain().changed(), -9);
        Due.is("no minute", Due.told("p001;p000;d01;m0;").changed(), -9);
        Due.is("the first", Due.told("p600;p001;p600;p000;d01;").changed(), 3);
        // from the second place it lights the first, then the third; from the third all
        Due.is("not of 0", Due.told("p000;p001;p000;p000;d02;").changed(), 12);
        // 0 and 1 would do for two, 0 and 3 for three
        Due.is("the most", Due.told("p000;p600;p001;p600;p000;p000;f02;d02;").changed(), 3);
    }

    // ---- promise 22

    @Says(promise = 22, sentence = "BEST ORDER of all (6 at most)")
    static void sixAtMost() {
        Due.is("six", Due.told(Due.many(6, "p000;")).order(0), 543210);
        Due.is("one", Due.told("p001;").order(0), 0);
        Due.is("one", Due.told("p001;").order(1), 1);
        Due.refused("seven", () -> Due.told(Due.many(7, "p000;")), x -> x.order(0), -3);
        Due.refused("eight", () -> Due.told(Due.many(8, "p000;")), x -> x.order(1), -3);
        Due.refused("nobody", LitAgain::new, x -> x.order(0), -3);
    }

    @Says(promise = 22, sentence = "BEST ORDER: digits (what 0), how many (1). -2; -3 nobody, more than 6.")
    static void orderRefusesOther() {
        Due.refused("order(2)", x -> x.order(2), -2);
        Due.refused("order(-1)", x -> x.order(-1), -2);
        Due.refused("order(2) of nobody", LitAgain::new, x -> x.order(2), -2);
        Due.refused("order(2) of seven", () -> Due.told(Due.many(7, "p000;")), x -> x.order(2), -2);
    }

    @Says(promise = 22, sentence = "the first (by PEOPLE as they are now, one behind the other; as digits, the first the lowest)")
    static void theFirstOrderOfSeveral() {
        Due.is("as they are", Due.told("p001;p001;p001;p001;d01;").order(0), 3210);
        Due.is("the foremost is the lowest digit", Due.told("p000;p000;p001;d01;").order(0), 210);
        Due.is("two are lit in each order", Due.told("p000;p000;p001;d01;").order(1), 2);
        Due.is("in the middle both are lit", Due.told("p001;p000;p000;d01;f02;").order(0), 201);
        Due.is("in the middle both are lit", Due.told("p001;p000;p000;d01;f02;").order(1), 3);
        Due.is("the lit one second", Due.told("p001;p000;p000;p000;d01;f02;").order(0), 3201);
        Due.is("as they are, at the door", Due.told("p001;p000;p000;d01;m0;").order(0), 210);
        Due.is("how many, at the door", Due.told("p001;p000;p000;d01;m0;").order(1), 2);
        Due.is("the lit one second of six", Due.told("p001;" + Due.many(5, "p000;") + "d01;f02;").order(0), 543201);
        Due.is("figures go with their kinds", Due.told("p501;p421;w0052;d01;").order(1), 0);
        Due.is("all 720 alike", Due.told("p001;p011;p021;p031;p041;p051;d01;").order(0), 543210);
    }

    // ---- promise 23

    @Says(promise = 23, sentence = "LANTERN: who, were it one (LIT, too), would make most LIT at the DOOR, of several the least; how many then.")
    static void whoShouldHaveTheLantern() {
        Due.is("lit, too", Due.told("p000;w0092;d01;").lantern(1), 1);
        Due.is("of several the least", Due.told("p000;p000;p000;w0092;d01;").lantern(0), 0);
        Due.is("the most", Due.told("p000;p000;p000;w0092;d01;f02;").lantern(0), 1);
        Due.is("how many", Due.told("p000;p000;p000;w0092;d01;f02;").lantern(1), 3);
        Due.is("no more than without", Due.told("p001;p001;d01;").lantern(0), 0);
        Due.is("no more than without", Due.told("p001;p001;d01;").lantern(1), 2);
        Due.is("the last of eight", Due.told(Due.many(7, "p301;") + "p000;d01;m0;l7;").lantern(0), 7);
        Due.is("at the door", Due.told("p000;p000;d01;m0;").lantern(1), 1);
    }

    @Says(promise = 23, sentence = "LANTERN: who (what 0), how many (1). -2; -3 nobody is there.")
    static void lanternRefusesOther() {
        Due.refused("lantern(2)", x -> x.lantern(2), -2);
        Due.refused("lantern(-1)", x -> x.lantern(-1), -2);
        Due.refused("lantern(2) of nobody", LitAgain::new, x -> x.lantern(2), -2);
    }

    @Says(promise = 23, sentence = "LANTERN: who (what 0), how many (1). -2; -3 nobody is there.")
    static void lanternRefusesState() {
        Due.refused("lantern(0) of nobody", LitAgain::new, x -> x.lantern(0), -3);
        Due.refused("lantern(1) of nobody", LitAgain::new, x -> x.lantern(1), -3);
    }

    @Says(promise = 23, sentence = "LANTERN: who (what 0), how many (1). -2; -3 nobody is there.")
    static void aLanternAlone() {
        Due.is("one alone", Due.told("p000;").lantern(0), 0);
    }

    // ---- promise 24

    @Says(promise = 24, sentence = "FEWEST LANTERNS (so) by which all but SMALL ones are LIT at the DOOR: how many; the set (the least bits)")
    static void fromNoLanternToAll() {
        LitAgain none = Due.told("p001;p600;p001;d01;");
        Due.is("none, how many", none.fewest(0), 0);
        Due.is("none, the set", none.fewest(1), 0);
        Due.is("nobody there", new LitAgain().fewest(0), 0);
        Due.is("nobody there, the set", new LitAgain().fewest(1), 0);
        Due.is("small ones alone", Due.told("p600;p600;").fewest(0), 0);
        Due.is("all are lit, at the door", Due.told("p001;p600;d01;m0;").fewest(0), 0);
        LitAgain all = Due.told(Due.many(8, "p000;") + "d01;m0;");
        Due.is("all eight at the door", all.fewest(0), 8);
        Due.is("all eight at the door, the set", all.fewest(1), 255);
    }

    @Says(promise = 24, sentence = "how many; the set (the least bits); -9.")
    static void theFewestThenTheLeastBits() {
        LitAgain least = Due.told("p000;p000;w0092;d01;");
        Due.is("one of two", least.fewest(0), 1);
        Due.is("the least", least.fewest(1), 1);
        LitAgain middle = Due.told("p000;p000;p000;w0092;d01;f02;");
        Due.is("one, though 0 and 1 would do, too", middle.fewest(1), 2);
        Due.is("2 alone, though 0 and 1 have less bits", Due.told("p000;p000;p000;p000;d02;").fewest(1), 4);
        LitAgain four = Due.told("p000;p000;p000;p000;w0092;d01;f02;");
        Due.is("two", four.fewest(0), 2);
        Due.is("the least two: 0 and 2", four.fewest(1), 5);
    }

    @Says(promise = 24, sentence = "FEWEST LANTERNS: how many (what 0), the set (1); -9. -2.")
    static void fewestRefusesOther() {
        Due.refused("fewest(2)", x -> x.fewest(2), -2);
        Due.refused("fewest(-1)", x -> x.fewest(-1), -2);
    }

    // ---- promise 33

    @Says(promise = 33, sentence = "SIDES: the SIDE (0, 1, 2), were all WIND so, by which most are LIT at the DOOR; of several the least.")
    static void theBestSide() {
        Due.is("nobody", new LitAgain().sides(), 0);
        Due.is("no wind", Due.told("p001;p000;").sides(), 0);
        Due.is("all alike", Due.told("p001;w0092;d01;").sides(), 0);
        Due.is("at the door", Due.told("p001;p401;w0152;d01;m0;").sides(), 0);
        Due.is("from the front or from behind", Due.told("p401;p401;w0052;d01;").sides(), 0);
        // the TALL one covers the WALKER, who holds 2 then and lights it again
        Due.is("from the front alone", Due.told("p401;p001;w0052;d01;").sides(), 0);
        Due.is("from behind alone", Due.told("p001;p401;w0050;d01;f01;").sides(), 1);
        Due.is("at all places", Due.told("p001;p401;w0050;w0152;d02;").sides(), 1);
        Due.is("at all places, not at the first alone", Due.told("p461;p490;w0162;d02;").sides(), 0);
    }

    // ---- promise 41

    @Says(promise = 41, sentence = "the fewest (not SMALL) who, were they alone LIT now, would have all but SMALL ones LIT at the DOOR, walking: how many; the set")
    static void whoIsEnoughAtFirst() {
        LitAgain x = Due.told("p001;p000;p000;d01;f02;");
        Due.is("how many", x.atFirst(0), 1);
        Due.is("the middle one alone, not who is lit now", x.atFirst(1), 2);
        Due.is("small ones alone", Due.told("p600;p600;").atFirst(0), 0);
        Due.is("small ones alone, the set", Due.told("p600;p600;").atFirst(1), 0);
        Due.is("nobody there", new LitAgain().atFirst(1), 0);
        LitAgain all = Due.told(Due.many(8, "p000;") + "d01;m0;");
        Due.is("all at the door", all.atFirst(0), 8);
        Due.is("all at the door, the set", all.atFirst(1), 255);
        Due.is("who is lit now is not, if others are", Due.told("p001;p001;d12;").atFirst(0), 1);
        Due.is("a small one goes out later, but may not be one", Due.told("p600;p090;w0162;d02;").atFirst(1), 2);
        LitAgain small = Due.told("p600;p000;p600;p000;d12;");
        Due.is("not small ones", small.atFirst(0), 2);
        Due.is("not small ones, the set", small.atFirst(1), 10);
    }

    @Says(promise = 41, sentence = "the set (of several the least); -9.")
    static void theLeastSetOfSeveral() {
        LitAgain x = Due.told("p000;p000;p000;p000;d01;f02;");
        Due.is("how many", x.atFirst(0), 2);
        Due.is("0 and 2", x.atFirst(1), 5);
        Due.is("one of three", Due.told("p000;p000;p000;d02;").atFirst(1), 1);
        Due.is("2 alone, though 0 and 1 have less bits", Due.told("p000;p000;p000;p000;d02;").atFirst(1), 4);
        LitAgain none = Due.told("p001;w0042;");
        Due.is("none, how many", none.atFirst(0), -9);
        Due.is("none, the set", none.atFirst(1), -9);
    }

    @Says(promise = 41, sentence = "ENOUGH AT FIRST: how many (what 0), the set (1); -9. -2.")
    static void atFirstRefusesOther() {
        Due.refused("atFirst(2)", x -> x.atFirst(2), -2);
        Due.refused("atFirst(-1)", x -> x.atFirst(-1), -2);
    }

    // ---- promise 42

    @Says(promise = 42, sentence = "FORMS: the FORM and EACH (10 FORM and EACH) by which most are LIT at the DOOR, of several the least; how many.")
    static void theBestForm() {
        Due.is("nobody", new LitAgain().forms(0), 1);
        Due.is("nobody, how many", new LitAgain().forms(1), 0);
        Due.is("all alike", Due.told("p001;f22;").forms(0), 1);
        Due.is("at the door", Due.told("p001;p000;p000;d01;m0;").forms(0), 1);
        Due.is("how many, at the door", Due.told("p001;p000;p000;d01;m0;").forms(1), 2);
        Due.is("a row, two", Due.told("p000;p001;p000;d01;").forms(0), 2);
        Due.is("a ring, two", Due.told("p001;p000;p000;d01;").forms(0), 12);
        Due.is("a row, one, of several", Due.told("p301;p600;p301;p300;d01;").forms(0), 1);
        Due.is("a ring, one", Due.told("p001;p600;p000;d01;").forms(0), 11);
        Due.is("pairs, one", Due.told("p001;p600;p000;p600;d01;").forms(0), 21);
        Due.is("how many", Due.told("p001;p600;p000;p600;d01;").forms(1), 2);
        Due.is("a row, two, or a ring, one", Due.told("p000;p001;p000;p000;d02;").forms(0), 2);
        Due.is("a row, two, of several", Due.told("p600;p000;p001;p000;p600;d01;").forms(0), 2);
        Due.is("pairs, two", Due.told("p000;p600;p001;p600;p000;d01;").forms(0), 22);
    }

    @Says(promise = 42, sentence = "FORMS: it (what 0), how many (1). -2.")
    static void formsRefusesOther() {
        Due.refused("forms(2)", x -> x.forms(2), -2);
        Due.refused("forms(-1)", x -> x.forms(-1), -2);
    }

    // ---- promise 44

    @Says(promise = 44, sentence = "FARTHEST: the greatest DOOR (from PLACE, 1 at least, to 24) at which somebody is LIT; -9.")
    static void theFarthestDoor() {
        Due.is("to 24", Due.told("p001;d01;w2492;").farthest(), 24);
        Due.is("24 is behind place 23", Due.told("p001;d01;w2392;").farthest(), 23);
        Due.is("behind place 1", Due.told("p001;w0192;").farthest(), 1);
        Due.is("1 at least", Due.told("p001;w0092;").farthest(), -9);
        Due.is("from the place", Due.told("p001;m0;m0;w0292;").farthest(), 2);
        Due.is("none", Due.told("p000;").farthest(), -9);
        Due.is("none, later", Due.told("p000;m0;m0;").farthest(), -9);
        Due.is("nobody", new LitAgain().farthest(), -9);
        Due.is("farther than the door", Due.told("p001;d01;m0;").farthest(), 24);
        Due.is("at 24", Due.told("p001;d24;" + Due.many(24, "m0;")).farthest(), 24);
        Due.is("at 24, dark", Due.told("p000;d24;" + Due.many(24, "m0;")).farthest(), -9);
    }

    // ---- promise 45

    @Says(promise = 45, sentence = "TURNED ROUND: all in the other order, the last foremost (LIT goes with each): how many are LIT at the DOOR.")
    static void allInTheOtherOrder() {
        Due.is("nobody", new LitAgain().turned(), 0);
        Due.is("one", Due.told("p001;").turned(), 1);
        Due.is("the middle one stays", Due.told("p600;p001;p600;").turned(), 1);
        // turned, the WALKER is behind the TALL one and lights it again
        Due.is("kinds go", Due.told("p001;p401;w0050;d01;").turned(), 2);
        Due.is("figures go with their kinds", Due.told("p501;p421;w0052;d01;").turned(), 0);
        Due.is("figures go", Due.told("p031;p001;w0050;d01;").turned(), 2);
        Due.is("lit goes", Due.told("p001;p000;p600;d01;").turned(), 2);
        Due.is("lit goes", Due.told("p001;p600;p000;d01;").turned(), 1);
        Due.is("at the door", Due.told("p001;p000;p000;d01;m0;").turned(), 2);
    }

    // ---- promise 49

    @Says(promise = 49, sentence = "the first pair (10 FORM and SIDE) by which neither has it better by another choice alone; -9")
    static void theFirstSteadyPair() {
        Due.is("nobody", new LitAgain().game(0), 0);
        Due.is("all alike", Due.told("p001;p001;f22;").game(0), 0);
        Due.is("at the door", Due.told("p001;p000;p000;d01;m0;").game(0), 0);
        Due.is("the first form with more", Due.told("p120;p620;p541;w0041;d01;f12;").game(0), 10);
        Due.is("pairs", Due.told("p680;p401;p190;p061;w0040;d01;f22;").game(0), 20);
        Due.is("the first side with fewer", Due.told("p471;p051;p541;w0062;d01;f01;").game(0), 1);
        // from the front and from behind one TALL one covers the other, across nobody holds
        Due.is("across", Due.told("p401;p401;w0050;d01;").game(0), 2);
        // a ROW has 1, 3, 1 by the sides, a RING 2, 3, 2, PAIRS 2, 2, 2
        Due.is("the first of two forms with two", Due.told("p401;p490;p680;p201;w0032;d01;").game(0), 10);
        // from behind a ROW is dark, a RING is not: the people would choose it
        Due.is("not what the people better", Due.told("p401;p060;w0162;d02;").game(0), 2);
    }

    /** How many are LIT at the DOOR by a FORM and a SIDE, so told. */
    private static int outcome(String road, int form, int side) {
        LitAgain x = Due.told(road);
        x.set(0, form);
        for (int place = 0; place <= 24; place++) x.blows(place, x.wind(place, 0), side);
        return x.door(1);
    }

    /** The nine outcomes, by FORMS, then by SIDES, as digits; and the first pair that they leave steady. */
    private static void steady(String road, int outcomes, int due) {
        int told = 0;
        for (int form = 0; form < 3; form++) {
            for (int side = 0; side < 3; side++) told = 10 * told + outcome(road, form, side);
        }
        Due.is(road + " outcomes", told, outcomes);
        Due.is(road + " game(0)", Due.told(road).game(0), due);
    }

    @Says(promise = 49, sentence = "by which neither has it better by another choice alone")
    static void thePeopleWouldChooseAnotherForm() {
        steady("p521;p600;p430;p120;p200;p500;p591;w0090;w0100;w0250;d03;", 442343332, 12);
        steady("p300;p000;p121;p570;p221;w0050;w0170;w0260;d03;", 400220222, 21);
        steady("p200;p550;p100;p401;w0020;w0160;w0270;w0360;d04;", 240400222, 22);
        steady("p501;p000;w0050;d01;", 20220000, 2);
        steady("p501;p620;p480;p560;w0020;w0150;d02;", 322220, 11);
        steady("p401;p630;p151;w0080;d01;", 20200, 2);
        steady("p001;p600;p501;p500;w0040;d01;f02;", 222322333, 20);
        steady("p300;p201;p191;p500;w0060;w0190;d02;", 20020422, 21);
    }

    @Says(promise = 49, sentence = "neither has it better by another choice alone")
    static void theWindWouldChooseAnotherSide() {
        steady("p141;p131;w0070;d01;", 220220000, 2);
        steady("p191;p400;p500;p501;w0060;d01;", 222222422, 1);
        steady("p270;p500;p501;w0010;w0150;d02;", 220322222, 11);
        steady("p401;p411;p670;p581;w0050;d01;", 331332222, 12);
        steady("p300;p500;p201;p500;w0020;w0150;d02;", 420420422, 21);
        steady("p300;p101;p181;p190;w0060;w0180;d02;", 440440442, 22);
        steady("p400;p600;p371;p021;w0040;d01;f02;", 222332333, 20);
    }

    @Says(promise = 49, sentence = "people choose the FORM, the wind one SIDE for all PLACES")
    static void oneSideForAllPlaces() {
        // from the front or from behind one TALL one covers the other at place 1, across nobody does
        LitAgain x = Due.told("p461;p490;w0162;d02;");
        Due.is("across", x.game(0), 2);
        LitAgain early = Due.told("p461;p490;w0062;w0160;d02;");
        Due.is("across", early.game(0), 2);
        Due.is("the sides stay as they are", early.wind(0, 1) * 10 + early.wind(1, 1), 20);
        Due.is("the form, too", early.count(4), 0);
    }

    @Says(promise = 49, sentence = "SURE: the greatest number that they can have whatever SIDE comes; KNOWN: the least number that the wind can bring about")
    static void sureAndKnown() {
        LitAgain x = Due.told("p120;p620;p541;w0041;d01;f12;");
        Due.is("sure", x.game(1), 2);
        Due.is("known", x.game(2), 2);
        Due.is("nobody, sure", new LitAgain().game(1), 0);
        Due.is("nobody, known", new LitAgain().game(2), 0);
        LitAgain two = Due.told("p471;p051;p541;w0062;d01;f01;");
        Due.is("not the most of a side", two.game(1), 2);
        Due.is("not the most of a side", two.game(2), 2);
        LitAgain across = Due.told("p401;p401;w0050;d01;");
        Due.is("nobody across, sure", across.game(1), 0);
        Due.is("nobody across, known", across.game(2), 0);
        Due.is("by a ROW alone, sure", Due.told("p000;p590;p291;w0182;d02;").game(1), 2);
        Due.is("by a ROW alone, known", Due.told("p000;p590;p291;w0182;d02;").game(2), 2);
        Due.is("by a RING alone, sure", Due.told("p500;p190;p391;f22;d01;").game(1), 3);
        Due.is("by a RING alone, known", Due.told("p500;p190;p391;f22;d01;").game(2), 3);
        Due.is("by PAIRS alone, sure", Due.told("p600;p001;p690;p090;d04;").game(1), 2);
        Due.is("by PAIRS alone, known", Due.told("p600;p001;p690;p090;d04;").game(2), 2);
    }

    @Says(promise = 49, sentence = "A GAME (what 0; -9), SURE (1), KNOWN (2). -2.")
    static void gameRefusesOther() {
        Due.refused("game(3)", x -> x.game(3), -2);
        Due.refused("game(-1)", x -> x.game(-1), -2);
    }

    // ---- promise 50

    @Says(promise = 50, sentence = "HEIRS: of all KINDS (0 .. 6; FIGURE as it is, LIT as it is, but SMALL not) those (bits) by which one, were it such, would be LIT at the DOOR.")
    static void theKindsThatOneMayBe() {
        Due.is("lit, no wind: all but SMALL", Due.told("p001;d01;").heirs(0), 63);
        Due.is("dark, alone: none", Due.told("p000;d01;").heirs(0), 0);
        Due.is("a SMALL one grows, dark", Due.told("p600;d01;").heirs(0), 0);
        Due.is("a SMALL one is lit then", Due.told("p600;p301;d01;").heirs(0), 63);
        Due.is("figure 0 in 4", Due.told("p001;w0042;d01;").heirs(0), 2 + 4 + 8 + 32);
        Due.is("figure 9 in 6", Due.told("p091;w0062;d01;").heirs(0), 1 + 2 + 4 + 8 + 32);
        Due.is("figure 9 in 9", Due.told("p091;w0092;d01;").heirs(0), 8 + 32);
        Due.is("at the door, lit", Due.told("p001;d01;m0;").heirs(0), 63);
        Due.is("not lit, though it was, as SMALL", Due.told("p301;p000;d02;").heirs(0), 63);
        Due.is("of the second, who is lit by the first", Due.told("p301;p000;d02;").heirs(1), 63);
        Due.is("of the second, as TALL it does not hold", Due.told("p001;p041;w0042;d01;").heirs(1), 63 - 16);
        Due.is("of the last of eight", Due.told(Due.many(7, "p600;") + "p001;w0042;d01;").heirs(7), 2 + 4 + 8 + 32);
    }

    @Says(promise = 50, sentence = "HEIRS (bits). -1.")
    static void heirsRefusesNobody() {
        Due.refused("heirs(4)", x -> x.heirs(4), -1);
        Due.refused("heirs(-1)", x -> x.heirs(-1), -1);
        Due.refused("heirs(0) of nobody", LitAgain::new, x -> x.heirs(0), -1);
    }
}
