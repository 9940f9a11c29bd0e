/** Without wind, chances, wax, the row of numbers, nights. */
final class SentencesOnNumbers {
    private SentencesOnNumbers() { }

    private static LitAgain withRow(String road, int... numbers) {
        LitAgain x = Due.told(road);
        for (int v : numbers) x.row(v);
        return x;
    }

    // ---- promise 29

    @Says(promise = 29, sentence = "WITHOUT WIND in a ROW of n (1 .. 99) people, EACH 2: the fewest LIT ones by which all are within m (0 .. 99) MINUTES")
    static void theFewestLitOnes() {
        LitAgain x = new LitAgain();
        Due.is("calm(1, 0)", x.calm(1, 0), 1);
        Due.is("calm(99, 0)", x.calm(99, 0), 99);
        Due.is("calm(3, 1)", x.calm(3, 1), 1);
        Due.is("calm(4, 1)", x.calm(4, 1), 2);
        Due.is("calm(99, 1)", x.calm(99, 1), 33);
        Due.is("calm(99, 48)", x.calm(99, 48), 2);
        Due.is("calm(99, 49)", x.calm(99, 49), 1);
        Due.is("calm(99, 99)", x.calm(99, 99), 1);
        Due.is("calm(1, 99)", x.calm(1, 99), 1);
    }

    @Says(promise = 29, sentence = "-4 (n below 1, m below 0); -6 99.")
    static void calmRefusesBelow() {
        Due.refused("calm(0, 0)", x -> x.calm(0, 0), -4);
        Due.refused("calm(least, 0)", x -> x.calm(Integer.MIN_VALUE, 0), -4);
        Due.refused("calm(1, -1)", x -> x.calm(1, -1), -4);
        Due.refused("calm(0, 100)", x -> x.calm(0, 100), -4);
        Due.refused("calm(100, -1)", x -> x.calm(100, -1), -4);
        Due.refused("calm(0, -1), counted once", x -> x.calm(0, -1), -4);
    }

    @Says(promise = 29, sentence = "-4 (n below 1, m below 0); -6 99.")
    static void calmRefusesRoom() {
        Due.refused("calm(100, 0)", x -> x.calm(100, 0), -6);
        Due.refused("calm(1, 100)", x -> x.calm(1, 100), -6);
        Due.refused("calm(100, 100), counted once", x -> x.calm(100, 100), -6);
        Due.refused("calm(greatest, greatest)", x -> x.calm(Integer.MAX_VALUE, Integer.MAX_VALUE), -6);
    }

    // ---- promise 30

    @Says(promise = 30, sentence = "the MINUTES that it takes from one who is LIT at place k (0 .. n less 1)")
    static void theMinutesFromOne() {
        LitAgain x = new LitAgain();
        Due.is("spreads(1, 0)", x.spreads(1, 0), 0);
        Due.is("spreads(2, 0)", x.spreads(2, 0), 1);
        Due.is("spreads(2, 1)", x.spreads(2, 1), 1);
        Due.is("spreads(99, 0)", x.spreads(99, 0), 98);
        Due.is("spreads(99, 98)", x.spreads(99, 98), 98);
        Due.is("spreads(99, 49)", x.spreads(99, 49), 49);
        Due.is("spreads(10, 4)", x.spreads(10, 4), 5);
        Due.is("spreads(10, 5)", x.spreads(10, 5), 5);
    }

    @Says(promise = 30, sentence = "-4 (n below 1, k below 0); -6 (99 either); -1 k is n or more.")
    static void spreadsRefusesBelow() {
        Due.refused("spreads(0, 0)", x -> x.spreads(0, 0), -4);
        Due.refused("spreads(1, -1)", x -> x.spreads(1, -1), -4);
        Due.refused("spreads(0, 100)", x -> x.spreads(0, 100), -4);
        Due.refused("spreads(100, -1)", x -> x.spreads(100, -1), -4);
    }

    @Says(promise = 30, sentence = "-4 (n below 1, k below 0); -6 (99 either); -1 k is n or more.")
    static void spreadsRefusesRoom() {
        Due.refused("spreads(100, 0)", x -> x.spreads(100, 0), -6);
        Due.refused("spreads(5, 100)", x -> x.spreads(5, 100), -6);
        Due.refused("spreads(100, 100)", x -> x.spreads(100, 100), -6);
    }

    @Says(promise = 30, sentence = "-4 (n below 1, k below 0); -6 (99 either); -1 k is n or more.")
    static void spreadsRefusesNobody() {
        Due.refused("spreads(5, 5)", x -> x.spreads(5, 5), -1);
        Due.refused("spreads(5, 6)", x -> x.spreads(5, 6), -1);
        Due.refused("spreads(99, 99)", x -> x.spreads(99, 99), -1);
    }

    // ---- promise 31

    private static void chance(LitAgain x, int n, int what, long above, long below) {
        Due.is("chances(" + n + ", " + what + ", 0)", x.chances(n, what, 0), above);
        Due.is("chances(" + n + ", " + what + ", 1)", x.chances(n, what, 1), below);
    }

    @Says(promise = 31, sentence = "goes out in so many tenths as it FELT is above HOLDS less 2 (0 at least, 9 at most)")
    static void from0To9Tenths() {
        chance(Due.told("p001;w0002;"), 1, 0, 1, 1);
        chance(Due.told("p001;w0012;"), 1, 0, 1, 1);
        chance(Due.told("p001;w0022;"), 1, 0, 9, 10);
        chance(Due.told("p001;w0032;"), 1, 0, 4, 5);
        chance(Due.told("p401;w0082;"), 1, 0, 1, 5);
        chance(Due.told("p401;w0092;"), 1, 0, 1, 10);
        chance(Due.told("p591;w0092;"), 1, 0, 1, 1);
    }

    @Says(promise = 31, sentence = "each LIT one that is not a LANTERN goes out")
    static void aLanternNeverGoesOut() {
        chance(Due.told("p301;w0092;w0192;w0292;"), 3, 0, 1, 1);
        chance(Due.told("p301;p600;w0092;"), 1, 1, 1, 1);
    }

    @Says(promise = 31, sentence = "by itself; all else as told")
    static void eachByItselfThenAllAsTold() {
        // both go out in 1 of 4; else one is left at least and lights the other
        chance(Due.told("p001;p001;w0062;d01;"), 1, 0, 3, 4);
        chance(Due.told("p001;p001;w0062;d01;"), 1, 1, 3, 2);
        // who is not lit goes not out; who is lit in the minute neither
        chance(Due.told("p301;p000;w0092;d01;"), 1, 1, 2, 1);
        chance(Due.told("p000;p600;w0092;d01;"), 1, 0, 0, 1);
    }

    @Says(promise = 31, sentence = "as it FELT is above HOLDS less 2")
    static void eachAsItFeelsAndHolds() {
        // 3 and 4 tenths, with a SMALL one between them
        chance(Due.told("p001;p600;p401;w0042;d01;"), 1, 0, 22, 25);
        chance(Due.told("p001;p600;p401;w0042;d01;"), 1, 1, 13, 10);
        // 5 tenths, and 1 behind the TALL one: who went out is lit again from the next
        chance(Due.told("p401;p001;w0050;d01;"), 1, 0, 19, 20);
        chance(Due.told("p401;p001;w0050;d01;"), 1, 1, 19, 10);
        chance(Due.told("p031;w0042;d01;"), 1, 0, 4, 5);
        chance(Due.told("p301;p600;p001;w0042;d01;"), 1, 1, 17, 10);
        chance(Due.told("p600;p600;p600;p001;w0042;d01;"), 1, 0, 7, 10);
    }

    @Says(promise = 31, sentence = "n MINUTES (0 .. 3): how likely somebody is LIT then")
    static void minutesFromNow() {
        chance(Due.told("p001;w0042;w0152;w0262;w0392;d04;m0;l0;"), 0, 0, 1, 1);
        chance(Due.told("p001;w0042;w0152;w0262;w0392;d04;m0;l0;"), 1, 0, 3, 5);
        chance(Due.told("p001;w0042;w0152;w0262;w0392;d04;m0;l0;"), 2, 0, 3, 10);
        chance(Due.told("p001;w0042;w0152;w0262;w0392;d04;m0;l0;"), 3, 0, 3, 50);
    }

    @Says(promise = 31, sentence = "4 PEOPLE at most, n MINUTES (0 .. 3)")
    static void fourPeopleThreeMinutes() {
        chance(Due.told("p001;p000;p000;p000;"), 3, 1, 4, 1);
        chance(Due.told("p001;p000;p000;p000;"), 0, 1, 1, 1);
        chance(new LitAgain(), 3, 0, 0, 1);
        chance(new LitAgain(), 3, 1, 0, 1);
        chance(Due.told("p001;w0042;w0142;w0242;"), 3, 0, 343, 1000);
        chance(Due.told("p001;w0042;w0142;w0242;"), 2, 0, 49, 100);
        chance(Due.told("p001;w0042;"), 0, 0, 1, 1);
        chance(Due.told("p001;w0042;w0152;w0262;"), 2, 0, 21, 50);
        chance(Due.told("p001;w0042;w0152;w0262;"), 3, 0, 21, 100);
    }

    @Says(promise = 31, sentence = "how many are in the mean: fractions in least terms.")
    static void inLeastTerms() {
        chance(Due.told("p001;w0062;"), 1, 0, 1, 2);
        chance(Due.told("p001;p600;p001;w0062;"), 1, 1, 1, 1);
        chance(Due.told("p000;"), 2, 0, 0, 1);
        chance(Due.told("p000;"), 2, 1, 0, 1);
    }

    @Says(promise = 31, sentence = "Refused as told: -4; -6 3; -2 either; -3 more than 4, fewer MINUTES to the DOOR.")
    static void chancesRefusesBelow() {
        Due.refused("chances(-1, 0, 0)", x -> x.chances(-1, 0, 0), -4);
    }

    @Says(promise = 31, sentence = "Refused as told: -4; -6 3; -2 either; -3 more than 4, fewer MINUTES to the DOOR.")
    static void chancesRefusesRoom() {
        Due.refused("chances(4, 0, 0)", x -> x.chances(4, 0, 0), -6);
    }

    @Says(promise = 31, sentence = "Refused as told: -4; -6 3; -2 either; -3 more than 4, fewer MINUTES to the DOOR.")
    static void chancesRefusesOther() {
        Due.refused("chances(0, 2, 0)", x -> x.chances(0, 2, 0), -2);
        Due.refused("chances(0, -1, 0)", x -> x.chances(0, -1, 0), -2);
        Due.refused("chances(0, 0, 2)", x -> x.chances(0, 0, 2), -2);
        Due.refused("chances(0, 0, -1)", x -> x.chances(0, 0, -1), -2);
    }

    @Says(promise = 31, sentence = "Refused as told: -4; -6 3; -2 either; -3 more than 4, fewer MINUTES to the DOOR.")
    static void chancesRefusesState() {
        Due.refused("five", () -> Due.told(Due.many(5, "p000;")), x -> x.chances(0, 0, 0), -3);
        Due.refused("two minutes to the door", () -> Due.told("p001;d02;"), x -> x.chances(3, 0, 0), -3);
        Due.refused("at the door", () -> Due.told("p001;d01;m0;"), x -> x.chances(1, 0, 0), -3);
    }

    @Says(promise = 31, sentence = "-3 more than 4, fewer MINUTES to the DOOR.")
    static void justAsManyMinutesToTheDoor() {
        chance(Due.told("p001;d03;"), 3, 0, 1, 1);
        chance(Due.told("p001;d01;m0;"), 0, 0, 1, 1);
        chance(Due.told("p001;p001;p001;p001;d01;"), 1, 1, 4, 1);
    }

    @Says(promise = 31, sentence = "Of longs 4000000000000000000 less them (-1 as 4000000000000000001).")
    static void refusalsOfLongs() {
        LitAgain x = Due.told("p001;d02;");
        Due.is("below", x.chances(-1, 0, 0), 4000000000000000004L);
        Due.is("room", x.chances(4, 0, 0), 4000000000000000006L);
        Due.is("other", x.chances(0, 2, 0), 4000000000000000002L);
        Due.is("state", x.chances(3, 0, 0), 4000000000000000003L);
    }

    @Says(promise = 31, sentence = "the first that fits in the order in which it tells them")
    static void orderOfChancesRefusals() {
        Due.refused("chances(-1, 2, 2)", x -> x.chances(-1, 2, 2), -4);
        Due.refused("chances(4, 2, 2)", x -> x.chances(4, 2, 2), -6);
        Due.refused("five and another what", () -> Due.told(Due.many(5, "p000;")), x -> x.chances(0, 2, 0), -2);
        Due.refused("five and another part", () -> Due.told(Due.many(5, "p000;")), x -> x.chances(0, 0, 2), -2);
        Due.refused("five and four minutes", () -> Due.told(Due.many(5, "p000;")), x -> x.chances(4, 0, 0), -6);
        Due.refused("both, counted once", x -> x.chances(0, 2, 2), -2);
    }

    // ---- promise 32

    @Says(promise = 32, sentence = "WAX: a ROW tells for each at how many MINUTES' ends, to the DOOR, it is not LIT")
    static void minutesEndsToTheDoor() {
        LitAgain there = withRow("p000;p600;d01;m0;", 0, 0);
        Due.is("no minute: each set", there.wax(0), 2);
        Due.is("no minute: nobody", there.wax(1), 0);
        LitAgain last = withRow("p001;w0242;d03;", 1);
        Due.is("the last minute's end counts", last.wax(0), 1);
        Due.is("who", last.wax(1), 1);
        Due.is("now does not", withRow("p000;p001;d01;", 0, 0).wax(0), 3);
        Due.is("behind the door neither", withRow("p001;w0042;d02;", 3).wax(0), 0);
    }

    @Says(promise = 32, sentence = "sets (bits; SMALL ones not) that could be LIT now by which that would be so: how many; the least; -9")
    static void setsOfWhoCouldBeLit() {
        LitAgain small = withRow("p600;d01;", 1);
        Due.is("small: not lit", small.wax(0), 1);
        Due.is("small: not lit", small.wax(1), 0);
        Due.is("a small one is never lit", withRow("p600;d01;", 0).wax(0), 0);
        Due.is("it would go out, but is never lit", withRow("p600;w0092;d01;", 1).wax(0), 1);
        Due.is("it would go out as the other one", withRow("p600;p000;w0092;d01;", 1, 1).wax(0), 2);
        LitAgain none = withRow("p000;d01;", 99);
        Due.is("none", none.wax(0), 0);
        Due.is("none, the least", none.wax(1), -9);
        LitAgain least = withRow("p600;p000;p000;d12;", 12, 0, 0);
        Due.is("one or the other or both", least.wax(0), 3);
        Due.is("the least", least.wax(1), 2);
        LitAgain nobody = withRow("d01;");
        Due.is("nobody, no numbers", nobody.wax(0), 1);
        Due.is("nobody, no numbers", nobody.wax(1), 0);
        LitAgain eight = withRow(Due.many(8, "p000;") + "d01;m0;", 0, 0, 0, 0, 0, 0, 0, 0);
        Due.is("all sets of eight", eight.wax(0), 256);
        LitAgain all = withRow(Due.many(8, "p000;") + "w0042;d01;", 1, 1, 1, 1, 1, 1, 1, 1);
        Due.is("all go out", all.wax(0), 256);
        LitAgain each = withRow("p000;p600;p000;p600;p000;p600;p000;p600;d01;", 0, 1, 0, 1, 0, 1, 0, 1);
        Due.is("each itself", each.wax(1), 85);
    }

    @Says(promise = 32, sentence = "(it stays). -2; -3 it has not as many as PEOPLE.")
    static void theRowHasAsManyAsPeople() {
        Due.refused("fewer", () -> withRow("p000;p000;", 0), x -> x.wax(0), -3);
        Due.refused("more", () -> withRow("p000;", 0, 0), x -> x.wax(1), -3);
        Due.refused("none", () -> Due.told("p000;"), x -> x.wax(0), -3);
        Due.refused("one of nobody", () -> withRow("d01;", 0), x -> x.wax(0), -3);
        Due.refused("twelve of eight", () -> withRow(Due.many(8, "p000;"), 0, 0, 0, 0, 0, 0, 0, 0, 0, 0, 0, 0), x -> x.wax(0), -3);
    }

    @Says(promise = 32, sentence = "the least (1; -9) (it stays). -2; -3 it has not as many as PEOPLE.")
    static void waxRefusesOther() {
        Due.refused("wax(2)", x -> x.wax(2), -2);
        Due.refused("wax(-1)", x -> x.wax(-1), -2);
        Due.refused("wax(2) of nobody", LitAgain::new, x -> x.wax(2), -2);
    }

    @Says(promise = 32, sentence = "(it stays)")
    static void theRowStays() {
        LitAgain x = withRow("p001;p000;d01;", 0, 0);
        x.wax(0);
        x.wax(1);
        Due.is("count(8)", x.count(8), 2);
        Due.is("as it was", x.wax(0), 3);
        Due.is("lit as it was", x.lit(), 1);
    }

    // ---- promise 34

    @Says(promise = 34, sentence = "A number more of the ROW: how many. -4; -6 (99; 12, too).")
    static void numbersFrom0To99() {
        LitAgain x = new LitAgain();
        Due.is("row(0)", x.row(0), 1);
        Due.is("row(99)", x.row(99), 2);
    }

    @Says(promise = 34, sentence = "A number more of the ROW: how many. -4;")
    static void rowRefusesBelow() {
        Due.refused("row(-1)", x -> x.row(-1), -4);
        Due.refused("row(least)", x -> x.row(Integer.MIN_VALUE), -4);
    }

    @Says(promise = 34, sentence = "-6 (99; 12, too).")
    static void rowRefusesRoom() {
        Due.refused("row(100)", x -> x.row(100), -6);
        Due.refused("row(greatest)", x -> x.row(Integer.MAX_VALUE), -6);
    }

    @Says(promise = 34, sentence = "A ROW of numbers (0 .. 99; 12 at most)")
    static void twelveAtMost() {
        LitAgain x = new LitAgain();
        for (int i = 1; i <= 12; i++) Due.is("row(0)", x.row(0), i);
        Due.is("a thirteenth", x.row(0), -6);
        Due.is("count(8)", x.count(8), 12);
        Due.is("below ahead of no room", x.row(-1), -4);
        Due.is("refused, once", x.count(16), 1);
        Due.is("100, no room, once", x.row(100), -6);
        Due.is("refused, twice", x.count(16), 2);
        x.clear();
        Due.is("room again", x.row(0), 1);
    }

    // ---- promise 35

    @Says(promise = 35, sentence = "how many are LIT at the ends of MINUTES from now, walking: the first that is not so")
    static void theFirstNumberThatIsNotSo() {
        String road = "p001;p000;p000;p000;d03;";
        Due.is("the first", withRow(road, 1, 3, 4).judge(), 0);
        Due.is("the second", withRow(road, 2, 2, 4).judge(), 1);
        Due.is("the third", withRow(road, 2, 3, 3).judge(), 2);
        Due.is("the first of several", withRow(road, 2, 9, 9).judge(), 1);
        Due.is("all are so", withRow(road, 2, 3, 4).judge(), -9);
        Due.is("the end at the door", withRow("p001;w0242;d03;", 1, 1, 0).judge(), -9);
        Due.is("twelve", withRow("d12;", 0, 0, 0, 0, 0, 0, 0, 0, 0, 0, 0, 0).judge(), -9);
    }

    @Says(promise = 35, sentence = "the first that is not so (behind the DOOR, too); -9.")
    static void behindTheDoorIsNotSo() {
        Due.is("one behind it", withRow("p001;d03;", 1, 1, 1, 1).judge(), 3);
        Due.is("nobody is lit behind it", withRow("d03;", 0, 0, 0, 0).judge(), 3);
        Due.is("at the door", withRow("p001;d01;m0;", 1).judge(), 0);
        Due.is("at the door, no numbers", withRow("p001;d01;m0;").judge(), -9);
        Due.is("not as many as minutes", withRow("p001;d03;", 1).judge(), -9);
        Due.is("no numbers", new LitAgain().judge(), -9);
    }

    @Says(promise = 35, sentence = "JUDGED; -9 (whichever it answers, the ROW has none then).")
    static void judgedTheRowHasNone() {
        LitAgain so = withRow("p001;", 1);
        so.judge();
        Due.is("so", so.count(8), 0);
        LitAgain not = withRow("p001;", 0);
        not.judge();
        Due.is("not so", not.count(8), 0);
        Due.is("from the first", not.row(5), 1);
    }

    // ---- promise 36

    @Says(promise = 36, sentence = "The ROW has none then: how many it had.")
    static void clearedTheRowHasNone() {
        LitAgain x = new LitAgain();
        Due.is("none", x.clear(), 0);
        for (int i = 0; i < 12; i++) x.row(99);
        Due.is("twelve", x.clear(), 12);
        Due.is("none then", x.count(8), 0);
        Due.is("none then", x.clear(), 0);
    }

    // ---- promise 37

    @Says(promise = 37, sentence = "SEEDS with a seed z: n nights (1 .. 20)")
    static void from1To20Nights() {
        LitAgain x = Due.told("p301;d01;");
        Due.is("one", x.seeds(1, 0, 0), 1);
        Due.is("twenty", x.seeds(20, 0, 0), 20);
        Due.is("none dark", x.seeds(20, 0, 1), 0);
        LitAgain dark = Due.told("p000;");
        Due.is("one dark", dark.seeds(1, 5, 1), 1);
        Due.is("twenty dark", dark.seeds(20, 5, 1), 20);
        Due.is("nobody lit", dark.seeds(20, 5, 0), 0);
        Due.is("nobody there", new LitAgain().seeds(20, 5, 1), 20);
    }

    @Says(promise = 37, sentence = "SEEDS: LIT (what 0), nights (1). -4; -6 20; -2.")
    static void seedsRefusesBelow() {
        Due.refused("seeds(0, 1, 0)", x -> x.seeds(0, 1, 0), -4);
        Due.refused("seeds(least, 1, 0)", x -> x.seeds(Integer.MIN_VALUE, 1, 0), -4);
        Due.refused("seeds(0, 1, 2)", x -> x.seeds(0, 1, 2), -4);
    }

    @Says(promise = 37, sentence = "SEEDS: LIT (what 0), nights (1). -4; -6 20; -2.")
    static void seedsRefusesRoom() {
        Due.refused("seeds(21, 1, 0)", x -> x.seeds(21, 1, 0), -6);
        Due.refused("seeds(21, 1, 2)", x -> x.seeds(21, 1, 2), -6);
    }

    @Says(promise = 37, sentence = "SEEDS: LIT (what 0), nights (1). -4; -6 20; -2.")
    static void seedsRefusesOther() {
        Due.refused("seeds(1, 1, 2)", x -> x.seeds(1, 1, 2), -2);
        Due.refused("seeds(1, 1, -1)", x -> x.seeds(1, 1, -1), -2);
    }

    /** The nights told again, with blows() for each PLACE and door() for what comes. */
    private static void nights(String road, int n, int seed) {
        LitAgain asked = Due.told(road);
        long z = seed;
        int lit = 0;
        int dark = 0;
        for (int night = 0; night < n; night++) {
            LitAgain x = Due.told(road);
            for (int place = x.count(2); place <= 24; place++) {
                z = (int) (z * 1103515245L + 12345L);
                int force = (int) ((z & 0x7fffffffL) / 65536 % 10);
                z = (int) (z * 1103515245L + 12345L);
                x.blows(place, force, (int) ((z & 0x7fffffffL) / 65536 % 3));
            }
            lit += x.door(1);
            dark += x.door(1) == 0 ? 1 : 0;
        }
        String call = road + " seeds(" + n + ", " + seed + ", ";
        Due.is(call + "0)", asked.seeds(n, seed, 0), lit);
        Due.is(call + "1)", asked.seeds(n, seed, 1), dark);
        Due.alike(call + ")", asked, Due.told(road));
    }

    @Says(promise = 37, sentence = "z becomes z times 1103515245 plus 12345 (an int, wrapping); a DRAW below n is (z without its sign's bit, over 65536, cut) modulo n.")
    static void drawsOfAnySeed() {
        for (int seed : new int[] {0, 1, -1, 12345, Integer.MAX_VALUE, Integer.MIN_VALUE, -1103515245}) {
            nights("p091;p541;p231;p191;d03;", 1, seed);
            nights("p091;p541;p600;p191;p001;d02;", 6, seed);
        }
    }

    @Says(promise = 37, sentence = "each PLACE's FORCE from now on a DRAW below 10, SIDE a DRAW below 3 (by PLACES to 24)")
    static void drawsFromThePlaceTo24() {
        for (int seed = 1; seed <= 20; seed++) {
            nights("p091;p551;d01;", 5, seed);
            nights("p091;p551;d24;" + Due.many(22, "m0;"), 5, seed);
            nights("p091;p551;p401;d05;m0;m0;", 5, seed);
        }
        Due.is("at the door", Due.told("p001;d01;m0;").seeds(20, 3, 0), 20);
    }

    @Says(promise = 37, sentence = "from how all is now")
    static void eachNightFromNow() {
        for (int seed = 21; seed <= 40; seed++) nights("p091;p580;p291;p000;d02;w0092;w0192;", 20, seed);
    }

    // ---- promise 39

    @Says(promise = 39, sentence = "the fewest MINUTES (0 .. 60) till all but SMALL ones are LIT; -9")
    static void theFewestMinutesWithoutWind() {
        Due.is("nobody", new LitAgain().all(), 0);
        Due.is("all are", Due.told("p001;p600;p001;").all(), 0);
        Due.is("small ones alone", Due.told("p600;p600;").all(), 0);
        Due.is("one", Due.told("p001;p000;").all(), 1);
        Due.is("seven", Due.told("p001;" + Due.many(7, "p000;")).all(), 7);
        Due.is("none is lit", Due.told("p000;p000;").all(), -9);
        Due.is("behind a small one", Due.told("p001;p600;p000;").all(), -9);
        Due.is("round it", Due.told("p001;p600;p000;f11;").all(), 1);
        Due.is("no wind counts", Due.told("p001;p000;w0092;").all(), 1);
        Due.is("farther than the door", Due.told("p001;p000;p000;d01;").all(), 2);
        Due.is("at the door", Due.told("p001;p000;p000;d01;m0;").all(), 1);
    }

    // ---- promise 40

    @Says(promise = 40, sentence = "WITHOUT WIND behind n (bits). -4; -6 60.")
    static void behind0To60Minutes() {
        LitAgain x = Due.told("p001;p000;p000;p600;w0092;w0192;d01;");
        Due.is("behind(0)", x.behind(0), 1);
        Due.is("behind(1)", x.behind(1), 3);
        Due.is("behind(2), farther than the door", x.behind(2), 7);
        Due.is("behind(60)", x.behind(60), 7);
        Due.is("nobody there", new LitAgain().behind(60), 0);
    }

    @Says(promise = 40, sentence = "WITHOUT WIND behind n (bits). -4;")
    static void behindRefusesBelow() {
        Due.refused("behind(-1)", x -> x.behind(-1), -4);
        Due.refused("behind(least)", x -> x.behind(Integer.MIN_VALUE), -4);
    }

    @Says(promise = 40, sentence = "WITHOUT WIND behind n (bits). -4; -6 60.")
    static void behindRefusesRoom() {
        Due.refused("behind(61)", x -> x.behind(61), -6);
        Due.refused("behind(greatest)", x -> x.behind(Integer.MAX_VALUE), -6);
    }
}
