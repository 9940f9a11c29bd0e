/** A new object; who is there, who is beside whom, who covers whom, what one holds, feels and gives. */
final class SentencesOnPeople {
    private SentencesOnPeople() { }

    // ---- promise 1

    @Says(promise = 1, sentence = "Nobody, no WIND.")
    static void nobodyIsThereAtFirst() {
        LitAgain x = new LitAgain();
        Due.is("count(0)", x.count(0), 0);
        Due.is("count(1)", x.count(1), 0);
        Due.is("lit", x.lit(), 0);
        Due.is("person(0, 0)", x.person(0, 0), -1);
    }

    @Says(promise = 1, sentence = "a FORCE (0 .. 9; 0 at first)")
    static void noForceAtFirst() {
        LitAgain x = new LitAgain();
        for (int place = 0; place <= 24; place++) Due.is("wind(" + place + ", 0)", x.wind(place, 0), 0);
    }

    @Says(promise = 1, sentence = "a SIDE: 0 from the front, 1 from behind, 2 across (0 at first)")
    static void fromTheFrontAtFirst() {
        LitAgain x = new LitAgain();
        for (int place = 0; place <= 24; place++) Due.is("wind(" + place + ", 1)", x.wind(place, 1), 0);
    }

    @Says(promise = 1, sentence = "FORM: 0 a ROW, 1 a RING, 2 PAIRS (0 at first)")
    static void aRowAtFirst() {
        Due.is("count(4)", new LitAgain().count(4), 0);
        Due.is("the last is not beside the foremost", Due.told("p000;p000;p000;").beside(0), 2);
    }

    @Says(promise = 1, sentence = "EACH (1 .. 2; 1 at first: how many one lights in a MINUTE)")
    static void oneLightsOneAtFirst() {
        Due.is("count(5)", new LitAgain().count(5), 1);
        Due.is("go(0)", Due.told("p000;p001;p000;").go(0), 2);
    }

    @Says(promise = 1, sentence = "DOOR (1 .. 24; 12 at first)")
    static void theDoorIsAt12AtFirst() {
        LitAgain x = new LitAgain();
        Due.is("count(6)", x.count(6), 12);
        for (int m = 0; m < 12; m++) Due.is("go(0) at place " + m, x.go(0), 0);
        Due.is("go(0) at place 12", x.go(0), -3);
    }

    @Says(promise = 1, sentence = "PLACE (0 .. DOOR; 0 at first)")
    static void atPlace0AtFirst() {
        Due.is("count(2)", new LitAgain().count(2), 0);
        Due.is("image()", new LitAgain().image(), 0);
    }

    @Says(promise = 1, sentence = "MINUTE (0 .. 999; 0 at first)")
    static void minute0AtFirst() {
        Due.is("count(3)", new LitAgain().count(3), 0);
    }

    @Says(promise = 1, sentence = "THE IMAGE: all that there is, but it, letters, the ROW, REFUSALS.")
    static void noLettersNumbersPastImageOrRefusalsAtFirst() {
        LitAgain x = new LitAgain();
        for (int what = 7; what <= 16; what++) Due.is("count(" + what + ")", x.count(what), 0);
        Due.is("restore()", x.restore(), -3);
    }

    // ---- promise 4

    @Says(promise = 4, sentence = "PEOPLE 0 .. 7 as they come (8 at most), the foremost first")
    static void eightPeopleAsTheyCome() {
        LitAgain x = Due.told("p000;p110;p220;p330;p440;p550;p660;p071;");
        for (int one = 0; one < 7; one++) {
            Due.is("kind of " + one, x.person(one, 0), one);
            Due.is("figure of " + one, x.person(one, 1), one);
        }
        Due.is("kind of 7", x.person(7, 0), 0);
        Due.is("figure of 7", x.person(7, 1), 7);
        Due.is("lit", x.lit(), 128);
        Due.is("the foremost covers the next", x.covers(1, 0), 0);
    }

    @Says(promise = 4, sentence = "-1 NOBODY: nobody such, no PLACE, one twice.")
    static void nobodySuch() {
        Due.refused("person(4, 0)", x -> x.person(4, 0), -1);
        Due.refused("person(-1, 0)", x -> x.person(-1, 0), -1);
        Due.refused("person(8, 0)", x -> x.person(8, 0), -1);
        Due.refused("person(greatest, 0)", x -> x.person(Integer.MAX_VALUE, 0), -1);
        Due.refused("person(least, 0)", x -> x.person(Integer.MIN_VALUE, 0), -1);
        Due.refused("person(0, 0) of nobody", LitAgain::new, x -> x.person(0, 0), -1);
        Due.refused("person(8, 0) of eight", () -> Due.told(Due.many(8, "p000;")), x -> x.person(8, 0), -1);
    }

    @Says(promise = 4, sentence = "KIND (what 0), FIGURE (1), 1 LIT (2), COVER (3), HOLDS (4), GIVES (5), FELT at PLACE (6). -1; -2.")
    static void whatOfAPersonIsFrom0To6() {
        Due.refused("person(0, -1)", x -> x.person(0, -1), -2);
        Due.refused("person(0, 7)", x -> x.person(0, 7), -2);
        Due.is("person(0, 0)", Due.amidst().person(0, 0), 3);
        Due.is("person(0, 6)", Due.amidst().person(0, 6), 0);
    }

    @Says(promise = 4, sentence = "the first that fits in the order in which it tells them")
    static void nobodyAheadOfWhat() {
        Due.refused("person(4, 7)", x -> x.person(4, 7), -1);
        Due.refused("person(-1, -1)", x -> x.person(-1, -1), -1);
    }

    @Says(promise = 4, sentence = "LIT (1) or not (0)")
    static void litOrNot() {
        LitAgain x = Due.told("p001;p000;p600;");
        Due.is("lit one", x.person(0, 2), 1);
        Due.is("one not lit", x.person(1, 2), 0);
        Due.is("small one", x.person(2, 2), 0);
    }

    @Says(promise = 4, sentence = "a FIGURE (0 .. 9)")
    static void figuresFrom0To9() {
        Due.is("least", Due.told("p000;").person(0, 1), 0);
        Due.is("greatest", Due.told("p090;").person(0, 1), 9);
    }

    @Says(promise = 4, sentence = "COVER: WALKER 1; HOODED as a WALKER; LOW 0; LANTERN a HOODED's; TALL 3; NUN a LOW's and 1; SMALL as a LOW.")
    static void coverOfEachKind() {
        int[] due = {1, 1, 0, 1, 3, 1, 0};
        for (int kind = 0; kind < 7; kind++) {
            Due.is("cover of kind " + kind, Due.told("p" + kind + "90;").person(0, 3), due[kind]);
            Due.is("felt behind kind " + kind, Due.told("p" + kind + "00;p000;w0090;").person(1, 6), 9 - due[kind]);
        }
    }

    @Says(promise = 4, sentence = "WALKER 3 plus a third of FIGURE, cut")
    static void walkerHolds() {
        int[] due = {3, 3, 3, 4, 4, 4, 5, 5, 5, 6};
        for (int figure = 0; figure < 10; figure++) Due.is("figure " + figure, Due.told("p0" + figure + "0;").person(0, 4), due[figure]);
    }

    @Says(promise = 4, sentence = "HOODED a WALKER's and 2")
    static void hoodedHolds() {
        int[] due = {5, 5, 5, 6, 6, 6, 7, 7, 7, 8};
        for (int figure = 0; figure < 10; figure++) Due.is("figure " + figure, Due.told("p1" + figure + "0;").person(0, 4), due[figure]);
    }

    @Says(promise = 4, sentence = "LOW a WALKER's and 1")
    static void lowHolds() {
        int[] due = {4, 4, 4, 5, 5, 5, 6, 6, 6, 7};
        for (int figure = 0; figure < 10; figure++) Due.is("figure " + figure, Due.told("p2" + figure + "0;").person(0, 4), due[figure]);
    }

    @Says(promise = 4, sentence = "LANTERN 99")
    static void lanternHolds() {
        Due.is("figure 0", Due.told("p300;").person(0, 4), 99);
        Due.is("figure 9", Due.told("p390;").person(0, 4), 99);
    }

    @Says(promise = 4, sentence = "TALL a WALKER's less 1")
    static void tallHolds() {
        int[] due = {2, 2, 2, 3, 3, 3, 4, 4, 4, 5};
        for (int figure = 0; figure < 10; figure++) Due.is("figure " + figure, Due.told("p4" + figure + "0;").person(0, 4), due[figure]);
    }

    @Says(promise = 4, sentence = "NUN a LOW's and half of FIGURE, cut")
    static void nunHolds() {
        int[] due = {4, 4, 5, 6, 7, 7, 9, 9, 10, 11};
        for (int figure = 0; figure < 10; figure++) Due.is("figure " + figure, Due.told("p5" + figure + "0;").person(0, 4), due[figure]);
    }

    @Says(promise = 4, sentence = "SMALL as a LOW. FELT")
    static void smallHolds() {
        int[] due = {4, 4, 4, 5, 5, 5, 6, 6, 6, 7};
        for (int figure = 0; figure < 10; figure++) Due.is("figure " + figure, Due.told("p6" + figure + "0;").person(0, 4), due[figure]);
    }

    @Says(promise = 4, sentence = "WALKER 2; HOODED 1 less; LOW 1 less; LANTERN a HOODED's and 2; TALL a WALKER's and 1; NUN, SMALL as a LOW.")
    static void whatEachKindGives() {
        int[] due = {2, 1, 1, 3, 3, 1, 1};
        for (int kind = 0; kind < 7; kind++) Due.is("kind " + kind, Due.told("p" + kind + "90;").person(0, 5), due[kind]);
    }

    @Says(promise = 4, sentence = "COVER (3), HOLDS (4), GIVES (5), FELT at PLACE (6)")
    static void eachHasItsOwn() {
        LitAgain x = Due.told("p041;p330;p490;p581;p600;p231;p000;p190;w0060;");
        int[][] due = {{1, 4, 2, 6}, {1, 99, 3, 5}, {3, 5, 3, 5}, {1, 10, 1, 3}, {0, 4, 1, 5}, {0, 5, 1, 6}, {1, 3, 2, 6}, {1, 8, 1, 5}};
        for (int one = 0; one < due.length; one++) {
            for (int what = 3; what <= 6; what++) Due.is("person(" + one + ", " + what + ")", x.person(one, what), due[one][what - 3]);
        }
    }

    @Says(promise = 4, sentence = "FORCE less the COVER of who COVERS it, 0 at least")
    static void feltIs0AtLeast() {
        Due.is("force 2 behind a TALL", Due.told("p400;p000;w0020;").person(1, 6), 0);
        Due.is("force 3 behind a TALL", Due.told("p400;p000;w0030;").person(1, 6), 0);
        Due.is("force 4 behind a TALL", Due.told("p400;p000;w0040;").person(1, 6), 1);
        Due.is("force 0 behind a TALL", Due.told("p400;p000;").person(1, 6), 0);
        Due.is("force 9, nobody covers", Due.told("p400;p000;w0090;").person(0, 6), 9);
    }

    @Says(promise = 4, sentence = "FELT at PLACE (6)")
    static void feltIsThatOfThePlaceNow() {
        LitAgain x = Due.told("p000;w0050;w0170;w1290;d24;");
        Due.is("at place 0", x.person(0, 6), 5);
        x.go(0);
        Due.is("at place 1", x.person(0, 6), 7);
        LitAgain there = Due.told("p000;w0181;d01;m0;");
        Due.is("at the door", there.person(0, 6), 8);
        LitAgain last = Due.told("p000;w2470;d24;" + Due.many(24, "m0;"));
        Due.is("at place 24", last.person(0, 6), 7);
    }

    // ---- promise 10

    @Says(promise = 10, sentence = "in a ROW the number less by 1, more by 1")
    static void besideInARow() {
        LitAgain x = Due.told(Due.many(8, "p000;"));
        int[] due = {2, 5, 10, 20, 40, 80, 160, 64};
        for (int one = 0; one < 8; one++) Due.is("beside(" + one + ")", x.beside(one), due[one]);
    }

    @Says(promise = 10, sentence = "in a RING these, round")
    static void besideInARing() {
        LitAgain x = Due.told(Due.many(8, "p000;") + "f11;");
        int[] due = {130, 5, 10, 20, 40, 80, 160, 65};
        for (int one = 0; one < 8; one++) Due.is("beside(" + one + ")", x.beside(one), due[one]);
        LitAgain three = Due.told("p000;p000;p000;f11;");
        int[] dueOfThree = {6, 5, 3};
        for (int one = 0; one < 3; one++) Due.is("of three, beside(" + one + ")", three.beside(one), dueOfThree[one]);
    }

    @Says(promise = 10, sentence = "(of two the other once)")
    static void besideInARingOfTwo() {
        LitAgain x = Due.told("p001;p001;f12;");
        Due.is("beside(0)", x.beside(0), 2);
        Due.is("beside(1)", x.beside(1), 1);
        LitAgain lit = Due.told("p001;p000;f12;d01;");
        Due.is("lit once", lit.again(), 1);
    }

    @Says(promise = 10, sentence = "in PAIRS the other of its pair (0 and 1, 2 and 3, ..), the number less by 2, more by 2")
    static void besideInPairs() {
        LitAgain x = Due.told(Due.many(8, "p000;") + "f21;");
        int[] due = {6, 9, 25, 38, 100, 152, 144, 96};
        for (int one = 0; one < 8; one++) Due.is("beside(" + one + ")", x.beside(one), due[one]);
    }

    @Says(promise = 10, sentence = "those that there are")
    static void onlyThoseThatThereAre() {
        Due.is("one in a row", Due.told("p000;").beside(0), 0);
        Due.is("one in pairs", Due.told("p000;f21;").beside(0), 0);
        Due.is("two in pairs", Due.told("p000;p000;f21;").beside(1), 1);
        Due.is("the third of three in pairs", Due.told("p000;p000;p000;f21;").beside(2), 1);
        Due.is("the second of three in pairs", Due.told("p000;p000;p000;f21;").beside(1), 1);
        Due.is("the last of two in a row", Due.told("p000;p000;").beside(1), 1);
        Due.is("the last of four in pairs", Due.told("p000;p000;p000;p000;f21;").beside(3), 6);
    }

    @Says(promise = 10, sentence = "BESIDE one (bits). -1.")
    static void besideNobody() {
        Due.refused("beside(4)", x -> x.beside(4), -1);
        Due.refused("beside(-1)", x -> x.beside(-1), -1);
        Due.refused("beside(0) of nobody", LitAgain::new, x -> x.beside(0), -1);
        Due.refused("beside(8) of eight", () -> Due.told(Due.many(8, "p000;")), x -> x.beside(8), -1);
    }

    // ---- promise 11

    @Says(promise = 11, sentence = "from the front the one less by 1")
    static void coveredFromTheFront() {
        LitAgain x = Due.told("p000;p000;p000;");
        Due.is("the foremost", x.covers(0, 0), -9);
        Due.is("the next", x.covers(1, 0), 0);
        Due.is("the last", x.covers(2, 0), 1);
    }

    @Says(promise = 11, sentence = "(PAIRS: by 2)")
    static void coveredFromTheFrontInPairs() {
        LitAgain x = Due.told(Due.many(5, "p000;") + "f21;");
        int[] due = {-9, -9, 0, 1, 2};
        for (int one = 0; one < 5; one++) Due.is("covers(" + one + ", 0)", x.covers(one, 0), due[one]);
    }

    @Says(promise = 11, sentence = "from behind the one more by as much")
    static void coveredFromBehind() {
        LitAgain row = Due.told("p000;p000;p000;w0001;");
        int[] inRow = {1, 2, -9};
        for (int one = 0; one < 3; one++) Due.is("covers(" + one + ", 0) in a row", row.covers(one, 0), inRow[one]);
        LitAgain pairs = Due.told(Due.many(5, "p000;") + "f21;w0001;");
        int[] inPairs = {2, 3, 4, -9, -9};
        for (int one = 0; one < 5; one++) Due.is("covers(" + one + ", 0) in pairs", pairs.covers(one, 0), inPairs[one]);
    }

    @Says(promise = 11, sentence = "(RING: round, not itself)")
    static void coveredRound() {
        LitAgain x = Due.told("p000;p000;p000;f11;w0101;");
        int[] front = {2, 0, 1};
        int[] behind = {1, 2, 0};
        for (int one = 0; one < 3; one++) {
            Due.is("covers(" + one + ", 0)", x.covers(one, 0), front[one]);
            Due.is("covers(" + one + ", 1)", x.covers(one, 1), behind[one]);
        }
        Due.is("of two, from the front", Due.told("p000;p000;f11;").covers(0, 0), 1);
        Due.is("of two, from behind", Due.told("p000;p000;f11;w0001;").covers(1, 0), 0);
    }

    @Says(promise = 11, sentence = "(RING: round, not itself)")
    static void nobodyCoversItself() {
        LitAgain x = Due.told("p401;f11;w0050;w0151;");
        Due.is("from the front", x.covers(0, 0), -9);
        Due.is("from behind", x.covers(0, 1), -9);
        Due.is("felt", x.person(0, 6), 5);
        Due.is("it goes out", x.go(0), 0);
    }

    @Says(promise = 11, sentence = "across nobody")
    static void nobodyCoversAcross() {
        for (int form = 0; form < 3; form++) {
            LitAgain x = Due.told("p400;p400;p400;p400;w0072;f" + form + "1;");
            for (int one = 0; one < 4; one++) {
                Due.is("form " + form + ", covers(" + one + ", 0)", x.covers(one, 0), -9);
                Due.is("form " + form + ", felt by " + one, x.person(one, 6), 7);
            }
        }
    }

    @Says(promise = 11, sentence = "Who COVERS one at a PLACE; -9. -1 either.")
    static void coversNobodyOrNoPlace() {
        Due.refused("covers(4, 0)", x -> x.covers(4, 0), -1);
        Due.refused("covers(-1, 0)", x -> x.covers(-1, 0), -1);
        Due.refused("covers(0, -1)", x -> x.covers(0, -1), -1);
        Due.refused("covers(0, 25)", x -> x.covers(0, 25), -1);
        Due.refused("covers(4, 25), counted once", x -> x.covers(4, 25), -1);
        Due.refused("covers(0, 0) of nobody", LitAgain::new, x -> x.covers(0, 0), -1);
    }

    @Says(promise = 11, sentence = "WIND at PLACES 0 .. 24")
    static void coversAtTheFirstAndTheLastPlace() {
        LitAgain x = Due.told("p000;p000;w0001;w2401;d01;");
        Due.is("covers(0, 0)", x.covers(0, 0), 1);
        Due.is("covers(0, 24)", x.covers(0, 24), 1);
        Due.is("covers(0, 23)", x.covers(0, 23), -9);
    }
}
