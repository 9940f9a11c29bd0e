/** Letters, and the ROADS that they tell. */
final class SentencesOnRoads {
    private SentencesOnRoads() { }

    /** A text told to those who are at PLACE 2 of 5, a LANTERN alone: its FAULT, and that nothing changes by it. */
    private static void fault(String text, int due) {
        LitAgain x = onTheWay();
        Due.is(text, Due.tell(x, text), due);
        for (int what = 7; what <= 16; what++) {
            if (what != 9 && what != 10) Due.is(text + ", count(" + what + ")", x.count(what), 0);
        }
        Due.alike(text, x, onTheWay());
    }

    private static LitAgain onTheWay() {
        return Due.told("p301;w0341;d05;m0;m0;");
    }

    private static void comes(String text, int statements) {
        Due.is(text, Due.tell(onTheWay(), text), statements);
    }

    // ---- promise 2

    @Says(promise = 2, sentence = "A letter comes: how many there are. -4; -6 (255; 96, too).")
    static void lettersFrom0To255() {
        LitAgain x = new LitAgain();
        Due.is("feed(0)", x.feed(0), 1);
        Due.is("feed(255)", x.feed(255), 2);
        Due.is("count(7)", x.count(7), 2);
    }

    @Says(promise = 2, sentence = "A letter comes: how many there are. -4;")
    static void feedRefusesBelow() {
        Due.refused("feed(-1)", x -> x.feed(-1), -4);
        Due.refused("feed(least)", x -> x.feed(Integer.MIN_VALUE), -4);
    }

    @Says(promise = 2, sentence = "-6 (255; 96, too).")
    static void feedRefusesRoom() {
        Due.refused("feed(256)", x -> x.feed(256), -6);
        Due.refused("feed(greatest)", x -> x.feed(Integer.MAX_VALUE), -6);
    }

    @Says(promise = 2, sentence = "A ROAD is told in letters, one by one (96 at most)")
    static void lettersAre96AtMost() {
        LitAgain x = new LitAgain();
        for (int i = 1; i <= 96; i++) Due.is("feed " + i, x.feed(';'), i);
        Due.is("feed 97", x.feed(';'), -6);
        Due.is("count(7)", x.count(7), 96);
        Due.is("refused", x.count(16), 1);
        x.road();
        Due.is("room again", x.feed('m'), 1);
    }

    @Says(promise = 2, sentence = "-4 BELOW: a number below the least.")
    static void belowAheadOfNoRoom() {
        LitAgain x = new LitAgain();
        for (int i = 1; i <= 96; i++) x.feed(';');
        Due.is("feed(-1)", x.feed(-1), -4);
        Due.is("feed(256)", x.feed(256), -6);
        Due.is("refused below", x.count(14), 1);
        Due.is("refused for room, once", x.count(16), 1);
    }

    // ---- promise 3: FAULTS of kind 1

    @Says(promise = 3, sentence = "At least one STATEMENT.")
    static void noLettersAreNoRoad() {
        fault("", -1000);
        Due.is("nobody, no letters", new LitAgain().road(), -1000);
    }

    @Says(promise = 3, sentence = "kind 1 the place of the first letter with which no ROAD, however long, can go on")
    static void aStatementBeginsWithOneOfSixLetters() {
        for (char letter = 0; letter < 256; letter++) {
            LitAgain x = new LitAgain();
            x.feed(letter);
            boolean begins = "pwfdlm".indexOf(letter) >= 0;
            Due.is("letter " + (int) letter, x.road(), begins ? -1001 : -1000);
        }
        fault("m0;x", -1003);
        fault("m0;;", -1003);
        fault("m0; m0;", -1003);
        fault("m0;P001;", -1003);
    }

    @Says(promise = 3, sentence = "(a digit each; LIT 0 or 1, another one is out of range)")
    static void aDigitIsFrom0To9() {
        fault("p/01;", -1001);
        fault("p:01;", -1001);
        fault("p0/1;", -1002);
        fault("p0:1;", -1002);
        fault("p00/;", -1003);
        fault("p00:;", -1003);
        fault("w/050;", -1001);
        fault("w0:50;", -1002);
        fault("w00-0;", -1003);
        fault("w005x;", -1004);
        fault("f;1;", -1001);
        fault("f0;;", -1002);
        fault("d 5;", -1001);
        fault("d5;", -1002);
        fault("l;", -1001);
        fault("mm;", -1001);
    }

    @Says(promise = 3, sentence = "STATEMENTS, each with \";\" behind")
    static void eachStatementHasItsEnd() {
        fault("p0011;", -1004);
        fault("w00501;", -1005);
        fault("f012;", -1003);
        fault("d055;", -1003);
        fault("l00;", -1002);
        fault("m00;", -1002);
        fault("p001 ;", -1004);
        fault("p001:", -1004);
        comes("p001;", 1);
    }

    @Says(promise = 3, sentence = "(the end, if something lacks)")
    static void theEndIfSomethingLacks() {
        fault("p", -1001);
        fault("p0", -1002);
        fault("p00", -1003);
        fault("p001", -1004);
        fault("w2450", -1005);
        fault("f0", -1002);
        fault("d0", -1002);
        fault("l", -1001);
        fault("m", -1001);
        fault("m0", -1002);
        fault("m0;m", -1004);
        fault("p001;f1", -1007);
    }

    @Says(promise = 3, sentence = "no ROAD, however long, can go on")
    static void aFullTextMayLackItsEnd() {
        Due.is("96 letters", Due.tell(new LitAgain(), Due.many(31, "m1;") + "w24"), -1096);
        Due.is("96 letters, faulty at the last", Due.tell(new LitAgain(), Due.many(31, "m1;") + "m1m"), -1095);
        Due.is("96 letters, faulty at the last but one", Due.tell(new LitAgain(), Due.many(31, "m1;") + "mm1"), -1094);
    }

    @Says(promise = 3, sentence = "else kind 2 the place of the first letter of the first STATEMENT")
    static void aFaultOfKind1AnywhereComesFirst() {
        fault("p999;m", -1006);
        fault("d00;x", -1004);
        fault("m2;m2", -1005);
        fault("l9;l9;l9;m0", -1011);
    }

    // ---- promise 3: FAULTS of kind 2

    @Says(promise = 3, sentence = "a number out of range")
    static void kindsOfARoad() {
        comes("p600;", 1);
        fault("p700;", -2000);
        fault("p900;", -2000);
    }

    @Says(promise = 3, sentence = "LIT 0 or 1, another one is out of range")
    static void litOfARoad() {
        comes("p000;", 1);
        comes("p001;", 1);
        fault("p002;", -2000);
        fault("p009;", -2000);
        comes("p091;", 1);
    }

    @Says(promise = 3, sentence = "\"w\" a PLACE (2 digits), FORCE, SIDE (a digit each)")
    static void windOfARoad() {
        comes("w0000;w2492;", 2);
        fault("w2500;", -2000);
        fault("w9900;", -2000);
        fault("w2493;", -2000);
        fault("w0009;", -2000);
        LitAgain x = Due.told("w2492;w0071;");
        Due.is("wind(24, 0)", x.wind(24, 0), 9);
        Due.is("wind(24, 1)", x.wind(24, 1), 2);
        Due.is("wind(0, 0)", x.wind(0, 0), 7);
        Due.is("wind(0, 1)", x.wind(0, 1), 1);
    }

    @Says(promise = 3, sentence = "\"f\" FORM, EACH (a digit each)")
    static void formOfARoad() {
        comes("f01;f22;", 2);
        fault("f31;", -2000);
        fault("f00;", -2000);
        fault("f03;", -2000);
        LitAgain x = Due.told("f22;");
        Due.is("form", x.count(4), 2);
        Due.is("each", x.count(5), 2);
    }

    @Says(promise = 3, sentence = "\"d\" DOOR (2 digits)")
    static void doorOfARoad() {
        Due.is("least", Due.told("d01;").count(6), 1);
        Due.is("greatest", Due.told("d24;").count(6), 24);
        Due.is("0 at place 0", Due.tell(new LitAgain(), "d00;"), -2000);
        fault("d00;", -2000);
        fault("d25;", -2000);
        fault("d99;", -2000);
    }

    @Says(promise = 3, sentence = "DOOR less than PLACE, no MINUTE comes, no room")
    static void doorOfARoadNotBehindThem() {
        comes("d02;", 1);
        fault("d01;", -2000);
        fault("d05;m0;d02;", -2007);
    }

    @Says(promise = 3, sentence = "nobody such, SMALL and LIT")
    static void nobodySuchInARoad() {
        comes("l0;", 1);
        fault("l1;", -2000);
        fault("l9;", -2000);
        Due.is("of eight", Due.tell(Due.told(Due.many(8, "p000;")), "l7;"), 1);
        Due.is("of eight", Due.tell(Due.told(Due.many(8, "p000;")), "l8;"), -2000);
        Due.is("of none", Due.tell(new LitAgain(), "l0;"), -2000);
    }

    @Says(promise = 3, sentence = "SMALL and LIT, DOOR less than PLACE")
    static void smallAndLitInARoad() {
        comes("p600;", 1);
        fault("p601;", -2000);
        fault("p600;l1;", -2005);
    }

    @Says(promise = 3, sentence = "\"l\" one (a digit): LIT if it is not, not LIT if it is")
    static void lightOfARoad() {
        Due.is("lit", Due.told("p000;p000;l1;").lit(), 2);
        Due.is("not lit", Due.told("p001;p001;l1;").lit(), 1);
        Due.is("lit again", Due.told("p001;l0;l0;").lit(), 1);
    }

    @Says(promise = 3, sentence = "\"m\" 0 or 1 (a digit, another one is out of range): a MINUTE, 1 they STOP.")
    static void minutesOfARoad() {
        fault("m2;", -2000);
        fault("m9;", -2000);
        LitAgain x = Due.told("p001;p000;p000;m0;m1;");
        Due.is("place", x.count(2), 1);
        Due.is("minute", x.count(3), 2);
        Due.is("lit", x.lit(), 7);
    }

    @Says(promise = 3, sentence = "no MINUTE comes, no room")
    static void noMinuteAtTheDoorInARoad() {
        comes("m0;m0;m0;", 3);
        fault("m0;m0;m0;m0;", -2009);
        fault("m0;m0;m0;m1;", -2009);
        fault("d02;m1;", -2004);
        comes("m0;m0;m0;d06;m0;", 5);
    }

    @Says(promise = 3, sentence = "no room): -2000 less the place")
    static void noRoomForANinth() {
        Due.is("seven more", Due.tell(onTheWay(), Due.many(7, "p000;")), 7);
        fault(Due.many(8, "p000;"), -2035);
        Due.is("a ninth", Due.tell(Due.told(Due.many(8, "p000;")), "p000;"), -2000);
        LitAgain eight = Due.told(Due.many(8, "p000;"));
        Due.tell(eight, "p000;");
        Due.is("eight at most", eight.count(0), 8);
    }

    @Says(promise = 3, sentence = "the first letter of the first STATEMENT that, behind all ahead of it in the text, is not as it must be")
    static void theFirstFaultyStatementBehindAllAheadOfIt() {
        comes("p000;l1;", 2);
        fault("l1;p000;", -2000);
        fault("p000;l1;l2;p700;", -2008);
        fault("m0;f31;m2;d00;", -2003);
        comes("d24;m0;m0;m0;m0;", 5);
        comes("m0;m0;d04;", 3);
        fault("m0;m0;d03;", -2006);
    }

    @Says(promise = 3, sentence = "Without FAULT all of it comes, with one nothing.")
    static void withAFaultNothingComes() {
        LitAgain x = onTheWay();
        Due.is("all but the last are as they must be", Due.tell(x, "p401;p500;w0092;w2492;f22;d24;l0;m0;m1;m2;"), -2039);
        Due.alike("a faulty road", x, onTheWay());
        LitAgain all = Due.told("p401;p500;w0032;f02;d24;l1;m1;");
        Due.is("all of it", all.count(0) * 1000 + all.count(5) * 100 + all.count(6), 2224);
        Due.is("lit", all.lit(), 3);
    }

    @Says(promise = 3, sentence = "The letters, which are no more then (with a FAULT neither), are a ROAD: how many STATEMENTS")
    static void theLettersAreNoMoreThen() {
        LitAgain x = new LitAgain();
        Due.is("a road", Due.tell(x, "p001;"), 1);
        Due.is("letters behind it", x.count(7), 0);
        Due.is("a fault of kind 1", Due.tell(x, "p001"), -1004);
        Due.is("letters behind it", x.count(7), 0);
        Due.is("a fault of kind 2", Due.tell(x, "p701;"), -2000);
        Due.is("letters behind it", x.count(7), 0);
        Due.is("no more letters", x.road(), -1000);
        Due.is("one more", Due.tell(x, "p001;"), 1);
        Due.is("people", x.count(0), 2);
    }

    @Says(promise = 3, sentence = "the FAULT (nothing is counted).")
    static void faultsAreNotCounted() {
        LitAgain x = new LitAgain();
        Due.tell(x, "p");
        Due.tell(x, "p900;");
        x.road();
        for (int what = 11; what <= 16; what++) Due.is("count(" + what + ")", x.count(what), 0);
    }

    @Says(promise = 3, sentence = "how many STATEMENTS; the FAULT")
    static void howManyStatements() {
        Due.is("one", Due.tell(new LitAgain(), "m1;"), 1);
        Due.is("thirty-two", Due.tell(new LitAgain(), Due.many(32, "m1;")), 32);
        Due.is("sixteen", Due.tell(new LitAgain(), Due.many(16, "w0012;")), 16);
        Due.is("one of each", Due.tell(new LitAgain(), "p001;w0000;f01;d24;l0;m0;"), 6);
    }
}
