/** Lighting one, KINDS, WIND, FORM, EACH, DOOR: what is taken, and what is refused. */
final class SentencesOnSettings {
    private SentencesOnSettings() { }

    // ---- promise 5

    @Says(promise = 5, sentence = "LIT (1) or not (0): what it was.")
    static void whatItWas() {
        LitAgain x = Due.told("p000;p001;");
        Due.is("light(0, 1)", x.light(0, 1), 0);
        Due.is("light(0, 1) again", x.light(0, 1), 1);
        Due.is("lit", x.lit(), 3);
        Due.is("light(1, 0)", x.light(1, 0), 1);
        Due.is("light(1, 0) again", x.light(1, 0), 0);
        Due.is("lit", x.lit(), 1);
    }

    @Says(promise = 5, sentence = "`int light(int person, int lit)`: LIT (1) or not (0): what it was. -1; -2; -3 SMALL and 1.")
    static void lightRefusesNobody() {
        Due.refused("light(4, 1)", x -> x.light(4, 1), -1);
        Due.refused("light(-1, 1)", x -> x.light(-1, 1), -1);
        Due.refused("light(8, 0)", x -> x.light(8, 0), -1);
    }

    @Says(promise = 5, sentence = "`int light(int person, int lit)`: LIT (1) or not (0): what it was. -1; -2; -3 SMALL and 1.")
    static void lightRefusesOther() {
        Due.refused("light(0, 2)", x -> x.light(0, 2), -2);
        Due.refused("light(0, -1)", x -> x.light(0, -1), -2);
    }

    @Says(promise = 5, sentence = "`int light(int person, int lit)`: LIT (1) or not (0): what it was. -1; -2; -3 SMALL and 1.")
    static void lightRefusesState() {
        Due.refused("light(1, 1) of a SMALL one", x -> x.light(1, 1), -3);
    }

    @Says(promise = 5, sentence = "-3 SMALL and 1.")
    static void aSmallOneMayBeNotLit() {
        LitAgain x = Due.amidst();
        Due.is("light(1, 0)", x.light(1, 0), 0);
        Due.is("not refused", x.count(13), 0);
    }

    @Says(promise = 5, sentence = "the first that fits in the order in which it tells them")
    static void orderOfLightsRefusals() {
        Due.refused("light(4, 2)", x -> x.light(4, 2), -1);
        Due.refused("light(1, 2) of a SMALL one", x -> x.light(1, 2), -2);
    }

    @Says(promise = 5, sentence = "PEOPLE 0 .. 7")
    static void theLastOfEightIsLit() {
        LitAgain x = Due.told(Due.many(8, "p000;"));
        Due.is("light(7, 1)", x.light(7, 1), 0);
        Due.is("lit", x.lit(), 128);
    }

    // ---- promise 6

    @Says(promise = 6, sentence = "10 times the KIND and the FIGURE it had")
    static void theKindItHad() {
        LitAgain x = Due.told("p091;");
        Due.is("kind(0, 6, 0)", x.kind(0, 6, 0), 9);
        Due.is("kind(0, 0, 9)", x.kind(0, 0, 9), 60);
        Due.is("kind(0, 5, 4)", x.kind(0, 5, 4), 9);
        Due.is("kind(0, 5, 4)", x.kind(0, 5, 4), 54);
        Due.is("figure", x.person(0, 1), 4);
    }

    @Says(promise = 6, sentence = "(a SMALL one is not LIT then)")
    static void aSmallOneIsNotLitThen() {
        LitAgain x = Due.told("p091;p001;");
        x.kind(0, 6, 9);
        Due.is("lit", x.lit(), 2);
        x.kind(0, 0, 9);
        Due.is("it is not lit by growing", x.lit(), 2);
        x.kind(1, 4, 0);
        Due.is("who is not SMALL stays lit", x.lit(), 2);
    }

    @Says(promise = 6, sentence = "`int kind(int person, int kind, int figure)`: KIND, FIGURE: 10 times the KIND and the FIGURE it had (a SMALL one is not LIT then). -1; -2; -4; -6 9.")
    static void kindRefusesNobody() {
        Due.refused("kind(4, 0, 0)", x -> x.kind(4, 0, 0), -1);
        Due.refused("kind(-1, 0, 0)", x -> x.kind(-1, 0, 0), -1);
    }

    @Says(promise = 6, sentence = "`int kind(int person, int kind, int figure)`: KIND, FIGURE: 10 times the KIND and the FIGURE it had (a SMALL one is not LIT then). -1; -2; -4; -6 9.")
    static void kindRefusesOther() {
        Due.refused("kind(0, 7, 0)", x -> x.kind(0, 7, 0), -2);
        Due.refused("kind(0, -1, 0)", x -> x.kind(0, -1, 0), -2);
    }

    @Says(promise = 6, sentence = "`int kind(int person, int kind, int figure)`: KIND, FIGURE: 10 times the KIND and the FIGURE it had (a SMALL one is not LIT then). -1; -2; -4; -6 9.")
    static void kindRefusesBelow() {
        Due.refused("kind(0, 0, -1)", x -> x.kind(0, 0, -1), -4);
        Due.refused("kind(0, 0, least)", x -> x.kind(0, 0, Integer.MIN_VALUE), -4);
    }

    @Says(promise = 6, sentence = "`int kind(int person, int kind, int figure)`: KIND, FIGURE: 10 times the KIND and the FIGURE it had (a SMALL one is not LIT then). -1; -2; -4; -6 9.")
    static void kindRefusesRoom() {
        Due.refused("kind(0, 6, 10)", x -> x.kind(0, 6, 10), -6);
        Due.refused("kind(0, 0, greatest)", x -> x.kind(0, 0, Integer.MAX_VALUE), -6);
    }

    @Says(promise = 6, sentence = "the first that fits in the order in which it tells them")
    static void orderOfKindsRefusals() {
        Due.refused("kind(4, 7, -1)", x -> x.kind(4, 7, -1), -1);
        Due.refused("kind(0, 7, -1)", x -> x.kind(0, 7, -1), -2);
        Due.refused("kind(0, 7, 10)", x -> x.kind(0, 7, 10), -2);
    }

    @Says(promise = 6, sentence = "a FIGURE (0 .. 9)")
    static void everyKindAndFigureIsTaken() {
        LitAgain x = Due.told("p000;");
        int had = 0;
        for (int kind = 0; kind < 7; kind++) {
            for (int figure = 0; figure < 10; figure++) {
                Due.is("kind(0, " + kind + ", " + figure + ")", x.kind(0, kind, figure), had);
                had = 10 * kind + figure;
            }
        }
        Due.is("kind", x.person(0, 0), 6);
        Due.is("figure", x.person(0, 1), 9);
    }

    // ---- promise 7

    @Says(promise = 7, sentence = "FORCE (what 0), SIDE (1) at a PLACE. -1; -2.")
    static void windRefusesNobody() {
        Due.refused("wind(25, 0)", x -> x.wind(25, 0), -1);
        Due.refused("wind(-1, 0)", x -> x.wind(-1, 0), -1);
        Due.refused("wind(greatest, 0)", x -> x.wind(Integer.MAX_VALUE, 0), -1);
        Due.refused("wind(25, 2)", x -> x.wind(25, 2), -1);
    }

    @Says(promise = 7, sentence = "FORCE (what 0), SIDE (1) at a PLACE. -1; -2.")
    static void windRefusesOther() {
        Due.refused("wind(0, 2)", x -> x.wind(0, 2), -2);
        Due.refused("wind(0, -1)", x -> x.wind(0, -1), -2);
    }

    @Says(promise = 7, sentence = "WIND at PLACES 0 .. 24")
    static void windAtTheFirstAndTheLastPlace() {
        LitAgain x = Due.told("w0091;w2482;d01;");
        Due.is("wind(0, 0)", x.wind(0, 0), 9);
        Due.is("wind(0, 1)", x.wind(0, 1), 1);
        Due.is("wind(24, 0)", x.wind(24, 0), 8);
        Due.is("wind(24, 1)", x.wind(24, 1), 2);
    }

    // ---- promise 8

    @Says(promise = 8, sentence = "10 times the FORCE and the SIDE it had")
    static void theWindItHad() {
        LitAgain x = new LitAgain();
        Due.is("blows(0, 9, 2)", x.blows(0, 9, 2), 0);
        Due.is("blows(0, 0, 0)", x.blows(0, 0, 0), 92);
        Due.is("blows(0, 1, 1)", x.blows(0, 1, 1), 0);
        Due.is("blows(24, 9, 2)", x.blows(24, 9, 2), 0);
        Due.is("blows(24, 9, 2)", x.blows(24, 9, 2), 92);
        Due.is("force at 0", x.wind(0, 0), 1);
        Due.is("side at 0", x.wind(0, 1), 1);
        Due.is("force at 24", x.wind(24, 0), 9);
    }

    @Says(promise = 8, sentence = "-1; -4 either; -6 (9; 2).")
    static void blowsRefusesNobody() {
        Due.refused("blows(25, 0, 0)", x -> x.blows(25, 0, 0), -1);
        Due.refused("blows(-1, 0, 0)", x -> x.blows(-1, 0, 0), -1);
    }

    @Says(promise = 8, sentence = "-1; -4 either; -6 (9; 2).")
    static void blowsRefusesBelow() {
        Due.refused("blows(0, -1, 0)", x -> x.blows(0, -1, 0), -4);
        Due.refused("blows(0, 0, -1)", x -> x.blows(0, 0, -1), -4);
        Due.refused("blows(0, -1, -1), counted once", x -> x.blows(0, -1, -1), -4);
    }

    @Says(promise = 8, sentence = "-1; -4 either; -6 (9; 2).")
    static void blowsRefusesRoom() {
        Due.refused("blows(0, 10, 0)", x -> x.blows(0, 10, 0), -6);
        Due.refused("blows(0, 0, 3)", x -> x.blows(0, 0, 3), -6);
        Due.refused("blows(0, 10, 3), counted once", x -> x.blows(0, 10, 3), -6);
    }

    @Says(promise = 8, sentence = "the first that fits in the order in which it tells them")
    static void orderOfBlowsRefusals() {
        Due.refused("blows(25, -1, 3)", x -> x.blows(25, -1, 3), -1);
        Due.refused("blows(-1, 10, 0)", x -> x.blows(-1, 10, 0), -1);
        Due.refused("blows(0, 10, -1)", x -> x.blows(0, 10, -1), -4);
        Due.refused("blows(0, -1, 3)", x -> x.blows(0, -1, 3), -4);
    }

    // ---- promise 9

    @Says(promise = 9, sentence = "FORM (what 0), EACH (1), DOOR (2) becomes v: what it was.")
    static void whatItWasSetTo() {
        LitAgain x = new LitAgain();
        Due.is("set(0, 2)", x.set(0, 2), 0);
        Due.is("set(0, 0)", x.set(0, 0), 2);
        Due.is("set(0, 1)", x.set(0, 1), 0);
        Due.is("set(1, 2)", x.set(1, 2), 1);
        Due.is("set(1, 1)", x.set(1, 1), 2);
        Due.is("set(2, 24)", x.set(2, 24), 12);
        Due.is("set(2, 1)", x.set(2, 1), 24);
        Due.is("set(2, 1)", x.set(2, 1), 1);
        Due.is("form", x.count(4), 1);
        Due.is("each", x.count(5), 1);
        Due.is("door", x.count(6), 1);
    }

    @Says(promise = 9, sentence = "becomes v: what it was. -2; -4; -6;")
    static void setRefusesOther() {
        Due.refused("set(3, 0)", x -> x.set(3, 0), -2);
        Due.refused("set(-1, 0)", x -> x.set(-1, 0), -2);
    }

    @Says(promise = 9, sentence = "becomes v: what it was. -2; -4; -6;")
    static void setRefusesBelow() {
        Due.refused("set(0, -1)", x -> x.set(0, -1), -4);
        Due.refused("set(1, 0)", x -> x.set(1, 0), -4);
        Due.refused("set(2, 0)", x -> x.set(2, 0), -4);
        Due.refused("set(2, least)", x -> x.set(2, Integer.MIN_VALUE), -4);
    }

    @Says(promise = 9, sentence = "becomes v: what it was. -2; -4; -6;")
    static void setRefusesRoom() {
        Due.refused("set(0, 3)", x -> x.set(0, 3), -6);
        Due.refused("set(1, 3)", x -> x.set(1, 3), -6);
        Due.refused("set(2, 25)", x -> x.set(2, 25), -6);
        Due.refused("set(2, greatest)", x -> x.set(2, Integer.MAX_VALUE), -6);
    }

    @Says(promise = 9, sentence = "-3 DOOR less than PLACE.")
    static void theDoorIsNotBehindThem() {
        Due.refused("set(2, 1) at place 2", x -> x.set(2, 1), -3);
        LitAgain x = Due.amidst();
        Due.is("set(2, 2) at place 2", x.set(2, 2), 5);
        Due.is("they are there", x.go(0), -3);
        LitAgain far = Due.told("d24;" + Due.many(24, "m0;"));
        Due.is("set(2, 23) at place 24", far.set(2, 23), -3);
        Due.is("set(2, 24) at place 24", far.set(2, 24), 24);
    }

    @Says(promise = 9, sentence = "the first that fits in the order in which it tells them")
    static void orderOfSetsRefusals() {
        Due.refused("set(3, -1)", x -> x.set(3, -1), -2);
        Due.refused("set(-1, 99)", x -> x.set(-1, 99), -2);
        Due.refused("set(2, 0) at place 2", x -> x.set(2, 0), -4);
        Due.refused("set(2, -1) at place 2", x -> x.set(2, -1), -4);
    }

    @Says(promise = 9, sentence = "DOOR less than PLACE.")
    static void formAndEachMayBeLessThanThePlace() {
        LitAgain x = Due.amidst();
        Due.is("set(0, 0) at place 2", x.set(0, 0), 1);
        Due.is("set(1, 1) at place 2", x.set(1, 1), 2);
    }
}
