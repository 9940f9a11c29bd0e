import java.util.function.Consumer;

/** MINUTES taken back, the IMAGE, counts and REFUSALS. */
final class SentencesOnImages {
    private SentencesOnImages() { }

    // ---- promise 38

    @Says(promise = 38, sentence = "MINUTES that went by (by go() alone) can be taken BACK, the latest first, 8 at most (older ones no more")
    static void eightMinutesAtMost() {
        LitAgain x = Due.told("p001;d24;");
        for (int i = 1; i <= 9; i++) {
            x.go(0);
            Due.is("minutes to take back behind " + i, x.count(10), Math.min(i, 8));
        }
        for (int place = 8; place >= 1; place--) Due.is("back()", x.back(), place);
        Due.is("older ones no more", x.back(), -3);
        Due.is("place", x.count(2), 1);
        LitAgain twice = Due.told("p001;d24;");
        for (int i = 0; i < 8; i++) twice.go(0);
        twice.back();
        twice.go(1);
        twice.go(1);
        Due.is("the ninth", twice.count(10), 8);
        Due.is("the latest first", twice.back(), 7);
        Due.is("minute", twice.count(3), 8);
    }

    @Says(promise = 38, sentence = "LIT, PLACE, MINUTE are as ahead of it.")
    static void allIsAsAheadOfIt() {
        LitAgain x = Due.told("p001;p000;p000;w0142;d12;");
        x.go(0);
        x.go(1);
        Due.is("all went out", x.lit(), 0);
        Due.is("back from a stop", x.back(), 1);
        Due.is("lit", x.lit(), 3);
        Due.is("minute", x.count(3), 1);
        Due.is("back from walking", x.back(), 0);
        Due.is("lit", x.lit(), 1);
        Due.is("minute", x.count(3), 0);
        Due.is("to take back", x.count(10), 0);
    }

    @Says(promise = 38, sentence = "8 at most (older ones no more")
    static void theOldestGoesWithAllThatItKept() {
        LitAgain x = Due.told("p001;" + Due.many(7, "p000;") + "d24;");
        int[] lits = new int[11];
        for (int i = 0; i < 11; i++) {
            lits[i] = x.lit();
            x.go(i % 2);
        }
        for (int i = 10; i >= 3; i--) {
            Due.is("place ahead of minute " + i, x.back(), (i + 1) / 2);
            Due.is("minute", x.count(3), i);
            Due.is("lit", x.lit(), lits[i]);
        }
        Due.is("the fourth is the oldest", x.back(), -3);
        Due.is("four are lit then", x.lit(), 15);
    }

    @Says(promise = 38, sentence = "(by go() alone)")
    static void aRoadsMinutesAreNotTakenBack() {
        LitAgain x = Due.told("p001;m0;m1;");
        Due.is("count(10)", x.count(10), 0);
        Due.is("back()", x.back(), -3);
    }

    @Says(promise = 38, sentence = "BACK: PLACE. -3 none.")
    static void noMinuteToTakeBack() {
        Due.refused("of a new one", LitAgain::new, x -> x.back(), -3);
        LitAgain x = new LitAgain();
        x.go(0);
        x.back();
        Due.is("taken back already", x.back(), -3);
        x.go(2);
        Due.is("a refused minute", x.count(10), 0);
        LitAgain there = Due.told("d01;m0;");
        there.go(0);
        Due.is("none came", there.count(10), 0);
    }

    private static void leavesNone(String call, Consumer<LitAgain> asked) {
        LitAgain x = Due.told("p001;p000;");
        x.image();
        x.go(0);
        x.go(0);
        asked.accept(x);
        Due.is(call + ", count(10)", x.count(10), 0);
        Due.is(call + ", back()", x.back(), -3);
    }

    private static void leavesThem(String call, Consumer<LitAgain> asked) {
        LitAgain x = Due.told("p001;p000;p600;d05;");
        x.go(0);
        x.go(0);
        asked.accept(x);
        Due.is(call + ", count(10)", x.count(10), 2);
        Due.is(call + ", back()", x.back(), 1);
    }

    @Says(promise = 38, sentence = "light(), kind(), blows(), set(), a ROAD, restore(), where they are not refused, leave none")
    static void sixCallsLeaveNone() {
        leavesNone("light", x -> x.light(0, 0));
        leavesNone("light as it was", x -> x.light(0, 1));
        leavesNone("kind", x -> x.kind(0, 0, 0));
        leavesNone("blows", x -> x.blows(24, 0, 0));
        leavesNone("set the form", x -> x.set(0, 0));
        leavesNone("set each", x -> x.set(1, 1));
        leavesNone("set the door", x -> x.set(2, 12));
        leavesNone("a road", x -> Due.tell(x, "f01;"));
        leavesNone("restore", LitAgain::restore);
    }

    @Says(promise = 38, sentence = "where they are not refused, leave none")
    static void refusedTheyLeaveThem() {
        leavesThem("light of nobody", x -> x.light(3, 0));
        leavesThem("light of another what", x -> x.light(0, 2));
        leavesThem("light of a small one", x -> x.light(2, 1));
        leavesThem("kind of nobody", x -> x.kind(3, 0, 0));
        leavesThem("another kind", x -> x.kind(0, 7, 0));
        leavesThem("a figure below", x -> x.kind(0, 0, -1));
        leavesThem("a figure above", x -> x.kind(0, 0, 10));
        leavesThem("no place", x -> x.blows(25, 0, 0));
        leavesThem("a force below", x -> x.blows(0, -1, 0));
        leavesThem("a side above", x -> x.blows(0, 0, 3));
        leavesThem("another what", x -> x.set(3, 0));
        leavesThem("each below", x -> x.set(1, 0));
        leavesThem("a form above", x -> x.set(0, 3));
        leavesThem("a door behind them", x -> x.set(2, 1));
        leavesThem("no image", LitAgain::restore);
    }

    @Says(promise = 38, sentence = "light(), kind(), blows(), set(), a ROAD, restore()")
    static void otherCallsLeaveThem() {
        leavesThem("an image", LitAgain::image);
        leavesThem("letters", x -> x.feed('m'));
        leavesThem("a row", x -> x.row(0));
        leavesThem("judged", LitAgain::judge);
        leavesThem("cleared", LitAgain::clear);
        leavesThem("wax", x -> x.wax(0));
        leavesThem("then", x -> x.then(3));
        leavesThem("nights", x -> x.seeds(2, 1, 0));
        leavesThem("a minute that is refused", x -> x.go(2));
    }

    // ---- promise 53

    @Says(promise = 53, sentence = "THE IMAGE is taken: PLACE.")
    static void theImageIsTaken() {
        Due.is("at place 0", new LitAgain().image(), 0);
        Due.is("at place 24", Due.told("d24;" + Due.many(24, "m0;")).image(), 24);
        LitAgain x = Due.told("p001;m0;");
        x.image();
        x.go(0);
        Due.is("a later one", x.image(), 2);
        x.go(0);
        Due.is("the later one", x.restore(), 2);
    }

    @Says(promise = 53, sentence = "THE IMAGE: all that there is, but it, letters, the ROW, REFUSALS.")
    static void allThatTheImageHolds() {
        LitAgain x = Due.told("p091;p540;w0352;w2491;f21;d09;m0;");
        x.image();
        Due.tell(x, "p300;w0341;w2402;f12;d10;l0;m0;m0;");
        x.kind(0, 4, 2);
        x.kind(1, 2, 3);
        x.light(1, 1);
        Due.is("restore()", x.restore(), 1);
        LitAgain was = Due.told("p091;p540;w0352;w2491;f21;d09;m0;");
        was.image();
        Due.alike("restored", x, was);
    }

    @Says(promise = 53, sentence = "but it, letters, the ROW, REFUSALS.")
    static void whatTheImageDoesNotHold() {
        LitAgain x = new LitAgain();
        x.feed('m');
        x.row(1);
        x.go(2);
        x.image();
        x.feed('0');
        x.feed(';');
        x.row(2);
        x.go(3);
        x.restore();
        Due.is("letters", x.count(7), 3);
        Due.is("numbers", x.count(8), 2);
        Due.is("refusals", x.count(12), 2);
        Due.is("the letters are there", x.road(), 1);
        Due.is("the image is there", x.restore(), 0);
        Due.is("and again", x.restore(), 0);
    }

    // ---- promise 54

    @Says(promise = 54, sentence = "It is RESTORED: PLACE. -3 there is none.")
    static void noImage() {
        Due.refused("restore()", LitAgain::new, x -> x.restore(), -3);
        Due.refused("restore() with people", () -> Due.told("p001;m0;"), x -> x.restore(), -3);
        LitAgain x = Due.told("p001;");
        x.image();
        x.go(0);
        Due.is("restored", x.restore(), 0);
        x.go(1);
        x.go(0);
        Due.is("restored again", x.restore(), 0);
        Due.is("minute", x.count(3), 0);
    }

    @Says(promise = 54, sentence = "It is RESTORED: PLACE.")
    static void anImageOfNobody() {
        LitAgain x = new LitAgain();
        x.image();
        Due.tell(x, "p001;p000;d24;m0;");
        Due.is("restored", x.restore(), 0);
        Due.is("people", x.count(0), 0);
        Due.is("lit", x.lit(), 0);
        Due.is("door", x.count(6), 12);
        Due.is("person(0, 0)", x.person(0, 0), -1);
    }

    // ---- promise 55

    @Says(promise = 55, sentence = "0 PEOPLE, 1 LIT ones, 2 PLACE, 3 MINUTE, 4 FORM, 5 EACH, 6 DOOR, 7 letters, 8 in the ROW, 9 LIGHT now, 10 MINUTES that can be taken BACK")
    static void whatIsCounted() {
        LitAgain x = Due.told("p491;p001;p600;p500;f22;d20;m0;m1;");
        x.feed('a');
        x.feed('b');
        x.feed('c');
        x.row(1);
        x.go(0);
        int[] due = {4, 3, 2, 3, 2, 2, 20, 3, 1, 6, 1};
        for (int what = 0; what < due.length; what++) Due.is("count(" + what + ")", x.count(what), due[what]);
    }

    @Says(promise = 55, sentence = "-9 for another what.")
    static void anotherWhat() {
        LitAgain x = new LitAgain();
        for (int what : new int[] {-1, 17, 18, 100, Integer.MAX_VALUE, Integer.MIN_VALUE}) Due.is("count(" + what + ")", x.count(what), -9);
        for (int refusal = 1; refusal <= 6; refusal++) Due.is("it is no refusal", x.count(10 + refusal), 0);
    }

    @Says(promise = 55, sentence = "11 .. 16 REFUSALS -1 .. -6.")
    static void refusalsAreCounted() {
        LitAgain x = new LitAgain();
        x.beside(0);
        x.go(2);
        x.go(3);
        for (int i = 0; i < 3; i++) x.back();
        for (int i = 0; i < 4; i++) x.row(-1);
        for (int i = 0; i < 6; i++) x.row(100);
        int[] due = {1, 2, 3, 4, 0, 6};
        for (int i = 0; i < 6; i++) Due.is("refusals " + (-1 - i), x.count(11 + i), due[i]);
        x.chances(-1, 0, 0);
        x.chances(4, 0, 0);
        x.chances(0, 2, 0);
        x.chances(3, 0, 0);
        int[] more = {1, 3, 3, 5, 0, 7};
        for (int i = 0; i < 6; i++) Due.is("with those of longs, " + (-1 - i), x.count(11 + i), more[i]);
    }

    @Says(promise = 55, sentence = "nothing changes but how many there were")
    static void noneIsNoRefusal() {
        LitAgain x = new LitAgain();
        x.dark(0);
        x.stop();
        x.lower();
        x.changed();
        x.match();
        x.judge();
        x.calms(0);
        x.farthest();
        x.gaps(1);
        x.matches(-1);
        x.matches(7);
        for (int refusal = 1; refusal <= 6; refusal++) Due.is("-9 is no refusal", x.count(10 + refusal), 0);
    }

    @Says(promise = 55, sentence = "An object is used for at most 512 calls after it has been made")
    static void the512thCallIsAnswered() {
        LitAgain x = new LitAgain();
        for (int call = 1; call <= 510; call++) x.go(2);
        Due.is("the 511th", x.go(0), 0);
        Due.is("the 512th", x.count(12), 510);
        LitAgain far = new LitAgain();
        for (int call = 1; call <= 511; call++) Due.is("go(1)", far.go(1), 0);
        Due.is("minute", far.count(3), 511);
    }
}
