/** For each promise of the document: ordinary inputs, its edges, wrong inputs, with answers worked out by hand. */
public final class PromiseTests {
    private static final long FAR = 4000000000000000000L;
    private static int checked = 0;
    private static int wrong = 0;

    private static void due(int promise, String what, long got, long want) {
        checked++;
        if (got != want) {
            wrong++;
            System.out.println("promise " + promise + ": " + what + " answered " + got + ", due is " + want);
        }
    }

    private static int tell(LitAgain x, String text) {
        for (char c : text.toCharArray()) x.feed(c);
        return x.road();
    }

    private static LitAgain told(String text) {
        LitAgain x = new LitAgain();
        int answer = tell(x, text);
        if (answer < 0) throw new IllegalStateException(text + " is no road: " + answer);
        return x;
    }

    public static void main(String[] args) {
        newObject();
        lettersAndRoads();
        roadFaults();
        people();
        windAndSettings();
        besideAndCovers();
        minutes();
        inMind();
        plans();
        otherPeople();
        rules();
        withoutWind();
        chances();
        numbers();
        nights();
        takingBack();
        otherForms();
        flames();
        games();
        matchesAndGaps();
        images();
        counts();
        System.out.println(checked + " answers looked at, " + wrong + " not as due");
        if (wrong != 0 || checked < 300) System.exit(1);
    }

    private static void newObject() {
        LitAgain x = new LitAgain();
        int[] first = {0, 0, 0, 0, 0, 1, 12, 0, 0, 0, 0, 0, 0, 0, 0, 0, 0};
        for (int what = 0; what < first.length; what++) due(1, "count(" + what + ")", x.count(what), first[what]);
        for (int place = 0; place < 25; place++) {
            due(1, "wind's force", x.wind(place, 0), 0);
            due(1, "wind's side", x.wind(place, 1), 0);
        }
        due(1, "lit", x.lit(), 0);
        due(1, "restore", x.restore(), -3);
    }

    private static void lettersAndRoads() {
        LitAgain x = new LitAgain();
        due(2, "feed(0)", x.feed(0), 1);
        due(2, "feed(255)", x.feed(255), 2);
        due(2, "feed(-1)", x.feed(-1), -4);
        due(2, "feed(256)", x.feed(256), -6);
        due(2, "feed(min)", x.feed(Integer.MIN_VALUE), -4);
        due(2, "count", x.count(7), 2);
        for (int i = 3; i <= 96; i++) due(2, "feed", x.feed('m'), i);
        due(2, "feed 97", x.feed('m'), -6);
        due(2, "feed below and full", x.feed(-1), -4);
        due(2, "count", x.count(7), 96);
        due(2, "refused", x.count(16), 2);
        due(3, "road of anything", x.road(), -1000);
        due(3, "letters are gone", x.count(7), 0);
        due(3, "feed again", x.feed('d'), 1);
        due(3, "road", x.road(), -1001);
        due(3, "statements", tell(x, "p091;p500;w2392;w0941;f12;d24;l1;l0;m0;m1;"), 10);
        due(3, "people", x.count(0), 2);
        due(3, "lit", x.lit(), 3);
        due(3, "figure", x.person(0, 1), 9);
        due(3, "force", x.wind(23, 0), 9);
        due(3, "side", x.wind(9, 1), 1);
        due(3, "place", x.count(2), 1);
        due(3, "minute", x.count(3), 2);
        due(3, "form", x.count(4), 1);
        due(3, "each", x.count(5), 2);
        due(3, "door", x.count(6), 24);
        due(3, "nothing is counted", x.count(13), 0);
        due(3, "96 letters", tell(new LitAgain(), "w0012;".repeat(16)), 16);
        due(3, "96 letters and none behind", tell(new LitAgain(), "m1;".repeat(31) + "w24"), -1096);
        due(3, "32 minutes' stops", tell(new LitAgain(), "m1;".repeat(32)), 32);
    }

    private static void fault(String text, int want) {
        LitAgain x = told("p301;d05;m0;m0;");
        x.go(0);
        due(3, text, tell(x, text), want);
        due(3, text + " changed nothing", x.count(0) * 1000 + x.count(2) * 100 + x.count(6) * 10 + x.lit(), 1351);
        due(3, text + " took the letters", x.count(7), 0);
        due(3, text + " was not counted", x.count(11) + x.count(12) + x.count(13) + x.count(14) + x.count(16), 0);
    }

    private static void roadFaults() {
        fault("", -1000);
        fault("x", -1000);
        fault(";", -1000);
        fault("p", -1001);
        fault("p0;", -1002);
        fault("p001", -1004);
        fault("p0011", -1004);
        fault("p001;q", -1005);
        fault("p001;;", -1005);
        fault("w00/0;", -1003);
        fault("w00:0;", -1003);
        fault("d5;", -1002);
        fault("d05;m", -1005);
        fault("f11;l9;m", -1008);
        fault("p701;w0003;x", -1011);
        fault("p700;", -2000);
        fault("p002;", -2000);
        fault("p601;", -2000);
        fault("p301;l1;l0;p600;l2;", -2016);
        fault("l1;", -2000);
        fault("w25001;", -1005);
        fault("w2511;", -2000);
        fault("w0013;", -2000);
        fault("w2492;f11;f31;", -2010);
        fault("f00;", -2000);
        fault("f03;", -2000);
        fault("d00;", -2000);
        fault("d25;", -2000);
        fault("d02;", -2000);
        fault("d03;m1;", -2004);
        fault("m2;", -2000);
        fault("m0;m1;m0;m0;", -2009);
        fault("p000;p000;p000;p000;p000;p000;p000;p000;", -2035);
        due(3, "door at place", tell(told("d05;m0;m0;"), "d02;"), 1);
    }

    private static void people() {
        String[] kinds = {"p09", "p19", "p29", "p39", "p49", "p59", "p69"};
        int[] covers = {1, 1, 0, 1, 3, 1, 0};
        int[] holds = {6, 8, 7, 99, 5, 11, 7};
        int[] gives = {2, 1, 1, 3, 3, 1, 1};
        for (int kind = 0; kind < 7; kind++) {
            LitAgain x = told(kinds[kind] + (kind == 6 ? "0;" : "1;") + "w0090;");
            due(4, "kind", x.person(0, 0), kind);
            due(4, "figure", x.person(0, 1), 9);
            due(4, "lit", x.person(0, 2), kind == 6 ? 0 : 1);
            due(4, "cover", x.person(0, 3), covers[kind]);
            due(4, "holds", x.person(0, 4), holds[kind]);
            due(4, "gives", x.person(0, 5), gives[kind]);
            due(4, "felt", x.person(0, 6), 9);
        }
        LitAgain x = told("p450;p080;p500;w0020;w0151;");
        due(4, "holds of figure 8", x.person(1, 4), 5);
        due(4, "holds of figure 5", x.person(0, 4), 3);
        due(4, "felt, not below 0", x.person(1, 6), 0);
        due(4, "felt behind a walker", x.person(2, 6), 1);
        x.go(0);
        due(4, "felt from behind", x.person(0, 6), 4);
        due(4, "nobody", x.person(3, 9), -1);
        due(4, "nobody", x.person(-1, 0), -1);
        due(4, "what", x.person(0, 7), -2);
        due(4, "what", x.person(0, -1), -2);

        x = told("p000;p600;");
        due(5, "light", x.light(0, 1), 0);
        due(5, "again", x.light(0, 1), 1);
        due(5, "lit", x.lit(), 1);
        due(5, "off", x.light(0, 0), 1);
        due(5, "lit", x.lit(), 0);
        due(5, "small", x.light(1, 1), -3);
        due(5, "small off", x.light(1, 0), 0);
        due(5, "nobody", x.light(2, 2), -1);
        due(5, "what", x.light(1, 2), -2);
        due(5, "what", x.light(1, -1), -2);

        x = told("p051;");
        due(6, "kind", x.kind(0, 6, 3), 5);
        due(6, "small is not lit", x.lit(), 0);
        due(6, "kind", x.kind(0, 4, 9), 63);
        due(6, "not lit by it", x.lit(), 0);
        x.light(0, 1);
        due(6, "kind", x.kind(0, 5, 0), 49);
        due(6, "lit as it was", x.lit(), 1);
        due(6, "nobody", x.kind(1, 9, -1), -1);
        due(6, "kind", x.kind(0, 7, -1), -2);
        due(6, "kind", x.kind(0, -1, 10), -2);
        due(6, "figure", x.kind(0, 0, -1), -4);
        due(6, "figure", x.kind(0, 0, 10), -6);
        due(6, "as it was", x.person(0, 0), 5);
    }

    private static void windAndSettings() {
        LitAgain x = new LitAgain();
        due(8, "blows", x.blows(24, 9, 2), 0);
        due(8, "blows", x.blows(24, 0, 1), 92);
        due(8, "blows", x.blows(0, 7, 0), 0);
        due(7, "force", x.wind(0, 0), 7);
        due(7, "side", x.wind(24, 1), 1);
        due(7, "place", x.wind(25, 2), -1);
        due(7, "place", x.wind(-1, 0), -1);
        due(7, "what", x.wind(0, 2), -2);
        due(7, "what", x.wind(0, -1), -2);
        due(8, "place", x.blows(25, -1, 0), -1);
        due(8, "place", x.blows(-1, 0, 0), -1);
        due(8, "force", x.blows(0, -1, 3), -4);
        due(8, "side", x.blows(0, 10, -1), -4);
        due(8, "force", x.blows(0, 10, 0), -6);
        due(8, "side", x.blows(0, 0, 3), -6);
        due(8, "as it was", x.wind(0, 0), 7);

        due(9, "form", x.set(0, 2), 0);
        due(9, "form", x.set(0, 1), 2);
        due(9, "each", x.set(1, 2), 1);
        due(9, "door", x.set(2, 24), 12);
        due(9, "door", x.set(2, 1), 24);
        due(9, "counted", x.count(4) * 100 + x.count(5) * 10 + x.count(6), 121);
        due(9, "what", x.set(3, -1), -2);
        due(9, "what", x.set(-1, 0), -2);
        due(9, "form", x.set(0, -1), -4);
        due(9, "form", x.set(0, 3), -6);
        due(9, "each", x.set(1, 0), -4);
        due(9, "each", x.set(1, 3), -6);
        due(9, "door", x.set(2, 0), -4);
        due(9, "door", x.set(2, 25), -6);
        x.set(2, 5);
        x.go(0);
        x.go(0);
        due(9, "door behind", x.set(2, 1), -3);
        due(9, "door here", x.set(2, 2), 5);
        due(9, "door below", x.set(2, 0), -4);
    }

    private static void besideAndCovers() {
        LitAgain x = told("p000;p000;p000;p000;p000;w0010;w0111;w0212;");
        int[] inRow = {2, 5, 10, 20, 8};
        int[] inRing = {18, 5, 10, 20, 9};
        int[] inPairs = {6, 9, 25, 6, 4};
        for (int one = 0; one < 5; one++) due(10, "in a row", x.beside(one), inRow[one]);
        due(11, "foremost", x.covers(0, 0), -9);
        due(11, "from the front", x.covers(3, 0), 2);
        due(11, "from behind", x.covers(3, 1), 4);
        due(11, "last", x.covers(4, 1), -9);
        due(11, "across", x.covers(3, 2), -9);
        due(11, "no wind yet", x.covers(4, 24), 3);
        x.set(0, 1);
        for (int one = 0; one < 5; one++) due(10, "in a ring", x.beside(one), inRing[one]);
        due(11, "round", x.covers(0, 0), 4);
        due(11, "round", x.covers(4, 1), 0);
        due(11, "across", x.covers(4, 2), -9);
        x.set(0, 2);
        for (int one = 0; one < 5; one++) due(10, "in pairs", x.beside(one), inPairs[one]);
        due(11, "pairs", x.covers(1, 0), -9);
        due(11, "pairs", x.covers(3, 0), 1);
        due(11, "pairs", x.covers(2, 1), 4);
        due(11, "pairs", x.covers(3, 1), -9);
        due(10, "nobody", x.beside(5), -1);
        due(10, "nobody", x.beside(-1), -1);
        due(11, "nobody", x.covers(5, 0), -1);
        due(11, "no place", x.covers(0, 25), -1);
        due(11, "no place", x.covers(0, -1), -1);
        due(11, "refused", x.count(11), 5);
        LitAgain two = told("p000;p000;f11;");
        due(10, "ring of two", two.beside(0), 2);
        due(11, "ring of two", two.covers(0, 0), 1);
        due(11, "ring of two", two.covers(1, 0), 0);
        LitAgain one = told("p000;f11;");
        due(10, "ring of one", one.beside(0), 0);
        due(11, "ring of one", one.covers(0, 0), -9);
    }

    private static void minutes() {
        // at place 0 the foremost walker goes out (4 above 3) and is lit again by the next
        LitAgain x = told("p001;p001;p000;p600;p000;w0040;d03;");
        due(12, "go", x.go(0), 2);
        due(13, "lit", x.lit(), 3);
        due(12, "go", x.go(1), 3);
        due(13, "lit", x.lit(), 7);
        due(12, "place", x.count(2), 1);
        due(12, "minute", x.count(3), 2);
        due(12, "what", x.go(2), -2);
        due(12, "what", x.go(-1), -2);
        due(12, "small is never lit", x.go(0), 3);
        x.go(0);
        due(12, "at the door", x.go(0), -3);
        due(12, "what first", x.go(2), -2);
        due(12, "minute", x.count(3), 4);
        due(13, "lit", x.lit(), 7);
        LitAgain each = told("p000;p001;p000;");
        due(12, "one each", each.go(0), 2);
        due(13, "the lesser first", each.lit(), 3);
        each = told("p000;p001;p000;f02;");
        due(12, "two each", each.go(0), 3);
        LitAgain ring = told("p001;p000;p000;p000;f11;");
        ring.go(0);
        due(13, "by numbers round", ring.lit(), 3);
        LitAgain gone = told("p001;p001;w0052;");
        due(12, "all go out at once", gone.go(1), 0);
        due(13, "nobody", gone.lit(), 0);
        LitAgain not = told("p001;p000;p000;p001;");
        not.go(0);
        due(13, "each lights its own", not.lit(), 15);
        not = told("p001;p000;p001;p000;");
        not.go(0);
        due(13, "not one twice", not.lit(), 15);
    }

    private static void inMind() {
        LitAgain x = told("p001;p000;p000;p600;w0242;w0392;d06;");
        due(14, "then 0", x.then(0), 1);
        due(14, "then 1", x.then(1), 3);
        due(14, "then 2", x.then(2), 7);
        due(14, "then 3", x.then(3), 0);
        due(14, "then 24", x.then(24), 0);
        due(14, "below", x.then(-1), -4);
        due(14, "room", x.then(25), -6);
        due(13, "only in mind", x.lit(), 1);
        due(16, "first", x.dark(0), 3);
        due(16, "longest", x.dark(1), 4);
        due(16, "what", x.dark(2), -2);
        due(16, "what", x.dark(-1), -2);
        due(17, "dark for", x.darkFor(0), 4);
        due(17, "dark for", x.darkFor(1), 4);
        due(17, "dark for", x.darkFor(2), 5);
        due(17, "dark for", x.darkFor(3), 6);
        due(17, "nobody", x.darkFor(4), -1);
        due(17, "nobody", x.darkFor(-1), -1);
        due(18, "lit by", x.litBy(2, 24), 1);
        due(18, "not yet", x.litBy(2, 1), -9);
        due(18, "lit by", x.litBy(1, 1), 0);
        due(18, "never", x.litBy(0, 24), -9);
        due(18, "nobody", x.litBy(4, -1), -1);
        due(18, "below", x.litBy(0, -1), -4);
        due(18, "room", x.litBy(0, 25), -6);
        due(15, "door", x.door(0), 0);
        x.blows(2, 3, 2);
        x.blows(3, 3, 2);
        due(15, "who", x.door(0), 7);
        due(15, "how many", x.door(1), 3);
        due(15, "light", x.door(2), 6);
        due(15, "what", x.door(3), -2);
        due(15, "what", x.door(-1), -2);
        due(16, "never dark", x.dark(0), -9);
        due(16, "never dark", x.dark(1), 0);
        LitAgain turns = told("p001;p001;p001;w0040;w0141;w0242;d04;");
        due(18, "the foremost", turns.litBy(0, 2), 1);
        due(18, "the last", turns.litBy(2, 2), 1);
        due(18, "not the middle one", turns.litBy(1, 24), -9);
        LitAgain twice = told("p091;p001;p391;w0042;w0172;d02;");
        due(18, "the first by numbers", twice.litBy(1, 1), 0);
        due(18, "last of several times", twice.litBy(1, 2), 2);
        LitAgain there = told("p001;d01;m0;");
        due(14, "there", there.then(5), 1);
        due(15, "there", there.door(1), 1);
        due(17, "there", there.darkFor(0), 0);
        due(16, "dark now", told("p000;").dark(0), 0);
    }

    private static void plans() {
        LitAgain x = told("p091;p090;p090;w0172;d02;");
        due(19, "all go out wherever", x.stop(), -9);
        x = told("p001;p000;p000;p000;d02;");
        due(19, "stop", x.stop(), 1);
        due(25, "match", x.match(), 12);
        x = told("p001;p000;p000;p000;p000;p000;d02;");
        due(19, "three minutes more", x.stop(), 3);
        x = told("p001;p001;d02;");
        due(19, "not more than without", x.stop(), -9);
        due(25, "not more than without", x.match(), -9);
        due(19, "nobody", new LitAgain().stop(), -9);
        due(25, "nobody", new LitAgain().match(), -9);
        x = told("p000;p300;p600;w0192;d03;");
        due(25, "latest, then least", x.match(), 20);
        x.blows(2, 9, 2);
        due(25, "only a lantern holds, and lights at last", x.match(), 21);
        x = told("p001;p000;p000;w0052;d03;");
        due(19, "from a calm place on", x.stop(), -9);
        x = told("p001;p000;p000;p000;m0;w0052;d02;");
        due(19, "places from now on", x.stop(), 11);
        x.blows(1, 5, 2);
        due(19, "no stop in the storm", x.stop(), -9);
        x = told("p001;p000;p000;p000;w0042;w0132;d03;");
        due(19, "out at once", x.stop(), -9);
        x.blows(0, 3, 2);
        x.blows(1, 4, 2);
        due(19, "all out behind", x.stop(), -9);
        x = told("p091;p000;p000;p000;p000;p000;w0062;w0142;d03;");
        due(19, "where the wind has passed", x.stop(), 23);
        x.set(2, 2);
        x.blows(1, 0, 2);
        due(19, "most, though longer", x.stop(), 13);
        due(19, "there", told("p001;p000;d01;m0;").stop(), -9);
    }

    private static void otherPeople() {
        // as a LOW one the foremost holds in 4 and gives 1
        LitAgain x = told("p001;p600;w0040;w0140;d02;");
        due(20, "lower", x.lower(), 0);
        x = told("p001;p600;d02;");
        due(20, "a small one grows", x.lower(), 1);
        due(20, "nobody", new LitAgain().lower(), -9);
        due(20, "not more", told("p001;p000;").lower(), -9);

        x = told("p001;p401;w0050;d01;");
        due(21, "changed", x.changed(), 1);
        due(21, "nobody", new LitAgain().changed(), -9);
        due(21, "not more", told("p001;p401;d01;").changed(), -9);
        due(21, "the first pair", told("p001;p001;p301;w0050;w0150;d02;").changed(), -9);

        x = told("p000;p001;p000;d01;");
        due(22, "order", x.order(0), 210);
        due(22, "how many", x.order(1), 2);
        x = told("p001;p401;w0050;d01;");
        due(22, "the tall one foremost", x.order(0), 1);
        due(22, "how many", x.order(1), 2);
        x = told("p001;p491;w0050;d01;");
        due(22, "as they are", x.order(0), 10);
        due(22, "what", x.order(2), -2);
        due(22, "what", x.order(-1), -2);
        due(22, "nobody", new LitAgain().order(0), -3);
        due(22, "seven", told("p000;p000;p000;p000;p000;p000;p000;").order(1), -3);
        due(22, "six", told("p000;p000;p000;p000;p000;p000;").order(0), 543210);
        due(22, "what first", new LitAgain().order(2), -2);
        due(22, "nobody holds", told("p091;p491;p091;w0072;w0180;d02;").order(1), 0);

        x = told("p000;p000;p000;p600;w0092;d02;");
        due(23, "lantern", x.lantern(0), 0);
        due(23, "how many", x.lantern(1), 3);
        x.set(2, 1);
        due(23, "lantern", x.lantern(0), 0);
        due(23, "how many", x.lantern(1), 2);
        due(23, "what", x.lantern(2), -2);
        due(23, "what", x.lantern(-1), -2);
        due(23, "nobody", new LitAgain().lantern(0), -3);
        due(23, "in the middle", told("p000;p000;p000;p000;p000;w0092;d02;f02;").lantern(0), 2);

        due(24, "how many", x.fewest(0), 2);
        due(24, "set", x.fewest(1), 3);
        x.set(2, 2);
        due(24, "how many", x.fewest(0), 1);
        due(24, "set", x.fewest(1), 1);
        due(24, "none needed", told("p001;p600;").fewest(1), 0);
        due(24, "nobody", new LitAgain().fewest(0), 0);
        due(24, "what", x.fewest(2), -2);
        due(24, "what", x.fewest(-1), -2);
        due(24, "all", told("p000;p000;w0192;w0092;d02;f01;").fewest(0), 1);

        x = told("p001;p000;p000;d01;");
        due(26, "tail", x.tail(), 1);
        due(26, "fewest of several", told("p000;p000;").tail(), 0);
        due(26, "all but one", told("p301;p000;p600;p600;d01;").tail(), 2);
        due(26, "nobody", new LitAgain().tail(), -3);
    }

    private static void rules() {
        LitAgain x = told("p001;p000;p000;p000;p000;p000;p000;w0030;w0160;d03;");
        due(27, "never", x.rule(0, 0), 0);
        due(27, "never", x.rule(0, 1), 3);
        // half of 7 needs 4: three stops; at place 1 only those whom a lit one covers may hold in 6: none
        due(27, "half", x.rule(1, 1), 6);
        due(27, "all, five at most", x.rule(2, 1), 8);
        due(27, "calm enough", x.rule(3, 1), 3);
        due(27, "ahead of a storm", x.rule(4, 1), 8);
        x.blows(1, 0, 0);
        due(27, "half", x.rule(1, 0), 7);
        due(27, "half", x.rule(1, 1), 6);
        due(27, "all", x.rule(2, 0), 7);
        due(27, "all", x.rule(2, 1), 8);
        due(27, "calm enough", x.rule(3, 0), 7);
        due(27, "calm enough", x.rule(3, 1), 8);
        due(27, "no storm", x.rule(4, 1), 3);
        due(27, "no storm", x.rule(4, 0), 4);
        due(27, "rule", x.rule(5, 0), -2);
        due(27, "rule", x.rule(-1, 0), -2);
        due(27, "what", x.rule(0, 2), -2);
        due(27, "what", x.rule(0, -1), -2);
        x = told("p001;p000;p000;p000;w0030;w0130;w0230;d01;");
        due(27, "half are not less", x.rule(1, 1), 2);
        due(27, "force above 2", x.rule(3, 1), 1);
        x.blows(0, 2, 0);
        due(27, "force of 2", x.rule(3, 1), 4);
        x.blows(1, 5, 0);
        due(27, "force of 5 ahead", x.rule(4, 1), 1);
        x.blows(1, 6, 0);
        due(27, "force of 6 ahead", x.rule(4, 1), 4);
        x = told("p001;p000;p000;p000;p000;p000;p000;w0030;d03;");
        due(28, "best", x.best(), 1);
        due(28, "nobody", new LitAgain().best(), 0);
        due(28, "least of several", told("p001;p000;").best(), 0);
        due(28, "as many in fewer minutes", told("p001;p000;p000;d01;").best(), 1);
        due(28, "most", told("p001;p000;p000;p000;p000;d01;").best(), 2);
        due(28, "ahead of a storm", told("p001;p000;p000;p000;p000;w0030;w0160;w0262;d02;").best(), 0);
        due(27, "five at each of 24 places", told("p001;p600;p000;d24;").rule(2, 1), 144);
        due(27, "five at one place", told("p001;p000;p000;p000;p000;p000;p000;p000;d01;").rule(2, 0), 7);
        due(27, "five at one place", told("p001;p000;p000;p000;p000;p000;p000;p000;d01;").rule(2, 1), 6);
    }

    private static void withoutWind() {
        LitAgain x = new LitAgain();
        due(29, "each itself", x.calm(99, 0), 99);
        due(29, "three reached", x.calm(7, 1), 3);
        due(29, "three reached", x.calm(6, 1), 2);
        due(29, "one", x.calm(99, 49), 1);
        due(29, "two", x.calm(99, 48), 2);
        due(29, "n", x.calm(0, 100), -4);
        due(29, "m", x.calm(100, -1), -4);
        due(29, "n", x.calm(100, 0), -6);
        due(29, "m", x.calm(1, 100), -6);
        due(30, "from the end", x.spreads(99, 0), 98);
        due(30, "from the middle", x.spreads(99, 49), 49);
        due(30, "from near it", x.spreads(10, 4), 5);
        due(30, "one", x.spreads(1, 0), 0);
        due(30, "n", x.spreads(0, 100), -4);
        due(30, "k", x.spreads(100, -1), -4);
        due(30, "n", x.spreads(100, 0), -6);
        due(30, "k", x.spreads(5, 100), -6);
        due(30, "k is n", x.spreads(5, 5), -1);
        due(30, "k is more", x.spreads(5, 99), -1);

        x = told("p001;p000;p600;p000;w0092;d01;");
        due(39, "behind a small one", x.all(), -9);
        x.set(0, 2);
        due(39, "in pairs", x.all(), 2);
        due(40, "behind 0", x.behind(0), 1);
        due(40, "behind 1", x.behind(1), 3);
        due(40, "behind 60", x.behind(60), 11);
        due(40, "below", x.behind(-1), -4);
        due(40, "room", x.behind(61), -6);
        due(39, "none lit", told("p000;").all(), -9);
        due(39, "small alone", told("p600;").all(), 0);
        due(39, "all are", told("p001;p600;").all(), 0);
        due(39, "farther than the door", told("p001;p000;p000;p000;d01;").all(), 3);
        due(40, "from who is lit now", told("p001;p000;p000;m0;").behind(1), 7);
    }

    private static void chances() {
        // felt 4, holds 3 less 2: three tenths
        LitAgain x = told("p001;w0042;w0142;w0242;");
        due(31, "now", x.chances(0, 0, 0), 1);
        due(31, "likely", x.chances(1, 0, 0), 7);
        due(31, "likely", x.chances(1, 0, 1), 10);
        due(31, "three minutes", x.chances(3, 0, 0), 343);
        due(31, "three minutes", x.chances(3, 0, 1), 1000);
        due(31, "mean", x.chances(2, 1, 0), 49);
        x = told("p001;p001;w0042;d01;");
        due(31, "one of two lights the other", x.chances(1, 0, 0), 91);
        due(31, "one of two lights the other", x.chances(1, 1, 0), 91);
        due(31, "one of two lights the other", x.chances(1, 1, 1), 50);
        x = told("p401;w0092;");
        due(31, "nine tenths at most", x.chances(1, 0, 1), 10);
        due(31, "nine tenths at most", x.chances(1, 0, 0), 1);
        x = told("p301;w0092;");
        due(31, "a lantern", x.chances(1, 0, 0), 1);
        x = told("p000;p600;");
        due(31, "nobody", x.chances(2, 1, 0), 0);
        due(31, "nobody", x.chances(2, 1, 1), 1);
        due(31, "below", x.chances(-1, 2, 2), FAR + 4);
        due(31, "room", x.chances(4, 2, 2), FAR + 6);
        due(31, "what", x.chances(0, 2, 0), FAR + 2);
        due(31, "part", x.chances(0, 0, -1), FAR + 2);
        due(31, "part", x.chances(0, 0, 2), FAR + 2);
        due(31, "five", told("p000;p000;p000;p000;p000;").chances(0, 0, 0), FAR + 3);
        due(31, "four", told("p001;p000;p000;p000;").chances(3, 1, 0), 4);
        x = told("p001;d02;");
        due(31, "door", x.chances(2, 0, 0), 1);
        due(31, "behind the door", x.chances(3, 0, 0), FAR + 3);
        due(31, "refused", x.count(13), 1);
    }

    private static void numbers() {
        LitAgain x = told("p000;p000;p600;d02;");
        due(34, "row", x.row(0), 1);
        due(32, "not as many", x.wax(0), -3);
        due(32, "what", x.wax(2), -2);
        due(32, "what", x.wax(-1), -2);
        x.row(0);
        x.row(2);
        due(32, "sets", x.wax(0), 3);
        due(32, "least", x.wax(1), 1);
        due(36, "it stays", x.clear(), 3);
        due(36, "none", x.clear(), 0);
        x.row(2);
        x.row(2);
        x.row(2);
        due(32, "nobody lit", x.wax(1), 0);
        due(32, "nobody lit", x.wax(0), 1);
        x.clear();
        x.row(1);
        x.row(1);
        x.row(2);
        due(32, "none", x.wax(0), 0);
        due(32, "none", x.wax(1), -9);
        x.clear();
        for (int i = 1; i <= 12; i++) due(34, "row", x.row(i == 1 ? 99 : 0), i);
        due(34, "full", x.row(0), -6);
        due(34, "below", x.row(-1), -4);
        due(34, "count", x.count(8), 12);
        x.clear();
        due(34, "above", x.row(100), -6);

        x = told("p001;p000;p000;d02;");
        due(35, "nothing said", x.judge(), -9);
        x.row(2);
        x.row(3);
        due(35, "so", x.judge(), -9);
        due(35, "none then", x.count(8), 0);
        x.row(2);
        x.row(3);
        x.row(3);
        due(35, "behind the door", x.judge(), 2);
        x.row(1);
        x.row(3);
        due(35, "the first", x.judge(), 0);
        due(35, "none then", x.clear(), 0);
        x.row(2);
        x.row(2);
        due(35, "the second", x.judge(), 1);
    }

    private static void nights() {
        LitAgain x = told("p301;d01;");
        due(37, "lit", x.seeds(20, 1, 0), 20);
        due(37, "dark", x.seeds(20, 1, 1), 0);
        x = told("p000;");
        due(37, "lit", x.seeds(3, -7, 0), 0);
        due(37, "dark", x.seeds(3, -7, 1), 3);
        due(37, "below", x.seeds(0, 0, 2), -4);
        due(37, "room", x.seeds(21, 0, 2), -6);
        due(37, "what", x.seeds(1, 0, 2), -2);
        due(37, "what", x.seeds(1, 0, -1), -2);
        // one night by hand: the draws of seed 1 for places 22, 23 and 24
        x = told("p001;p001;d22;" + "m0;".repeat(22));
        tell(x, "d24;");
        int z = 1;
        int[] drawn = new int[4];
        for (int i = 0; i < 4; i++) {
            z = z * 1103515245 + 12345;
            drawn[i] = ((z & 0x7fffffff) >> 16) % (i % 2 == 0 ? 10 : 3);
        }
        int lit = x.seeds(1, 1, 0);
        int dark = x.seeds(1, 1, 1);
        due(37, "nothing changes", x.wind(22, 0), 0);
        x.blows(22, drawn[0], drawn[1]);
        x.blows(23, drawn[2], drawn[3]);
        due(37, "a night", lit, x.door(1));
        due(37, "a night", dark, x.door(1) == 0 ? 1 : 0);

        x = told("p001;p001;w0040;w0141;d02;");
        due(33, "least of several", x.sides(), 0);
        due(33, "from behind", told("p001;p401;w0050;d01;f01;").sides(), 1);
        due(33, "across", told("p001;p401;d01;").sides(), 0);
        due(33, "nobody", new LitAgain().sides(), 0);
        due(33, "nothing changes", x.wind(1, 1), 1);
    }

    private static void takingBack() {
        LitAgain x = told("p001;p000;p000;p000;w0342;");
        due(38, "none", x.back(), -3);
        x.go(0);
        x.go(1);
        x.go(0);
        due(38, "to take back", x.count(10), 3);
        due(38, "back", x.back(), 1);
        due(38, "lit", x.lit(), 7);
        due(38, "minute", x.count(3), 2);
        due(38, "back", x.back(), 1);
        due(38, "lit", x.lit(), 3);
        due(38, "back", x.back(), 0);
        due(38, "lit", x.lit(), 1);
        due(38, "none", x.back(), -3);
        for (int i = 0; i < 10; i++) x.go(i % 2);
        due(38, "eight at most", x.count(10), 8);
        for (int i = 0; i < 8; i++) x.back();
        due(38, "the oldest is no more", x.count(3), 2);
        due(38, "none", x.back(), -3);
        x.go(0);
        x.light(9, 0);
        x.kind(9, 0, 0);
        x.blows(25, 0, 0);
        x.set(3, 0);
        x.restore();
        x.image();
        x.row(4);
        x.feed('x');
        x.road();
        due(38, "what is refused leaves them", x.count(10), 1);
        x.light(0, 1);
        due(38, "light", x.back(), -3);
        x.go(0);
        x.kind(0, 0, 0);
        due(38, "kind", x.back(), -3);
        x.go(0);
        x.blows(0, 0, 0);
        due(38, "blows", x.back(), -3);
        x.go(0);
        x.set(1, 1);
        due(38, "set", x.back(), -3);
        x.go(0);
        tell(x, "m0;");
        due(38, "a road", x.back(), -3);
        x.go(0);
        x.restore();
        due(38, "restore", x.back(), -3);
    }

    private static void otherForms() {
        LitAgain x = told("p001;p000;p000;p600;d02;");
        due(41, "how many", x.atFirst(0), 1);
        due(41, "set", x.atFirst(1), 1);
        x.set(2, 1);
        due(41, "how many", x.atFirst(0), 2);
        due(41, "set", x.atFirst(1), 3);
        x.blows(0, 9, 2);
        due(41, "none", x.atFirst(0), -9);
        due(41, "none", x.atFirst(1), -9);
        due(41, "what", x.atFirst(2), -2);
        due(41, "what", x.atFirst(-1), -2);
        due(41, "nobody needed", told("p600;").atFirst(0), 0);

        x = told("p000;p001;p000;d01;");
        due(42, "form", x.forms(0), 2);
        due(42, "how many", x.forms(1), 3);
        x = told("p001;p000;p000;d01;");
        due(42, "a ring", x.forms(0), 12);
        x = told("p000;p000;p001;p000;p600;d01;f22;");
        due(42, "least of several", x.forms(0), 2);
        due(42, "as it was", x.count(4), 2);
        due(42, "what", x.forms(2), -2);
        due(42, "what", x.forms(-1), -2);

        x = told("p001;p001;w0042;w0142;d03;");
        due(43, "one is not enough", x.calms(0), -9);
        due(43, "a pair", x.calms(1), 1);
        x.blows(0, 0, 0);
        due(43, "one", x.calms(0), 1);
        due(43, "the first pair with it", x.calms(1), 1);
        x = told("p001;m0;m0;w0292;w1192;");
        due(43, "from now on", x.calms(1), 211);
        due(43, "what", x.calms(2), -2);
        due(43, "what", x.calms(-1), -2);
        due(43, "nothing to win", told("p001;").calms(0), -9);
        due(43, "as it was", x.wind(2, 0), 9);

        x = told("p001;w0492;d02;");
        due(44, "farthest", x.farthest(), 4);
        x.blows(4, 0, 0);
        due(44, "farthest", x.farthest(), 24);
        x.light(0, 0);
        due(44, "none", x.farthest(), -9);
        due(44, "not 0", told("p001;w0092;").farthest(), -9);
        due(44, "here", told("p001;m0;w0192;").farthest(), 1);

        due(45, "turned", told("p401;p091;w0080;d01;").turned(), 0);
        due(45, "turned", told("p091;p401;w0060;d01;").turned(), 2);
        due(45, "lit goes too", told("p001;p000;p600;d01;").turned(), 2);
        due(45, "nobody", new LitAgain().turned(), 0);
    }

    private static void flames() {
        // 0 goes out at place 0 and is lit by 1; 1 goes out at place 1 (from behind) and is lit by 0
        LitAgain x = told("p001;p001;p600;w0040;w0141;d03;");
        due(46, "from the next", x.flame(0), 1);
        due(46, "its own back", x.flame(1), 1);
        due(46, "not lit", x.flame(2), -9);
        due(46, "nobody", x.flame(3), -1);
        due(46, "nobody", x.flame(-1), -1);
        due(47, "out", x.out(0), 1);
        due(47, "out", x.out(1), 1);
        due(47, "never", x.out(2), 0);
        due(47, "nobody", x.out(3), -1);
        due(47, "nobody", x.out(-1), -1);
        due(48, "again", x.again(), 2);
        due(48, "none", new LitAgain().again(), 0);
        x = told("p001;p000;p000;d02;");
        due(46, "handed on", x.flame(2), 0);
        due(48, "again", x.again(), 2);
        due(47, "at the door", told("p001;d01;m0;").out(0), 0);
        due(46, "at the door", told("p001;d01;m0;").flame(0), 0);
    }

    private static void games() {
        LitAgain x = told("p001;w0042;d01;");
        due(49, "nothing helps", x.game(0), 0);
        due(49, "sure", x.game(1), 0);
        due(49, "known", x.game(2), 0);
        x = told("p301;p000;d01;");
        due(49, "all the same", x.game(0), 0);
        due(49, "sure", x.game(1), 2);
        due(49, "known", x.game(2), 2);
        // a NUN behind a SMALL one lights the foremost in a RING or in PAIRS alone
        x = told("p120;p620;p541;w0041;d01;f12;");
        due(49, "the first form with most", x.game(0), 10);
        due(49, "sure", x.game(1), 2);
        due(49, "known", x.game(2), 2);
        due(49, "as it was", x.count(4), 1);
        // only in PAIRS the last lights two
        due(49, "pairs", told("p680;p401;p190;p061;w0040;d01;f22;").game(0), 20);
        // by ROW or RING from the front three are LIT, else two at most
        x = told("p471;p051;p541;w0062;d01;f01;");
        due(49, "the first side with fewest", x.game(0), 1);
        due(49, "sure", x.game(1), 2);
        due(49, "known", x.game(2), 2);
        due(49, "what", x.game(3), -2);
        due(49, "what", x.game(-1), -2);
        due(49, "as it was", x.wind(0, 1), 2);

        x = told("p001;p600;w0062;d01;");
        due(50, "lantern alone", x.heirs(0), 8);
        due(50, "a small one as any other", x.heirs(1), 0);
        x.blows(0, 4, 2);
        due(50, "all that hold in 4", x.heirs(0), 2 + 4 + 8 + 32);
        due(50, "as it was", x.person(0, 0), 0);
        due(50, "nobody", x.heirs(2), -1);
        due(50, "nobody", x.heirs(-1), -1);
        due(50, "lit from beside", told("p301;p600;d01;").heirs(1), 63);
    }

    private static void matchesAndGaps() {
        LitAgain x = told("p001;p000;p000;p000;p600;d03;");
        due(51, "how many", x.gaps(0), 3);
        due(51, "when", x.gaps(1), 1);
        x = told("p001;p001;w0192;d03;");
        due(51, "how many", x.gaps(0), 2);
        due(51, "when", x.gaps(1), 2);
        x = told("p001;p001;d03;");
        due(51, "none", x.gaps(0), 0);
        due(51, "none", x.gaps(1), -9);
        due(51, "what", x.gaps(2), -2);
        due(51, "what", x.gaps(-1), -2);
        due(51, "not round", told("p000;p001;p000;f11;p600;p600;p600;d01;").gaps(0), 4);

        x = told("p000;p000;w0192;w0292;d05;");
        due(52, "one is enough", x.matches(-1), 1);
        due(52, "behind the wind", x.matches(0), 3);
        due(52, "no second", x.matches(1), -9);
        due(52, "no fourth", x.matches(Integer.MAX_VALUE), -9);
        due(52, "below", x.matches(-2), -4);
        x.light(0, 1);
        x.blows(1, 0, 0);
        x.blows(2, 0, 0);
        due(52, "none needed", x.matches(-1), 0);
        due(52, "none needed", x.matches(0), -9);
        due(52, "small", told("p600;").matches(-1), -9);
        due(52, "at the door", told("p000;d01;m0;").matches(-1), -9);
        due(52, "at the door", told("p301;d01;m0;").matches(-1), 0);
        // the first match stays with 0, who can light nobody: the next one comes to the LANTERN
        x = told("p000;p600;p300;w0192;d02;");
        due(52, "two", x.matches(-1), 2);
        due(52, "two", x.matches(0), 0);
        due(52, "two", x.matches(1), 1);
        due(52, "no third", x.matches(2), -9);
        x = told("p000;p600;p000;p600;p300;w0192;w0592;d07;");
        due(52, "three", x.matches(-1), 1);
        due(52, "behind all wind", x.matches(0), 6);
        x.set(2, 6);
        due(52, "three", x.matches(-1), 3);
        due(52, "three", x.matches(0), 2);
        due(52, "three", x.matches(1), 3);
        due(52, "three", x.matches(2), 4);
        due(52, "no fourth", x.matches(3), -9);
        x.set(2, 2);
        due(52, "no room for three", x.matches(-1), -9);
        x = told("p000;p600;p000;p600;p300;w0292;d03;");
        due(52, "three from now on", x.matches(-1), 3);
        due(52, "three from now on", x.matches(0) * 100 + x.matches(1) * 10 + x.matches(2), 12);
    }

    private static void images() {
        LitAgain x = told("p001;p000;w0352;f21;d09;m0;");
        x.feed('p');
        x.row(3);
        x.go(5);
        due(53, "image", x.image(), 1);
        tell(x, "p390;w0341;f12;d10;m0;m0;");
        x.row(4);
        x.light(1, 0);
        due(54, "restore", x.restore(), 1);
        due(54, "people", x.count(0), 2);
        due(54, "lit", x.lit(), 3);
        due(54, "form", x.count(4), 2);
        due(54, "each", x.count(5), 1);
        due(54, "door", x.count(6), 9);
        due(54, "minute", x.count(3), 1);
        due(54, "force", x.wind(3, 0), 5);
        due(54, "side", x.wind(3, 1), 2);
        due(54, "the row is not in it", x.count(8), 2);
        due(54, "letters are not in it", x.count(7), 0);
        due(54, "refusals are not in it", x.count(12), 1);
        x.kind(0, 3, 3);
        x.go(0);
        due(54, "again", x.restore(), 1);
        due(54, "kind", x.person(0, 0), 0);
        x.go(0);
        due(53, "a later image", x.image(), 2);
        x.go(0);
        due(54, "the later one", x.restore(), 2);
        LitAgain none = new LitAgain();
        due(54, "none", none.restore(), -3);
        due(54, "refused", none.count(13), 1);
    }

    private static void counts() {
        LitAgain x = told("p491;p001;p600;f12;d20;m0;m1;");
        x.feed('a');
        x.feed('b');
        x.row(1);
        x.go(0);
        int[] due = {3, 2, 2, 3, 1, 2, 20, 2, 1, 5, 1, 0, 0, 0, 0, 0, 0};
        for (int what = 0; what < due.length; what++) due(55, "count(" + what + ")", x.count(what), due[what]);
        x.beside(3);
        x.go(2);
        x.light(2, 1);
        x.then(-1);
        x.then(25);
        x.chances(9, 9, 9);
        int[] refused = {1, 1, 1, 1, 0, 2};
        for (int i = 0; i < 6; i++) due(55, "refusals " + (-1 - i), x.count(11 + i), refused[i]);
        due(55, "another", x.count(17), -9);
        due(55, "another", x.count(-1), -9);
        due(55, "another", x.count(Integer.MAX_VALUE), -9);
        due(55, "it is not counted", x.count(12), 1);
    }
}
