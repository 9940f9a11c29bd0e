import java.util.ArrayList;
import java.util.List;
import java.util.function.ToLongFunction;

/** What comes if all walk on: who is LIT, dark, lit by whom, whose light, how often, how wide a gap. */
final class SentencesInMind {
    private SentencesInMind() { }

    // ---- promise 14

    @Says(promise = 14, sentence = "THEN: who is LIT (bits) behind n MINUTES (0 .. 24; no farther than the DOOR).")
    static void behind0To24Minutes() {
        LitAgain x = Due.told("p001;p000;w2342;d24;");
        Due.is("then(0)", x.then(0), 1);
        Due.is("then(1)", x.then(1), 3);
        Due.is("then(23)", x.then(23), 3);
        Due.is("then(24)", x.then(24), 0);
    }

    @Says(promise = 14, sentence = "no farther than the DOOR")
    static void noFartherThanTheDoor() {
        LitAgain x = Due.told("p001;p000;p000;p000;w0292;d02;");
        Due.is("then(1)", x.then(1), 3);
        Due.is("then(2)", x.then(2), 7);
        Due.is("then(3)", x.then(3), 7);
        Due.is("then(24)", x.then(24), 7);
        LitAgain there = Due.told("p001;p000;p000;d01;m0;");
        Due.is("then(1) at the door", there.then(1), 3);
        Due.is("nobody there", new LitAgain().then(24), 0);
    }

    @Says(promise = 14, sentence = "THEN (bits). -4; -6 24.")
    static void thenRefusesBelow() {
        Due.refused("then(-1)", x -> x.then(-1), -4);
        Due.refused("then(least)", x -> x.then(Integer.MIN_VALUE), -4);
    }

    @Says(promise = 14, sentence = "THEN (bits). -4; -6 24.")
    static void thenRefusesRoom() {
        Due.refused("then(25)", x -> x.then(25), -6);
        Due.refused("then(greatest)", x -> x.then(Integer.MAX_VALUE), -6);
    }

    @Says(promise = 14, sentence = "In mind, all walking on from now (to the DOOR)")
    static void onlyInMind() {
        LitAgain x = Due.amidst();
        x.then(24);
        x.door(0);
        x.dark(1);
        x.stop();
        x.tail();
        x.match();
        x.seeds(3, 3, 0);
        x.matches(0);
        x.behind(60);
        x.chances(1, 0, 0);
        Due.alike("asking", x, Due.amidst());
    }

    private static List<ToLongFunction<LitAgain>> allInMind() {
        List<ToLongFunction<LitAgain>> all = new ArrayList<>(List.of(
            LitAgain::stop, LitAgain::lower, LitAgain::changed, LitAgain::match, LitAgain::tail, LitAgain::best,
            LitAgain::sides, LitAgain::all, LitAgain::farthest, LitAgain::turned, LitAgain::again,
            x -> x.then(2), x -> x.behind(2), x -> x.game(0), x -> x.game(1), x -> x.chances(2, 1, 0), x -> x.seeds(7, 7, 0)));
        for (int i = 0; i < 2; i++) {
            int what = i;
            all.addAll(List.of(
                x -> x.door(what), x -> x.dark(what), x -> x.order(what), x -> x.lantern(what), x -> x.fewest(what),
                x -> x.atFirst(what), x -> x.forms(what), x -> x.calms(what), x -> x.gaps(what), x -> x.wax(what)));
        }
        for (int i = 0; i < 4; i++) {
            int one = i;
            all.addAll(List.of(
                x -> x.darkFor(one), x -> x.litBy(one, 9), x -> x.flame(one), x -> x.out(one), x -> x.heirs(one),
                x -> x.rule(one, 1), x -> x.matches(one - 1)));
        }
        return all;
    }

    /** Another state, without a ROAD. */
    private static void change(LitAgain x) {
        x.kind(0, 0, 9);
        x.kind(2, 5, 4);
        x.light(3, 1);
        x.light(1, 0);
        x.blows(1, 5, 1);
        x.blows(2, 7, 2);
        x.set(0, 1);
        x.set(2, 4);
        x.go(0);
        for (int i = 0; i < 4; i++) x.row(i % 2);
    }

    @Says(promise = 14, sentence = "all walking on from now")
    static void fromNowWhateverWasAskedBefore() {
        String road = "p401;p001;p600;p090;w0050;w0192;w0392;f22;d09;";
        List<ToLongFunction<LitAgain>> all = allInMind();
        LitAgain asked = Due.told(road);
        for (ToLongFunction<LitAgain> call : all) call.applyAsLong(asked);
        change(asked);
        for (int i = 0; i < all.size(); i++) {
            LitAgain fresh = Due.told(road);
            change(fresh);
            long due = all.get(i).applyAsLong(fresh);
            asked.game(0);
            Due.is("call " + i + " of allInMind, behind a game", all.get(i).applyAsLong(asked), due);
            asked.lower();
            Due.is("call " + i + " of allInMind, behind others", all.get(i).applyAsLong(asked), due);
        }
    }

    /** All is as after the ROAD, but it came call by call to others, in another wind, who were asked before. */
    private static LitAgain byCalls(String road, List<ToLongFunction<LitAgain>> askedBefore) {
        LitAgain due = Due.told(road);
        LitAgain x = Due.told(Due.many(due.count(0), "p291;") + "w0091;w0191;w0291;w0391;d24;f21;" + Due.many(due.count(2), "m0;"));
        for (ToLongFunction<LitAgain> call : askedBefore) call.applyAsLong(x);
        for (int one = 0; one < due.count(0); one++) {
            x.kind(one, due.person(one, 0), due.person(one, 1));
            x.light(one, due.person(one, 2));
        }
        for (int place = 0; place <= 24; place++) x.blows(place, due.wind(place, 0), due.wind(place, 1));
        for (int what = 0; what <= 2; what++) x.set(what, due.count(4 + what));
        return withItsMarks(x);
    }

    /** The ROW tells what wax() asks for. */
    private static LitAgain withItsMarks(LitAgain x) {
        for (int one = 0; one < x.count(0); one++) x.row(x.darkFor(one));
        return x;
    }

    private static long[] answersOneByOne(String road, List<ToLongFunction<LitAgain>> all) {
        long[] answers = new long[all.size()];
        for (int i = 0; i < answers.length; i++) answers[i] = all.get(i).applyAsLong(withItsMarks(Due.told(road)));
        return answers;
    }

    @Says(promise = 14, sentence = "In mind, all walking on from now")
    static void fromNowHoweverItCameToBeSo() {
        List<ToLongFunction<LitAgain>> all = allInMind();
        String[] roads = {
            "p401;p001;p600;p090;w0050;w0192;w0392;f22;d09;", "p500;p190;p391;p000;w0042;w0182;f11;d02;",
            "p001;p000;p600;p001;p000;p000;w0042;d03;f12;", "p471;p051;p541;p000;w0062;w0171;d04;",
            "p000;p600;p001;p600;p000;p000;w0080;m0;w0162;d03;l4;", "p461;p490;p200;p051;w0162;w0062;d02;f02;",
            "p001;p401;p600;p000;w0050;d01;", "p091;p580;p291;p000;p400;p600;p001;p120;w0132;w0262;d05;m0;",
            "p000;p600;p600;p000;w0092;d03;", "p600;p600;p000;p001;p401;w0150;w0051;d02;f21;"};
        for (String road : roads) {
            long[] due = answersOneByOne(road, all);
            LitAgain onward = byCalls(road, all);
            LitAgain backward = byCalls(road, List.of());
            for (int i = 0; i < due.length; i++) {
                int last = due.length - 1 - i;
                Due.is(road + " call " + i + " alone", all.get(i).applyAsLong(byCalls(road, List.of())), due[i]);
                Due.is(road + " call " + i + " behind those before it", all.get(i).applyAsLong(onward), due[i]);
                Due.is(road + " call " + last + " behind those after it", all.get(last).applyAsLong(backward), due[last]);
            }
        }
    }

    // ---- promise 15

    @Says(promise = 15, sentence = "AT DOOR: who is LIT there; how many; LIGHT there (GIVES of all LIT).")
    static void whoIsLitAtTheDoor() {
        LitAgain x = Due.told("p001;p300;p400;p600;p500;w0292;d02;");
        Due.is("who", x.door(0), 7);
        Due.is("how many", x.door(1), 3);
        Due.is("light", x.door(2), 8);
        LitAgain there = Due.told("p001;p000;p000;w0192;d01;m0;");
        Due.is("who, at the door", there.door(0), 3);
        Due.is("how many, at the door", there.door(1), 2);
        Due.is("light, at the door", there.door(2), 4);
        Due.is("nobody", new LitAgain().door(2), 0);
    }

    @Says(promise = 15, sentence = "who (what 0, bits), how many (1), LIGHT (2). -2.")
    static void doorRefusesOther() {
        Due.refused("door(3)", x -> x.door(3), -2);
        Due.refused("door(-1)", x -> x.door(-1), -2);
    }

    // ---- promise 16

    @Says(promise = 16, sentence = "DARK: behind how many MINUTES (0: now) nobody is LIT first; -9")
    static void whenNobodyIsLitFirst() {
        Due.is("now", Due.told("p000;").dark(0), 0);
        Due.is("nobody there", new LitAgain().dark(0), 0);
        Due.is("behind one", Due.told("p001;w0042;").dark(0), 1);
        Due.is("behind two", Due.told("p001;w0142;").dark(0), 2);
        Due.is("the last minute", Due.told("p001;w2342;d24;").dark(0), 24);
        Due.is("never", Due.told("p001;w1292;").dark(0), -9);
        Due.is("now, at the door", Due.told("p000;d01;m0;").dark(0), 0);
        Due.is("never, at the door", Due.told("p001;w0192;d01;m0;").dark(0), -9);
    }

    @Says(promise = 16, sentence = "the greatest number of MINUTES, one behind the other, at whose ends nobody is LIT")
    static void nowIsNoMinutesEnd() {
        Due.is("all of three", Due.told("p000;d03;").dark(1), 3);
        Due.is("the last of three", Due.told("p001;w0242;d03;").dark(1), 1);
        Due.is("all of 24", Due.told("d24;").dark(1), 24);
        Due.is("none", Due.told("p001;d03;").dark(1), 0);
        Due.is("no minute", Due.told("p000;d01;m0;").dark(1), 0);
    }

    @Says(promise = 16, sentence = "DARK: the first (what 0; -9), the greatest number (1). -2.")
    static void darkRefusesOther() {
        Due.refused("dark(2)", x -> x.dark(2), -2);
        Due.refused("dark(-1)", x -> x.dark(-1), -2);
    }

    // ---- promise 17

    @Says(promise = 17, sentence = "at how many MINUTES' ends one is not LIT")
    static void nowDoesNotCountTheDoorDoes() {
        LitAgain x = Due.told("p001;p000;p600;w0242;d03;");
        Due.is("lit till the last", x.darkFor(0), 1);
        Due.is("dark now, lit in the first", x.darkFor(1), 1);
        Due.is("small", x.darkFor(2), 3);
        Due.is("out and lit again is not dark", Due.told("p001;p091;w0042;d01;").darkFor(0), 0);
        Due.is("no minute", Due.told("p000;d01;m0;").darkFor(0), 0);
        Due.is("all of 24", Due.told("p000;d24;").darkFor(0), 24);
    }

    @Says(promise = 17, sentence = "At how many MINUTES' ends one is not LIT. -1.")
    static void darkForRefusesNobody() {
        Due.refused("darkFor(4)", x -> x.darkFor(4), -1);
        Due.refused("darkFor(-1)", x -> x.darkFor(-1), -1);
        Due.refused("darkFor(0) of nobody", LitAgain::new, x -> x.darkFor(0), -1);
    }

    // ---- promise 18

    @Says(promise = 18, sentence = "LIT BY: who lit one last within n MINUTES; -9 nobody.")
    static void whoLitOneLast() {
        // 0 lights 1; at place 1 both go out, and the LANTERN lights 1
        LitAgain x = Due.told("p001;p000;p301;w0142;d02;");
        Due.is("nobody within 0", x.litBy(1, 0), -9);
        Due.is("within 1", x.litBy(1, 1), 0);
        Due.is("within 2", x.litBy(1, 2), 2);
        LitAgain two = Due.told("p301;p001;p301;w0042;d01;");
        Due.is("of two the first by numbers", two.litBy(1, 1), 0);
    }

    @Says(promise = 18, sentence = "within n MINUTES; -9 nobody")
    static void withinNoMinuteNobodyIsLit() {
        LitAgain x = Due.told("p001;p000;p000;p600;d02;");
        Due.is("litBy(1, 0)", x.litBy(1, 0), -9);
        Due.is("litBy(1, 1)", x.litBy(1, 1), 0);
        Due.is("litBy(2, 1)", x.litBy(2, 1), -9);
        Due.is("litBy(2, 2)", x.litBy(2, 2), 1);
        Due.is("lit all along", x.litBy(0, 24), -9);
        Due.is("small", x.litBy(3, 24), -9);
    }

    @Says(promise = 18, sentence = "no farther than the DOOR")
    static void litByNobodyBehindTheDoor() {
        LitAgain x = Due.told("p001;p000;p000;d01;");
        Due.is("litBy(2, 24)", x.litBy(2, 24), -9);
        Due.is("litBy(1, 24)", x.litBy(1, 24), 0);
        LitAgain far = Due.told("p001;p301;w2342;d24;");
        Due.is("within 23", far.litBy(0, 23), -9);
        Due.is("within 24", far.litBy(0, 24), 1);
    }

    @Says(promise = 18, sentence = "LIT BY; -9. -1; -4; -6 24.")
    static void litByRefusesNobody() {
        Due.refused("litBy(4, 0)", x -> x.litBy(4, 0), -1);
        Due.refused("litBy(-1, 0)", x -> x.litBy(-1, 0), -1);
        Due.refused("litBy(4, -1)", x -> x.litBy(4, -1), -1);
        Due.refused("litBy(4, 25)", x -> x.litBy(4, 25), -1);
    }

    @Says(promise = 18, sentence = "LIT BY; -9. -1; -4; -6 24.")
    static void litByRefusesBelow() {
        Due.refused("litBy(0, -1)", x -> x.litBy(0, -1), -4);
    }

    @Says(promise = 18, sentence = "LIT BY; -9. -1; -4; -6 24.")
    static void litByRefusesRoom() {
        Due.refused("litBy(0, 25)", x -> x.litBy(0, 25), -6);
    }

    @Says(promise = 18, sentence = "LIT BY; -9. -1; -4; -6 24.")
    static void within24MinutesIsNotRefused() {
        Due.is("litBy(0, 24)", Due.amidst().litBy(0, 24), -9);
    }

    // ---- promise 46

    @Says(promise = 46, sentence = "the one of those LIT now from whom the light comes that it has at the DOOR")
    static void whoseLightItIs() {
        LitAgain x = Due.told("p001;p000;p000;p000;d03;");
        for (int one = 0; one < 4; one++) Due.is("flame(" + one + ")", x.flame(one), 0);
        LitAgain now = Due.told("p001;p000;p001;d01;m0;");
        Due.is("at the door, its own", now.flame(2), 2);
    }

    @Says(promise = 46, sentence = "(by who lit it last, and what light that one had then, and so on back)")
    static void theLightThatOneHadThen() {
        // 0 goes out at place 0 and is lit by 1; 1 goes out at place 1 and is lit by 0 with its own light again
        LitAgain x = Due.told("p001;p001;w0040;w0141;d02;");
        Due.is("flame(0)", x.flame(0), 1);
        Due.is("flame(1)", x.flame(1), 1);
        x.blows(0, 0, 0);
        x.blows(1, 0, 0);
        Due.is("without wind, its own", x.flame(0), 0);
        // 1 is lit by 0 in the first minute; 0 goes out in the second and gets the light back
        LitAgain late = Due.told("p001;p000;p001;w0140;d02;");
        Due.is("its own, by the next", late.flame(0), 0);
        Due.is("handed on", late.flame(1), 0);
        // 1 lights 2, then goes out and is lit by 0: 2 has the light that 1 had
        LitAgain then = Due.told("p301;p001;p090;w0142;d02;");
        Due.is("another light now", then.flame(1), 0);
        Due.is("the light that it had", then.flame(2), 1);
    }

    @Says(promise = 46, sentence = "-9 it is not LIT there.")
    static void noFlameAtTheDoor() {
        LitAgain x = Due.told("p001;p000;p000;p600;d01;");
        Due.is("not yet lit", x.flame(2), -9);
        Due.is("small", x.flame(3), -9);
        Due.is("gone out", Due.told("p001;w0042;d01;").flame(0), -9);
    }

    @Says(promise = 46, sentence = "FLAME; -9. -1.")
    static void flameRefusesNobody() {
        Due.refused("flame(4)", x -> x.flame(4), -1);
        Due.refused("flame(-1)", x -> x.flame(-1), -1);
        Due.refused("flame(0) of nobody", LitAgain::new, x -> x.flame(0), -1);
    }

    // ---- promise 47

    @Says(promise = 47, sentence = "WENT OUT: how many times one goes out to the DOOR")
    static void howManyTimesOneGoesOut() {
        LitAgain x = Due.told("p001;p391;p000;w0042;w0142;w0242;d02;");
        Due.is("each minute to the door", x.out(0), 2);
        Due.is("never", x.out(1), 0);
        Due.is("who is never lit", x.out(2), 0);
        LitAgain all = Due.told("p001;p301;d24;");
        for (int place = 0; place <= 24; place++) all.blows(place, 4, 2);
        Due.is("each minute of 24", all.out(0), 24);
        Due.is("lit again as often", all.again(), 24);
        Due.is("at the door", Due.told("p001;w0192;d01;m0;").out(0), 0);
        LitAgain nearer = Due.told("p001;w0192;d02;");
        Due.is("ahead of the door", nearer.out(0), 1);
        nearer.set(2, 1);
        Due.is("the wind is the door's now", nearer.out(0), 0);
    }

    @Says(promise = 47, sentence = "WENT OUT. -1.")
    static void outRefusesNobody() {
        Due.refused("out(4)", x -> x.out(4), -1);
        Due.refused("out(-1)", x -> x.out(-1), -1);
        Due.refused("out(0) of nobody", LitAgain::new, x -> x.out(0), -1);
    }

    // ---- promise 48

    @Says(promise = 48, sentence = "LIT AGAIN: how many times all together are lit.")
    static void howManyTimesAllAreLit() {
        Due.is("each once", Due.told("p001;p000;p000;d03;").again(), 2);
        Due.is("one twice", Due.told("p001;p391;w0042;w0142;d02;").again(), 2);
        Due.is("the last minute, too", Due.told("p001;p000;d01;").again(), 1);
        Due.is("by the wind of the first place", Due.told("p001;p391;w0042;d03;").again(), 1);
        Due.is("by the wind of the last place", Due.told("p001;p391;w0242;d03;").again(), 1);
        Due.is("nobody", new LitAgain().again(), 0);
        Due.is("at the door", Due.told("p001;p000;p000;d01;m0;").again(), 0);
    }

    // ---- promise 51

    @Says(promise = 51, sentence = "the greatest number of people side by side (by numbers) not LIT at the end of some MINUTE to the DOOR")
    static void theWidestGap() {
        Due.is("at the back", Due.told("p301;p600;p600;d01;").gaps(0), 2);
        Due.is("in front", Due.told("p600;p600;p301;d01;").gaps(0), 2);
        Due.is("in the middle", Due.told("p301;p600;p600;p600;p301;d01;").gaps(0), 3);
        Due.is("not together", Due.told("p600;p301;p600;d01;").gaps(0), 1);
        Due.is("not round", Due.told("p600;p301;p600;p600;f11;d01;").gaps(0), 2);
        Due.is("all eight", Due.told(Due.many(8, "p000;")).gaps(0), 8);
    }

    @Says(promise = 51, sentence = "at the end of some MINUTE to the DOOR; the first MINUTE (1 ..) with so many")
    static void theFirstMinuteWithIt() {
        LitAgain now = Due.told("p001;p000;p000;p000;d03;");
        Due.is("now is no minute's end", now.gaps(0), 2);
        Due.is("the first is 1", now.gaps(1), 1);
        LitAgain last = Due.told("p001;p001;w0242;d03;");
        Due.is("the end at the door", last.gaps(0), 2);
        Due.is("the third", last.gaps(1), 3);
        LitAgain stays = Due.told("p301;p600;w0042;d05;");
        Due.is("the first of several", stays.gaps(1), 1);
        Due.is("not behind the door", Due.told("p001;p001;w0342;d03;").gaps(0), 0);
    }

    @Says(promise = 51, sentence = "the first MINUTE (1; -9). -2.")
    static void noGapEver() {
        Due.is("how many", Due.told("p001;p001;").gaps(0), 0);
        Due.is("none ever", Due.told("p001;p001;").gaps(1), -9);
        Due.is("nobody", new LitAgain().gaps(1), -9);
        Due.is("no minute", Due.told("p000;d01;m0;").gaps(1), -9);
        Due.is("no minute, how many", Due.told("p000;d01;m0;").gaps(0), 0);
    }

    @Says(promise = 51, sentence = "GAPS: how many (what 0), the first MINUTE (1; -9). -2.")
    static void gapsRefusesOther() {
        Due.refused("gaps(2)", x -> x.gaps(2), -2);
        Due.refused("gaps(-1)", x -> x.gaps(-1), -2);
    }
}
