/** What comes in a MINUTE, and where none comes. */
final class SentencesOnMinutes {
    private SentencesOnMinutes() { }

    // ---- promise 12

    @Says(promise = 12, sentence = "(FELT above HOLDS, at PLACE as it is)")
    static void whoFeelsWhatItHoldsStaysLit() {
        Due.is("a WALKER in 3", Due.told("p001;w0032;").go(0), 1);
        Due.is("a WALKER in 4", Due.told("p001;w0042;").go(0), 0);
        Due.is("a TALL of 9 in 5", Due.told("p491;w0052;").go(0), 1);
        Due.is("a TALL of 9 in 6", Due.told("p491;w0062;").go(0), 0);
        Due.is("a LANTERN in 9", Due.told("p301;w0092;").go(0), 1);
        Due.is("a NUN of 9 in 9", Due.told("p591;w0092;").go(0), 1);
    }

    @Says(promise = 12, sentence = "at PLACE as it is)")
    static void onlyTheWindOfThePlaceBlows() {
        LitAgain x = Due.told("p001;w0192;");
        Due.is("from place 0", x.go(0), 1);
        Due.is("from place 1", x.go(0), 0);
        LitAgain still = Due.told("p001;w0192;");
        Due.is("stopping at place 0", still.go(1), 1);
        Due.is("going on from place 0", still.go(0), 1);
        Due.is("stopping at place 1", still.go(1), 0);
    }

    @Says(promise = 12, sentence = "At the DOOR (PLACE is DOOR) they are there")
    static void noWindAtTheDoor() {
        LitAgain x = Due.told("p001;w0192;d01;");
        Due.is("to the door", x.go(0), 1);
        Due.is("no more", x.go(0), -3);
        Due.is("lit there", x.lit(), 1);
    }

    @Says(promise = 12, sentence = "all who are LIT and do not hold")
    static void allGoOutAtOnce() {
        Due.is("no one of two is left to light the other", Due.told("p001;p001;w0042;").go(0), 0);
        Due.is("no one of three", Due.told("p001;p001;p001;w0042;f12;").go(1), 0);
        // the TALL one goes out, but covers all the same: 5 less 3 is held
        Due.is("who goes out covers", Due.told("p401;p001;w0050;").go(0), 2);
        Due.is("who is not lit covers", Due.told("p400;p001;w0060;").go(0), 2);
    }

    @Says(promise = 12, sentence = "Then each who is LIT (by numbers) lights those BESIDE it (by numbers)")
    static void whoGoesOutIsLitAgainFromTheNext() {
        LitAgain x = Due.told("p001;p041;w0042;d01;");
        Due.is("out", x.out(0), 1);
        Due.is("again", x.again(), 1);
        Due.is("go(0)", x.go(0), 2);
        Due.is("who went out lights nobody", Due.told("p001;p000;w0042;").go(0), 0);
    }

    @Says(promise = 12, sentence = "who are not LIT (nor lit in this MINUTE)")
    static void nobodyIsLitTwice() {
        LitAgain x = Due.told("p001;p000;p001;p000;");
        Due.is("the next one's light goes on", x.go(0), 4);
        LitAgain ring = Due.told("p001;p000;p001;p000;p000;f11;");
        ring.go(0);
        // 0 lights 1, then 2 lights 3: 4 stays dark
        Due.is("in a ring", ring.lit(), 15);
        Due.is("lit ones are passed over", Due.told("p001;p001;p000;").go(0), 3);
    }

    @Says(promise = 12, sentence = "and not SMALL, EACH at most")
    static void smallOnesAreNotLit() {
        LitAgain x = Due.told("p600;p001;p000;");
        Due.is("go(0)", x.go(0), 2);
        Due.is("passed over", x.lit(), 6);
        Due.is("only small ones", Due.told("p600;p301;p600;f02;").go(0), 1);
    }

    @Says(promise = 12, sentence = "EACH at most; these are LIT behind the MINUTE")
    static void eachLightsOneOrTwo() {
        Due.is("one", Due.told("p000;p001;p000;f01;").go(0), 2);
        Due.is("two", Due.told("p000;p001;p000;f02;").go(0), 3);
        LitAgain pairs = Due.told("p000;p000;p001;p000;p000;f22;");
        Due.is("two of three", pairs.go(0), 3);
        Due.is("the first two by numbers", pairs.lit(), 13);
        LitAgain one = Due.told("p000;p000;p001;p000;p000;f21;");
        one.go(0);
        Due.is("the first by numbers", one.lit(), 5);
    }

    @Says(promise = 12, sentence = "these are LIT behind the MINUTE")
    static void whoIsLitNowLightsNobodyYet() {
        Due.is("in a row", Due.told("p001;p000;p000;p000;f02;").go(0), 2);
        Due.is("downwards", Due.told("p000;p000;p001;f02;").go(0), 2);
    }

    @Says(promise = 12, sentence = "MINUTE is 1 more; PLACE too, but if they STOP.")
    static void placeStaysIfTheyStop() {
        LitAgain x = Due.told("p001;");
        x.go(0);
        Due.is("place behind walking", x.count(2), 1);
        Due.is("minute behind walking", x.count(3), 1);
        x.go(1);
        Due.is("place behind stopping", x.count(2), 1);
        Due.is("minute behind stopping", x.count(3), 2);
    }

    @Says(promise = 12, sentence = "no MINUTE comes more")
    static void noMinuteAtTheDoor() {
        Due.refused("walking", () -> Due.told("p001;d01;m0;"), x -> x.go(0), -3);
        Due.refused("stopping", () -> Due.told("p001;d01;m0;"), x -> x.go(1), -3);
        Due.refused("at place 24", () -> Due.told("d24;" + Due.many(24, "m0;")), x -> x.go(0), -3);
        LitAgain below = Due.told("p001;d02;m0;");
        Due.is("one below the door", below.go(1), 1);
        Due.is("one below the door", below.go(0), 1);
        Due.is("there", below.go(0), -3);
        below.set(2, 3);
        Due.is("the door goes on", below.go(0), 1);
    }

    @Says(promise = 12, sentence = "1 they STOP: how many are LIT. -2; -3 none comes; -6 MINUTE 999.")
    static void stopIs0Or1() {
        Due.refused("go(2)", x -> x.go(2), -2);
        Due.refused("go(-1)", x -> x.go(-1), -2);
        Due.refused("go(2) at the door", () -> Due.told("d01;m0;"), x -> x.go(2), -2);
    }

    @Says(promise = 12, sentence = "-6 MINUTE 999.")
    static void noMinuteBehind999() {
        // farther than the 512 calls that the document promises: no shorter way leads there
        LitAgain x = Due.told("p001;m0;");
        for (int minute = 2; minute <= 999; minute++) Due.is("go(1)", x.go(1), 1);
        Due.is("minute", x.count(3), 999);
        Due.is("stopping", x.go(1), -6);
        Due.is("walking", x.go(0), -6);
        Due.is("a ROAD's minute", Due.tell(x, "m1;"), -2000);
        Due.is("minute", x.count(3), 999);
        Due.is("refused", x.count(16), 2);
        Due.is("in mind they walk all the same", x.then(1), 1);
        x.set(2, 1);
        Due.is("at the door first", x.go(1), -3);
    }

    @Says(promise = 12, sentence = "how many are LIT.")
    static void howManyAreLitBehindIt() {
        Due.is("nobody there", new LitAgain().go(0), 0);
        Due.is("eight", Due.told(Due.many(8, "p001;")).go(0), 8);
        Due.is("behind it", Due.told("p001;p000;").go(0), 2);
    }

    // ---- promise 13

    @Says(promise = 13, sentence = "Who is LIT (bits).")
    static void theForemostIsTheLowestBit() {
        Due.is("nobody", new LitAgain().lit(), 0);
        Due.is("the foremost", Due.told("p001;p000;").lit(), 1);
        Due.is("the last of eight", Due.told(Due.many(7, "p000;") + "p001;").lit(), 128);
        Due.is("all eight", Due.told(Due.many(8, "p001;")).lit(), 255);
    }
}
