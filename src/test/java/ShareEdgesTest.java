/** Promises 19 to 22: the edges of soot shared, of fuels given, of fires at rest, and of years by draws. */
public final class ShareEdgesTest {
    private static final int NONE = OneSmoke.NONE;
    /** Arguments that are nobody's number, whatever there is. */
    private static final int[] NOBODY = {-3, -1, 7, 32, 33, Integer.MAX_VALUE, Integer.MIN_VALUE};

    /** Two at one flue, one at another; each fuel burns an hour. */
    private static final String VALLEY = "fuel oak dark 10 sweet 0 burns 1;fuel ash dark 1 sweet 0 burns 1;flue big;flue tin;house ann at big;"
        + "house bob at big;house cat at tin;stock ann oak 2;stock ann ash 2;stock bob ash 1;stock cat oak 1;"
        + "sign one dark 1 to 1 sweet 0 to 0;sign ten dark 10 to 11 sweet 0 to 0;";

    public static void main(String[] args) {
        shareOthers();
        shareWithoutAFire();
        shareOfOne();
        shareOfEachOrder();
        shareWithin999();
        shareOfSootWithoutFires();
        shareCut();
        shareCutToNothing();
        shareAsTheyAre();
        shareBeyondFullSoot();
        givenOthers();
        givenNothing();
        givenOneByOne();
        givenAlone();
        givenAtMost();
        restsOthers();
        restsNotOfOneFlue();
        restsBesideFires();
        restsGets();
        restsNoneSuch();
        restsTheLeastFirst();
        restsOfNoFuels();
        restsOfTwoAlone();
        restsNotWorse();
        restsBySweetAndWind();
        yearsOthers();
        yearsSeeds();
        yearsHours();
        yearsDraws();
        yearsWithoutFuels();
        yearsThatCanNotBurn();
        yearsFromNowOn();
        yearsLeaveAll();
        yearsSootAtMost();
        yearsSigns();
        Check.end("ShareEdgesTest");
    }

    // Promise 19: "NONE: others".
    private static void shareOthers() {
        OneSmoke x = Check.in(VALLEY);
        for (int i = 0; i < NOBODY.length; i++) {
            Check.due("share of " + NOBODY[i], x.share(NOBODY[i]), NONE);
        }
        Check.due("share of 3", x.share(3), NONE);
        x.burn(2, 0);
        Check.due("the last", x.share(2), 10000);
    }

    // Part 3: "each HOUSE pays by how much .. is more behind its FIRE than ahead of it": without one nothing is more.
    private static void shareWithoutAFire() {
        OneSmoke x = Check.in(VALLEY);
        Check.due("nobody burns", x.share(0), 0);
        x.burn(1, 1);
        Check.due("a neighbour burns", x.share(0), 0);
        x.hour();
        Check.due("it is out", x.share(1), 0);
    }

    // Part 3: SHARES "of a FLUE's HOUSES": alone one pays all; a FIRE below another FLUE does not matter.
    private static void shareOfOne() {
        OneSmoke x = Check.in(VALLEY + "soots shade*shade;");
        x.burn(0, 0);
        Check.due("alone", x.share(0), 100000);
        x.burn(2, 0);
        Check.due("beside another flue", x.share(0), 100000);
        Check.due("that one", x.share(2), 100000);
        x.burn(1, 1);
        // 100 alone, 121 - 1 behind the other: 110; 1 and 21: 11.
        Check.due("beside a neighbour", x.share(0), 110000);
        Check.due("the neighbour", x.share(1), 11000);
    }

    // Part 3: "came one behind another, in each order alike": of two, of three, of four.
    private static void shareOfEachOrder() {
        String text = "fuel a dark 1 sweet 0 burns 9;fuel b dark 2 sweet 0 burns 9;fuel c dark 3 sweet 0 burns 9;fuel d dark 4 sweet 0 burns 9;"
            + "flue f;house g at f;house h at f;house i at f;house j at f;stock g a 1;stock h b 1;stock i c 1;stock j d 1;soots shade*shade;";
        OneSmoke x = Check.in(text);
        x.burn(0, 0);
        x.burn(1, 1);
        // Of a square each pays its own square, and its product with each other.
        Check.due("of two, g", x.share(0), 1000 + 2000);
        Check.due("of two, h", x.share(1), 4000 + 2000);
        x.burn(2, 2);
        Check.due("of three, g", x.share(0), 1000 + 2000 + 3000);
        Check.due("of three, i", x.share(2), 9000 + 3000 + 6000);
        x.burn(3, 3);
        Check.due("of four, g", x.share(0), 10000);
        Check.due("of four, h", x.share(1), 20000);
        Check.due("of four, i", x.share(2), 30000);
        Check.due("of four, j", x.share(3), 40000);
        // Only who comes first pays.
        OneSmoke y = Check.in(text.replace("shade*shade", "(0<shade)*12"));
        int[] due = {12000, 6000, 4000, 3000};
        for (int house = 0; house < 4; house++) {
            y.burn(house, house);
            Check.due("who comes first, of " + (house + 1), y.share(0), due[house]);
            Check.due("who comes first, the last of " + (house + 1), y.share(house), due[house]);
        }
        // Only who comes last pays.
        OneSmoke z = Check.in(text.replace("shade*shade", "(shade=10)*12"));
        for (int house = 0; house < 4; house++) {
            z.burn(house, house);
            Check.due("who comes last, of " + (house + 1), z.share(0), house == 3 ? 3000 : 0);
        }
    }

    // Part 3: "the E of soots (0 to 999; ..)": cut at both ends in each step; dark and sweet are 999 at most.
    private static void shareWithin999() {
        String text = "fuel a dark 30 sweet 0 burns 9;flue f;house g at f;house h at f;stock g a 1;stock h a 1;";
        OneSmoke x = Check.in(text + "soots shade*30;");
        x.burn(0, 0);
        Check.due("900", x.share(0), 900000);
        x.burn(1, 0);
        // 900 ahead, 99 behind.
        Check.due("1,800 is 999", x.share(0), 499500);
        OneSmoke y = Check.in(text + "soots shade-31;");
        y.burn(0, 0);
        Check.due("-1 is 0", y.share(0), 0);
        y.burn(1, 0);
        Check.due("29 by two", y.share(1), 14500);
        OneSmoke z = Check.in(text + "gives 600;soots shade-600;");
        z.burn(0, 0);
        z.burn(1, 0);
        Check.due("1,200 is 999", z.share(0), 199500);
    }

    // Part 3: soot that comes without FIRES, too, is nobody's.
    private static void shareOfSootWithoutFires() {
        OneSmoke x = Check.in(VALLEY + "soots shade+500;");
        Check.due("none burns", x.share(0), 0);
        x.burn(0, 0);
        Check.due("what is more", x.share(0), 10000);
        OneSmoke y = Check.in(VALLEY + "soots 999;");
        y.burn(0, 0);
        Check.due("nothing is more", y.share(0), 0);
    }

    // Part 3: "a HOUSE's mean, in thousandths, cut".
    private static void shareCut() {
        String text = "fuel a dark 1 sweet 0 burns 9;flue f;house g at f;house h at f;house i at f;stock g a 1;stock h a 1;stock i a 1;";
        int[] soots = {1, 2, 3, 100};
        int[] due = {333, 666, 1000, 33333};
        for (int i = 0; i < soots.length; i++) {
            OneSmoke x = Check.in(text + "soots (shade=3)*" + soots[i] + ";");
            for (int house = 0; house < 3; house++) {
                x.burn(house, 0);
            }
            Check.due("a third of " + soots[i], x.share(1), due[i]);
        }
    }

    // Part 3: "cut (to 0)": what is below 0 towards 0 as well.
    private static void shareCutToNothing() {
        String text = "fuel a dark 1 sweet 0 burns 9;flue f;house g at f;house h at f;house i at f;stock g a 1;stock h a 1;stock i a 1;";
        int[] soots = {1, 2, 3, 100};
        int[] due = {-333, -666, -1000, -33333};
        for (int i = 0; i < soots.length; i++) {
            OneSmoke x = Check.in(text + "soots (shade<3)*" + soots[i] + ";");
            for (int house = 0; house < 3; house++) {
                x.burn(house, 0);
            }
            Check.due("a third of -" + soots[i], x.share(1), due[i]);
        }
    }

    // Part 3: "their FIRES (as they are)", "of this hour": by the hours they burn yet and by the wind.
    private static void shareAsTheyAre() {
        OneSmoke x = Check.in("fuel a dark 1 sweet 0 burns 3;flue f;house g at f;house h at f;stock g a 1;stock h a 1;gives left*10;"
            + "soots shade+scent*100*wind;winds 0 1;");
        x.burn(0, 0);
        Check.due("three hours", x.share(0), 30000);
        x.hour();
        Check.due("two hours, and wind: 2,020 is 999", x.share(0), 999000);
        x.hour();
        Check.due("one hour", x.share(0), 10000);
        x.burn(1, 0);
        Check.due("beside three", x.share(0), 10000);
        Check.due("the fresh one", x.share(1), 30000);
    }

    // Part 3: SHARES are of what the E tells, also where a FLUE has its 9,999.
    private static void shareBeyondFullSoot() {
        OneSmoke x = Check.in("fuel a dark 1 sweet 0 burns 9;flue f;house g at f;stock g a 2;soots 999-998*(shade=0);");
        x.burn(0, 0);
        for (int hour = 0; hour < 9; hour++) {
            x.hour();
        }
        x.burn(0, 0);
        x.hour();
        x.hour();
        Check.due("full", x.flue(0, 3), 9999);
        Check.due("shared all the same", x.share(0), 998000);
    }

    // Promise 20: "NONE: others".
    private static void givenOthers() {
        OneSmoke x = Check.in(VALLEY);
        for (int i = 0; i < NOBODY.length; i++) {
            Check.due("given of house " + NOBODY[i], x.given(NOBODY[i], 0), NONE);
            Check.due("given of fuel " + NOBODY[i], x.given(0, NOBODY[i]), NONE);
        }
        Check.due("house 3", x.given(3, 0), NONE);
        Check.due("fuel 2", x.given(0, 2), NONE);
        Check.due("fuel 5", x.given(0, 5), NONE);
        Check.due("the last of both", x.given(2, 1), 0);
    }

    // Part 3: GIVEN "all of a FUEL that the HOUSES of a FLUE have": they may have none.
    private static void givenNothing() {
        OneSmoke x = Check.in("fuel a dark 1 sweet 1 burns 1;flue f;flue g;house h at f;house i at f;house j at g;stock j a 9;");
        Check.due("h", x.given(0, 0), 0);
        Check.due("i", x.given(1, 0), 0);
        Check.due("j, of another flue", x.given(2, 0), 9);
    }

    // Part 3: "one by one, each next one to the HOUSE that has got the least, of equal ones the first".
    private static void givenOneByOne() {
        for (int all = 0; all <= 9; all++) {
            OneSmoke x = Check.in("fuel a dark 1 sweet 1 burns 1;flue f;flue g;house h at f;house i at g;house j at f;house k at f;stock k a " + all
                + ";stock i a 50;");
            Check.due(all + ": the first", x.given(0, 0), (all + 2) / 3);
            Check.due(all + ": the second", x.given(2, 0), (all + 1) / 3);
            Check.due(all + ": the third", x.given(3, 0), all / 3);
            Check.due(all + ": of another flue", x.given(1, 0), 50);
            Check.due(all + ": as it was", x.house(3, 3), all);
        }
    }

    // Part 3: what a FIRE burns is none of it; a HOUSE with a FIRE gets its part.
    private static void givenAlone() {
        OneSmoke x = Check.in(VALLEY);
        Check.due("alone", x.given(2, 0), 1);
        x.burn(2, 0);
        Check.due("burnt", x.given(2, 0), 0);
        x.burn(0, 1);
        Check.due("one of ann's, one of bob's: ann", x.given(0, 1), 1);
        Check.due("bob", x.given(1, 1), 1);
    }

    // Part 3: the most there can be: 99 of each of four.
    private static void givenAtMost() {
        OneSmoke x = Check.in("fuel a dark 1 sweet 1 burns 1;flue f;house h at f;house i at f;house j at f;house k at f;stock h a 99;stock i a 99;"
            + "stock j a 99;stock k a 99;");
        for (int house = 0; house < 4; house++) {
            Check.due("99 of house " + house, x.given(house, 0), 99);
        }
        x.burn(0, 0);
        Check.due("395: the third", x.given(2, 0), 99);
        Check.due("395: the last", x.given(3, 0), 98);
    }

    private static void thrown(String what, OneSmoke x, int one, int other, int oneSign, int otherSign, int gets) {
        Check.due("rests " + what + ": how many", Check.rests(x, one, other, oneSign, otherSign, gets, NONE), Check.THROWN);
        Check.due("rests " + what + ": the first", Check.rests(x, one, other, oneSign, otherSign, gets, 0), Check.THROWN);
    }

    // Promise 21: "NoSuchElementException: others, the same": HOUSES, SIGNS; NONE is no SIGN to wish.
    private static void restsOthers() {
        OneSmoke x = Check.in(VALLEY);
        for (int i = 0; i < NOBODY.length; i++) {
            thrown("one " + NOBODY[i], x, NOBODY[i], 1, 0, 0, 5);
            thrown("other " + NOBODY[i], x, 0, NOBODY[i], 0, 0, 5);
            thrown("one's sign " + NOBODY[i], x, 0, 1, NOBODY[i], 0, 5);
            thrown("other's sign " + NOBODY[i], x, 0, 1, 0, NOBODY[i], 5);
        }
        thrown("one 3", x, 3, 1, 0, 0, 5);
        thrown("other 3", x, 0, 3, 0, 0, 5);
        thrown("one's sign 2", x, 0, 1, 2, 0, 5);
        thrown("other's sign 2", x, 0, 1, 0, 2, 5);
        thrown("the same", x, 0, 0, 0, 0, 5);
        thrown("the same, alone", x, 2, 2, 0, 0, 5);
        Check.due("the last sign", Check.rests(x, 0, 1, 1, 1, 5, NONE) >= 0, true);
        thrown("no signs told", Check.in("flue f;house g at f;house h at f;"), 0, 1, 0, 0, 5);
    }

    // Promise 21: "NoSuchElementException: .. not of one FLUE".
    private static void restsNotOfOneFlue() {
        OneSmoke x = Check.in(VALLEY);
        thrown("ann and cat", x, 0, 2, 0, 0, 5);
        thrown("cat and bob", x, 2, 1, 0, 0, 5);
        Check.due("ann and bob", Check.rests(x, 0, 1, 0, 0, 0, NONE), 1);
        Check.due("bob and ann", Check.rests(x, 1, 0, 0, 0, 0, NONE), 1);
    }

    // Promise 21: "NoSuchElementException: .. one has a FIRE": the one, the other, both; a third one may.
    private static void restsBesideFires() {
        OneSmoke x = Check.in(VALLEY + "house dan at big;stock dan oak 1;");
        x.burn(3, 0);
        Check.due("dan's fire is as now", Check.rests(x, 0, 1, 1, 1, 5, NONE), 1);
        // 10 of dan's, 11 at most with bob's ash: both get all and burn none.
        Check.due("both none", Check.rests(x, 0, 1, 1, 1, 5, 0), 22);
        x.burn(0, 0);
        thrown("one burns", x, 0, 1, 1, 1, 5);
        thrown("the other burns", x, 1, 0, 1, 1, 5);
        x.burn(1, 1);
        thrown("both burn", x, 0, 1, 1, 1, 5);
        x.hour();
        Check.due("all are out", Check.rests(x, 0, 1, 1, 1, 5, NONE) >= 0, true);
    }

    // Part 3: RESTS: "it gets so much (0 to 99)": -1, 0, 1, 99, 100.
    private static void restsGets() {
        OneSmoke x = Check.in(VALLEY);
        thrown("gets -1", x, 0, 1, 0, 0, -1);
        thrown("gets 100", x, 0, 1, 0, 0, 100);
        thrown("gets far", x, 0, 1, 0, 0, Integer.MAX_VALUE);
        thrown("gets far below", x, 0, 1, 0, 0, Integer.MIN_VALUE);
        Check.due("gets 0: burning is for nothing", Check.rests(x, 0, 1, 0, 0, 0, NONE), 1);
        Check.due("gets 0: both none", Check.rests(x, 0, 1, 0, 0, 0, 0), 22);
        // By 1 it is alike to burn and not to burn, so both none, ann's ash, bob's ash rest.
        Check.due("gets 1", Check.rests(x, 0, 1, 0, 0, 1, NONE), 3);
        Check.due("gets 2", Check.rests(x, 0, 1, 0, 0, 2, NONE), 2);
        Check.due("gets 99", Check.rests(x, 0, 1, 0, 0, 99, NONE), 2);
    }

    // Promise 21: "what NONE: how many; i: the i-th", from 0; "none such": i too large, below NONE, of none.
    private static void restsNoneSuch() {
        OneSmoke x = Check.in(VALLEY);
        Check.due("how many", Check.rests(x, 0, 1, 0, 0, 1, NONE), 3);
        Check.due("0", Check.rests(x, 0, 1, 0, 0, 1, 0), 12);
        Check.due("2", Check.rests(x, 0, 1, 0, 0, 1, 2), 22);
        Check.due("3", Check.rests(x, 0, 1, 0, 0, 1, 3), Check.THROWN);
        Check.due("-2", Check.rests(x, 0, 1, 0, 0, 1, -2), Check.THROWN);
        Check.due("far", Check.rests(x, 0, 1, 0, 0, 1, Integer.MAX_VALUE), Check.THROWN);
        Check.due("far below", Check.rests(x, 0, 1, 0, 0, 1, Integer.MIN_VALUE), Check.THROWN);
        // One wishes one, the other ten: each can always do better by another one of its own.
        OneSmoke y = Check.in("fuel a dark 1 sweet 0 burns 1;flue f;house g at f;house h at f;stock g a 1;stock h a 1;"
            + "sign s dark 1 to 1 sweet 0 to 0;sign t dark 0 to 2 sweet 0 to 0;");
        Check.due("none at rest", Check.rests(y, 0, 1, 0, 1, 5, NONE), 0);
        Check.due("none at rest: the first", Check.rests(y, 0, 1, 0, 1, 5, 0), Check.THROWN);
    }

    // Promise 21: "as 10 * the first one's FUEL + the other one's (none is as many as FUELS there are; the least first)".
    private static void restsTheLeastFirst() {
        OneSmoke x = Check.in(VALLEY);
        int[] due = {12, 21, 22};
        for (int i = 0; i < 3; i++) {
            Check.due("rest " + i, Check.rests(x, 0, 1, 0, 0, 1, i), due[i]);
        }
        // Of bob and ann bob is the first one.
        Check.due("bob's ash", Check.rests(x, 1, 0, 0, 0, 5, 0), 12);
        Check.due("ann's ash", Check.rests(x, 1, 0, 0, 0, 5, 1), 21);
        OneSmoke y = Check.in("fuel a dark 1 sweet 0 burns 1;fuel b dark 1 sweet 0 burns 1;fuel c dark 1 sweet 0 burns 1;"
            + "fuel d dark 1 sweet 0 burns 1;fuel e dark 1 sweet 0 burns 1;flue f;house g at f;house h at f;stock g e 1;stock h d 1;"
            + "sign s dark 1 to 1 sweet 0 to 0;");
        Check.due("none is 5", Check.rests(y, 0, 1, 0, 0, 5, 0), 45);
        Check.due("of either", Check.rests(y, 0, 1, 0, 0, 5, 1), 53);
    }

    // Promise 21: "none is as many as FUELS there are": 0 without any; a HOUSE without FUELS burns none.
    private static void restsOfNoFuels() {
        OneSmoke x = Check.in("flue f;house g at f;house h at f;sign s dark 0 to 0 sweet 0 to 0;");
        Check.due("one rest", Check.rests(x, 0, 1, 0, 0, 5, NONE), 1);
        Check.due("none and none", Check.rests(x, 0, 1, 0, 0, 5, 0), 0);
        OneSmoke y = Check.in("fuel a dark 1 sweet 0 burns 1;flue f;house g at f;house h at f;stock g a 1;sign s dark 1 to 1 sweet 0 to 0;");
        Check.due("h has none: one rest", Check.rests(y, 0, 1, 0, 0, 5, NONE), 1);
        Check.due("g burns", Check.rests(y, 0, 1, 0, 0, 5, 0), 1);
        // "by another one of its own": what a HOUSE has none of it can't do better by.
        OneSmoke z = Check.in("fuel a dark 1 sweet 0 burns 1;flue f;house g at f;house h at f;sign s dark 1 to 1 sweet 0 to 0;");
        Check.due("neither has any: one rest", Check.rests(z, 0, 1, 0, 0, 5, NONE), 1);
        Check.due("neither has any: both none", Check.rests(z, 0, 1, 0, 0, 5, 0), 11);
    }

    // Part 3: "(all else as now)": neither a third HOUSE's FUELS nor what is READ matters.
    private static void restsOfTwoAlone() {
        OneSmoke x = Check.in(VALLEY + "house dan at big;stock dan oak 1;watcher eve sees both;");
        x.read(0, 0, 1);
        Check.due("dan burns none", Check.rests(x, 0, 1, 0, 0, 5, NONE), 2);
        Check.due("ann and dan", Check.rests(x, 0, 3, 1, 1, 5, NONE), 2);
        Check.due("ann's oak", Check.rests(x, 0, 3, 1, 1, 5, 0), 2);
        Check.due("dan's oak", Check.rests(x, 0, 3, 1, 1, 5, 1), 20);
    }

    // Part 3: "by which neither would get more": as much by another one is no more.
    private static void restsNotWorse() {
        OneSmoke x = Check.in("fuel a dark 1 sweet 0 burns 1;fuel b dark 1 sweet 0 burns 1;flue f;house g at f;house h at f;stock g a 1;stock g b 1;"
            + "sign s dark 1 to 1 sweet 0 to 0;");
        Check.due("a and b alike", Check.rests(x, 0, 1, 0, 0, 2, NONE), 2);
        Check.due("a", Check.rests(x, 0, 1, 0, 0, 2, 0), 2);
        Check.due("b", Check.rests(x, 0, 1, 0, 0, 2, 1), 12);
        Check.due("none as well by 1", Check.rests(x, 0, 1, 0, 0, 1, 2), 22);
        // A sign that is there without a fire: it would get one less by burning.
        OneSmoke y = Check.in("fuel a dark 1 sweet 0 burns 1;flue f;house g at f;house h at f;stock g a 1;stock h a 1;sign s dark 0 to 9 sweet 0 to 9;");
        Check.due("both none", Check.rests(y, 0, 1, 0, 0, 5, NONE), 1);
        Check.due("22 of one fuel is 11", Check.rests(y, 0, 1, 0, 0, 5, 0), 11);
    }

    // Part 3: "if that is read in this hour": by dark and sweet of both, and by the wind there is.
    private static void restsBySweetAndWind() {
        String house = "flue f;house g at f;house h at f;stock g a 1;stock h a 1;";
        OneSmoke x = Check.in("fuel a dark 0 sweet 1 burns 1;" + house + "sign s dark 0 to 0 sweet 2 to 2;sign t dark 0 to 0 sweet 1 to 1;");
        Check.due("both for 2", Check.rests(x, 0, 1, 0, 0, 5, NONE), 2);
        Check.due("both burn", Check.rests(x, 0, 1, 0, 0, 5, 0), 0);
        Check.due("none burns", Check.rests(x, 0, 1, 0, 0, 5, 1), 11);
        Check.due("either for 1", Check.rests(x, 0, 1, 1, 1, 5, 0), 1);
        Check.due("either for 1, the other", Check.rests(x, 0, 1, 1, 1, 5, 1), 10);
        OneSmoke y = Check.in("fuel a dark 0 sweet 1 burns 1;" + house + "winds 0 4;gives wind;sign s dark 4 to 4 sweet 4 to 4;");
        Check.due("no wind", Check.rests(y, 0, 1, 0, 0, 5, 0), 11);
        y.hour();
        Check.due("wind", Check.rests(y, 0, 1, 0, 0, 5, 0), 1);
        Check.due("wind, the other", Check.rests(y, 0, 1, 0, 0, 5, 1), 10);
        // Beside a third one's fire, of which sweet comes, too.
        OneSmoke z = Check.in("fuel a dark 0 sweet 3 burns 1;" + house + "house i at f;stock i a 1;sign s dark 0 to 0 sweet 6 to 6;");
        z.burn(2, 0);
        Check.due("one beside a fire", Check.rests(z, 0, 1, 0, 0, 5, NONE), 2);
        Check.due("one beside a fire: the other", Check.rests(z, 0, 1, 0, 0, 5, 0), 1);
        Check.due("one beside a fire: the first", Check.rests(z, 0, 1, 0, 0, 5, 1), 10);
    }

    // Promise 22: "what 0: SIGNS, 1: soot, 2: FUELS; NONE: others".
    private static void yearsOthers() {
        OneSmoke x = Check.in(VALLEY);
        for (int what = 0; what <= 2; what++) {
            Check.due("what " + what, x.years(1, 1, what) >= 0, true);
        }
        int[] others = {-2, -1, 3, 4, Integer.MAX_VALUE, Integer.MIN_VALUE};
        for (int i = 0; i < others.length; i++) {
            Check.due("what " + others[i], x.years(1, 1, others[i]), NONE);
        }
    }

    // Promise 22: "a SEED (0 to 9999)".
    private static void yearsSeeds() {
        OneSmoke x = Check.in(VALLEY);
        Check.due("seed -1", x.years(-1, 5, 2), NONE);
        Check.due("seed 0", x.years(0, 5, 2) >= 0, true);
        Check.due("seed 9999", x.years(9999, 5, 2) >= 0, true);
        Check.due("seed 10000", x.years(10000, 5, 2), NONE);
        Check.due("seed far", x.years(Integer.MAX_VALUE, 5, 2), NONE);
        Check.due("seed far below", x.years(Integer.MIN_VALUE, 5, 2), NONE);
    }

    // Part 3: YEARS "of so many hours (1 to 99)".
    private static void yearsHours() {
        OneSmoke x = Check.in("flue f;soots 7;sign s dark 0 to 0 sweet 0 to 0;");
        Check.due("0 hours", x.years(1, 0, 1), NONE);
        Check.due("-1 hours", x.years(1, -1, 1), NONE);
        Check.due("1 hour", x.years(1, 1, 1), 7);
        Check.due("99 hours", x.years(1, 99, 1), 693);
        Check.due("100 hours", x.years(1, 100, 1), NONE);
        Check.due("signs of 1 hour", x.years(1, 1, 0), 1);
        Check.due("signs of 99 hours", x.years(1, 99, 0), 99);
    }

    // Part 3: a DRAW: "modulo 2147483648", "g / 65536, cut, modulo m", m "as many FUELS as there are and one more".
    private static void yearsDraws() {
        String two = "fuel a dark 1 sweet 0 burns 1;fuel b dark 10 sweet 0 burns 1;flue f;house h at f;stock h a 9;stock h b 9;";
        // By hand: g / 65536 is 0, 16838, 908 (33676 without the modulo), 18655 (84191), and of these modulo 3: 0, 2, 2 (1), 1 (2).
        int[] firstSeeds = {0, 1, 2, 5};
        int[] soot = {1, 0, 0, 10};
        for (int i = 0; i < 4; i++) {
            Check.due("the first draw of seed " + firstSeeds[i], Check.in(two).years(firstSeeds[i], 1, 1), soot[i]);
        }
        for (int fuels = 1; fuels <= 5; fuels++) {
            StringBuilder text = new StringBuilder("flue f;");
            StringBuilder stocks = new StringBuilder();
            for (int fuel = 0; fuel < fuels; fuel++) {
                text.append("fuel f").append((char) ('a' + fuel)).append(" dark ").append(fuel + 1).append(" sweet 0 burns 1;");
            }
            for (int house = 0; house < 4; house++) {
                text.append("house h").append((char) ('a' + house)).append(" at f;");
                for (int fuel = 0; fuel < fuels; fuel++) {
                    stocks.append("stock h").append((char) ('a' + house)).append(" f").append((char) ('a' + fuel)).append(" 99;");
                }
            }
            OneSmoke x = Check.in(text.append(stocks).toString());
            int[] seeds = {0, 1, 77, 4999, 9999};
            for (int i = 0; i < seeds.length; i++) {
                drawn("of " + fuels + " fuels by seed " + seeds[i], x, seeds[i], fuels);
            }
        }
    }

    /** Four houses that have enough of each fuel (of dark 1, 2 ..) burn what is drawn, for 20 hours. */
    private static void drawn(String what, OneSmoke x, int seed, int fuels) {
        java.math.BigInteger g = java.math.BigInteger.valueOf(seed);
        int soot = 0;
        int burnt = 0;
        for (int i = 0; i < 80; i++) {
            g = g.multiply(java.math.BigInteger.valueOf(1103515245)).add(java.math.BigInteger.valueOf(12345));
            g = g.mod(java.math.BigInteger.valueOf(2147483648L));
            int draw = (int) (g.longValueExact() / 65536 % (fuels + 1));
            soot += draw < fuels ? draw + 1 : 0;
            burnt += draw < fuels ? 1 : 0;
        }
        Check.due("soot " + what, x.years(seed, 20, 1), soot);
        Check.due("fuels " + what, x.years(seed, 20, 2), 4 * 99 * fuels - burnt);
    }

    // Part 3: YEARS "if there are FUELS": without any the hours go by all the same.
    private static void yearsWithoutFuels() {
        OneSmoke x = Check.in("flue f;house h at f;soots wind+1;winds 0 9;sign s dark 0 to 0 sweet 0 to 0;");
        Check.due("signs", x.years(5, 3, 0), 3);
        Check.due("soot", x.years(5, 3, 1), 1 + 10 + 1);
        Check.due("fuels", x.years(5, 3, 2), 0);
        OneSmoke y = Check.in("fuel a dark 1 sweet 1 burns 1;flue f;");
        Check.due("no houses", y.years(5, 3, 2), 0);
    }

    // Part 3: "that BURN, if it can be (the last one: none)": a DRAW is taken also for a HOUSE that can't.
    private static void yearsThatCanNotBurn() {
        String text = "fuel a dark 1 sweet 0 burns 9;fuel b dark 2 sweet 0 burns 1;flue f;house g at f;house h at f;stock h a 9;stock h b 9;";
        for (int seed = 0; seed < 40; seed++) {
            long g = seed;
            int left = 0;
            int dark = 0;
            int soot = 0;
            for (int hour = 0; hour < 12; hour++) {
                // The first house's draw, then the second one's.
                g = (g * 1103515245L + 12345L) % 2147483648L;
                g = (g * 1103515245L + 12345L) % 2147483648L;
                int draw = (int) (g / 65536 % 3);
                if (left == 0 && draw < 2) {
                    left = draw == 0 ? 9 : 1;
                    dark = draw + 1;
                }
                soot += left > 0 ? dark : 0;
                left -= left > 0 ? 1 : 0;
            }
            Check.due("soot by seed " + seed, Check.in(text).years(seed, 12, 1), soot);
        }
    }

    // Part 3: YEARS "from now on": with the FIRES, stocks and wind of now; soot is what is more than now.
    private static void yearsFromNowOn() {
        OneSmoke x = Check.in("fuel a dark 5 sweet 0 burns 3;flue f;house h at f;stock h a 1;winds 0 1 2;soots shade+wind*100;"
            + "sign s dark 5 to 5 sweet 0 to 0;");
        x.burn(0, 0);
        x.hour();
        Check.due("soot now", x.count(9), 5);
        Check.due("two hours of fire yet", x.years(0, 1, 1), 105);
        Check.due("then none", x.years(0, 3, 1), 105 + 205);
        Check.due("signs", x.years(0, 3, 0), 2);
        Check.due("fuels", x.years(0, 3, 2), 0);
    }

    // Part 3: "(all is as ahead then)".
    private static void yearsLeaveAll() {
        OneSmoke x = Check.in(VALLEY + "watcher eve sees both;");
        x.burn(0, 0);
        x.hour();
        x.read(0, 0, NONE);
        x.mark(0, false);
        int first = x.years(3, 99, 1);
        int[] due = {2, 2, 3, 2, 1, 1, 0, 0, 5, 10, 0, 1, 2, 0};
        for (int what = 0; what < due.length; what++) {
            Check.due("count " + what, x.count(what), due[what]);
        }
        Check.due("no fire", x.house(0, 1), NONE);
        Check.due("once more", x.years(3, 99, 1), first);
        Check.due("and again", x.years(3, 99, 1), first);
    }

    // Part 2: "(9,999 at most)": no more comes to a FLUE that has it.
    private static void yearsSootAtMost() {
        OneSmoke x = Check.in("flue f;flue g;soots 909;");
        Check.due("11 hours", x.years(0, 11, 1), 19998);
        Check.due("99 hours", x.years(0, 99, 1), 19998);
        x.hour();
        Check.due("from 909 on", x.years(0, 99, 1), 18180);
        for (int hour = 0; hour < 10; hour++) {
            x.hour();
        }
        Check.due("none is more", x.years(0, 99, 1), 0);
    }

    // Part 3: "SIGNS that are read, together": of each FLUE in each hour, ahead of the HOUR's end.
    private static void yearsSigns() {
        OneSmoke x = Check.in("fuel a dark 5 sweet 0 burns 2;flue f;flue g;flue i;house h at f;stock h a 1;sign s dark 5 to 5 sweet 0 to 0;");
        x.burn(0, 0);
        Check.due("as long as it burns", x.years(0, 5, 0), 2);
        OneSmoke y = Check.in("flue f;flue g;flue i;sign s dark 0 to 0 sweet 0 to 0;");
        Check.due("of three flues", y.years(0, 99, 0), 297);
    }
}
