/** Promises 5 to 10, 23 and 24: the edges of houses and flues, of what is done by hand, of marks and of counts. */
public final class HandEdgesTest {
    private static final int NONE = OneSmoke.NONE;
    /** Arguments that are nobody's number, whatever there is. */
    private static final int[] NOBODY = {-3, -1, 7, 32, 33, Integer.MAX_VALUE, Integer.MIN_VALUE};

    /** Two at one flue, one at another, nobody at a third; oak burns 3 hours, ash 1. */
    private static final String VALLEY = "fuel oak dark 20 sweet 2 burns 3;fuel ash dark 5 sweet 30 burns 1;flue big;flue tin;flue old;"
        + "house ann at big;house bob at big;house cat at tin;stock ann oak 1;stock ann ash 20;stock bob oak 98;stock cat ash 3;"
        + "sign work dark 20 to 40 sweet 2 to 4;watcher eve sees both;winds 3 8;";

    public static void main(String[] args) {
        houseNumbers();
        houseWhat();
        houseFuels();
        houseFire();
        flueNumbers();
        flueWhat();
        flueOfNobody();
        flueAtMost999();
        signFromTo();
        firstSignOfTwo();
        noSign();
        burnOthers();
        burnOfTheLast();
        burnBesideAFire();
        burnsForItsHours();
        lendOthers();
        lendTheSame();
        lendAllOfIt();
        lendNinetyNine();
        hourPutsOut();
        sootOfTheHourThatGoes();
        sootAtMost9999();
        undoNothing();
        undoSixteen();
        undoSeventeen();
        undoGoesRound();
        undoEach();
        refusedIsNotUndone();
        undoEndsWhatIsRead();
        markNumbers();
        markWithNothingOnIt();
        markHolds();
        markHoldsWhatIsRead();
        markAndUndo();
        markLaidAgain();
        marksApart();
        countWhat();
        countFiresAsBits();
        Check.end("HandEdgesTest");
    }

    // Promise 5: "-2: others": HOUSES are 0 to 2 here.
    private static void houseNumbers() {
        OneSmoke x = Check.in(VALLEY);
        Check.due("house 0", x.house(0, 0), 0);
        Check.due("house 2", x.house(2, 0), 1);
        Check.due("house 3", x.house(3, 0), -2);
        for (int i = 0; i < NOBODY.length; i++) {
            Check.due("house " + NOBODY[i], x.house(NOBODY[i], 0), -2);
        }
    }

    // Promise 5: "what 0 .. 1 .. 2 .. 3 + f": each side of the first and of the last.
    private static void houseWhat() {
        OneSmoke x = Check.in(VALLEY);
        Check.due("what -1", x.house(0, -1), -2);
        Check.due("what 0", x.house(0, 0), 0);
        Check.due("what 1", x.house(0, 1), NONE);
        Check.due("what 2", x.house(0, 2), 0);
        Check.due("what 3", x.house(0, 3), 1);
        Check.due("what 4", x.house(0, 4), 20);
        Check.due("what 5", x.house(0, 5), -2);
        int[] others = {-2, -3, 6, 7, 8, 23, Integer.MAX_VALUE, Integer.MIN_VALUE, Integer.MIN_VALUE + 2, Integer.MIN_VALUE + 3};
        for (int i = 0; i < others.length; i++) {
            Check.due("what " + others[i], x.house(0, others[i]), -2);
        }
    }

    // Promise 5: "3 + f: how much it has of FUEL f": of as many as are told, 5 at most, and none.
    private static void houseFuels() {
        OneSmoke x = Check.in("fuel a dark 1 sweet 1 burns 1;fuel b dark 1 sweet 1 burns 1;fuel c dark 1 sweet 1 burns 1;"
            + "fuel d dark 1 sweet 1 burns 1;fuel e dark 1 sweet 1 burns 1;flue f;house g at f;house h at f;stock g e 4;stock h a 7;");
        Check.due("the fifth", x.house(0, 7), 4);
        Check.due("a sixth", x.house(0, 8), -2);
        Check.due("the next one's first", x.house(1, 3), 7);
        OneSmoke y = Check.in("flue f;house g at f;");
        Check.due("no fuels", y.house(0, 3), -2);
        Check.due("but hours", y.house(0, 2), 0);
    }

    // Promise 5: "1: the FUEL of its FIRE (NONE: none), 2: hours it burns yet": from its lighting to behind its end.
    private static void houseFire() {
        OneSmoke x = Check.in(VALLEY);
        x.burn(0, 0);
        int[] fuel = {0, 0, 0, NONE, NONE};
        int[] left = {3, 2, 1, 0, 0};
        for (int hour = 0; hour < fuel.length; hour++) {
            Check.due("fuel in hour " + hour, x.house(0, 1), fuel[hour]);
            Check.due("left in hour " + hour, x.house(0, 2), left[hour]);
            x.hour();
        }
    }

    // Promise 6: "-2: others": FLUES are 0 to 2 here.
    private static void flueNumbers() {
        OneSmoke x = Check.in(VALLEY);
        Check.due("flue 0", x.flue(0, 4), 3);
        Check.due("flue 2", x.flue(2, 4), 0);
        Check.due("flue 3", x.flue(3, 4), -2);
        for (int i = 0; i < NOBODY.length; i++) {
            Check.due("flue " + NOBODY[i], x.flue(NOBODY[i], 0), -2);
        }
        Check.due("flue 1 of one", Check.in("flue f;").flue(1, 0), -2);
    }

    // Promise 6: "what 0: dark, 1: sweet, 2: its SIGN, 3: soot, 4: HOUSES as bits; -2: others".
    private static void flueWhat() {
        OneSmoke x = Check.in(VALLEY);
        x.burn(0, 0);
        x.burn(2, 1);
        x.hour();
        int[] due = {20, 2, 0, 20, 3};
        for (int what = 0; what < 5; what++) {
            Check.due("what " + what, x.flue(0, what), due[what]);
        }
        Check.due("what -1", x.flue(0, -1), -2);
        Check.due("what 5", x.flue(0, 5), -2);
        Check.due("what far", x.flue(0, Integer.MAX_VALUE), -2);
        Check.due("what far below", x.flue(0, Integer.MIN_VALUE), -2);
    }

    // Promise 6: a FLUE of no HOUSES: dark, sweet 0, no HOUSES, and the SIGN of 0 and 0 if there is one.
    private static void flueOfNobody() {
        OneSmoke x = Check.in(VALLEY + "sign calm dark 0 to 0 sweet 0 to 0;");
        int[] due = {0, 0, 1, 0, 0};
        for (int what = 0; what < 5; what++) {
            Check.due("nobody's " + what, x.flue(2, what), due[what]);
        }
    }

    // Part 2: "A FLUE's dark is that of all FIRES of its HOUSES together, sweet likewise (999 each at most)".
    private static void flueAtMost999() {
        String[] gives = {"499+shade*(1-smelt)", "499+shade*(1-smelt)*2", "499+shade*(1-smelt)*500", "499*(1-smelt)+smelt*(499+shade)",
            "499*(1-smelt)+smelt*(499+shade*2)", "499*(1-smelt)+smelt*(499+shade*500)"};
        int[] dark = {999, 999, 999, 998, 998, 998};
        int[] sweet = {998, 998, 998, 999, 999, 999};
        for (int i = 0; i < gives.length; i++) {
            OneSmoke x = Check.in("fuel a dark 1 sweet 0 burns 1;fuel b dark 0 sweet 0 burns 1;flue f;house g at f;house h at f;stock g a 1;"
                + "stock h b 1;sign s dark 999 to 999 sweet 0 to 998;sign t dark 0 to 998 sweet 999 to 999;gives " + gives[i] + ";");
            x.burn(0, 0);
            x.burn(1, 1);
            Check.due("dark by " + gives[i], x.flue(0, 0), dark[i]);
            Check.due("sweet by " + gives[i], x.flue(0, 1), sweet[i]);
            Check.due("sign by " + gives[i], x.flue(0, 2), i / 3);
            x.hour();
            Check.due("soot by " + gives[i], x.flue(0, 3), dark[i]);
        }
        OneSmoke y = Check.in("fuel a dark 99 sweet 99 burns 9;flue f;house g at f;house h at f;house i at f;house j at f;stock g a 1;"
            + "stock h a 1;stock i a 1;stock j a 1;gives 249+smelt;soots shade+1-scent;");
        for (int house = 0; house < 4; house++) {
            y.burn(house, 0);
        }
        Check.due("four times 249", y.flue(0, 0), 996);
        Check.due("four times 250", y.flue(0, 1), 999);
        y.hour();
        // 996 + 1 - 999, not - 1000, nor soot of each by itself.
        Check.due("soot of what is seen", y.flue(0, 3), 0);
    }

    // Part 2: "within whose dark and sweet both are": from and to themselves are within, one beyond is not.
    private static void signFromTo() {
        int[] values = {4, 5, 6, 7, 8};
        int[] within = {NONE, 0, 0, 0, NONE};
        for (int i = 0; i < values.length; i++) {
            String house = " burns 1;flue f;house h at f;stock h a 1;";
            OneSmoke x = Check.in("fuel a dark " + values[i] + " sweet 50" + house + "sign s dark 5 to 7 sweet 50 to 50;");
            x.burn(0, 0);
            Check.due("sign of dark " + values[i], x.flue(0, 2), within[i]);
            OneSmoke y = Check.in("fuel a dark 50 sweet " + values[i] + house + "sign s dark 50 to 50 sweet 5 to 7;");
            y.burn(0, 0);
            Check.due("sign of sweet " + values[i], y.flue(0, 2), within[i]);
        }
    }

    // Part 2: "Its SIGN is the first one within whose ..".
    private static void firstSignOfTwo() {
        OneSmoke x = Check.in("flue f;sign s dark 1 to 9 sweet 0 to 9;sign t dark 0 to 9 sweet 0 to 9;sign u dark 0 to 0 sweet 0 to 0;");
        Check.due("the first that fits", x.flue(0, 2), 1);
        OneSmoke y = Check.in("flue f;sign u dark 0 to 0 sweet 0 to 0;sign t dark 0 to 9 sweet 0 to 9;");
        Check.due("told the other way round", y.flue(0, 2), 0);
    }

    // Part 2: "it may have none": no SIGN is told, none fits, one fits by half.
    private static void noSign() {
        Check.due("none told", Check.in("flue f;").flue(0, 2), NONE);
        Check.due("none fits", Check.in("flue f;sign s dark 1 to 9 sweet 1 to 9;").flue(0, 2), NONE);
        Check.due("by dark alone", Check.in("flue f;sign s dark 0 to 9 sweet 1 to 9;").flue(0, 2), NONE);
        Check.due("by sweet alone", Check.in("flue f;sign s dark 1 to 9 sweet 0 to 9;").flue(0, 2), NONE);
        Check.due("half of two", Check.in("flue f;sign s dark 0 to 9 sweet 1 to 9;sign t dark 1 to 9 sweet 0 to 9;").flue(0, 2), NONE);
    }

    // Promise 7: "false: others".
    private static void burnOthers() {
        OneSmoke x = Check.in(VALLEY);
        for (int i = 0; i < NOBODY.length; i++) {
            Check.due("burn of house " + NOBODY[i], x.burn(NOBODY[i], 0), false);
            Check.due("burn of fuel " + NOBODY[i], x.burn(0, NOBODY[i]), false);
        }
        Check.due("house 3", x.burn(3, 1), false);
        Check.due("fuel 2", x.burn(0, 2), false);
        // In a plane row fuel 5 of ann would be bob's oak.
        Check.due("fuel 5", x.burn(0, 5), false);
        Check.due("house 2", x.burn(2, 1), true);
        Check.due("fuel 1", x.burn(0, 1), true);
    }

    // Part 2: BURN: "that has 1 of a FUEL: it is one less": of 1, of 0, of many.
    private static void burnOfTheLast() {
        OneSmoke x = Check.in(VALLEY);
        Check.due("none of it", x.burn(1, 1), false);
        Check.due("of one", x.burn(0, 0), true);
        Check.due("none is left", x.house(0, 3), 0);
        Check.due("of 98", x.burn(1, 0), true);
        Check.due("97 are left", x.house(1, 3), 97);
        for (int hour = 0; hour < 3; hour++) {
            x.hour();
        }
        Check.due("the last is burnt", x.burn(0, 0), false);
        Check.due("still none", x.house(0, 3), 0);
    }

    // Part 2: BURN: "a HOUSE without a FIRE": in each of its hours, and behind the last.
    private static void burnBesideAFire() {
        OneSmoke x = Check.in(VALLEY);
        x.burn(0, 0);
        for (int hour = 0; hour < 3; hour++) {
            Check.due("beside a fire in hour " + hour, x.burn(0, 1), false);
            x.hour();
        }
        Check.due("nothing was taken", x.house(0, 4), 20);
        Check.due("behind it", x.burn(0, 1), true);
    }

    // Part 2: BURN: "its FIRE burns for its hours": of 1, of 9.
    private static void burnsForItsHours() {
        OneSmoke x = Check.in("fuel a dark 5 sweet 5 burns 1;fuel b dark 5 sweet 5 burns 9;flue f;house g at f;house h at f;stock g a 1;stock h b 1;");
        x.burn(0, 0);
        x.burn(1, 1);
        Check.due("of 1", x.house(0, 2), 1);
        Check.due("of 9", x.house(1, 2), 9);
        int[] out = {1, 0, 0, 0, 0, 0, 0, 0, 1, 0};
        for (int hour = 0; hour < out.length; hour++) {
            Check.due("out in hour " + hour, x.hour(), out[hour]);
        }
    }

    // Promise 8: "NONE: others": HOUSES, FUELS that are none, and what is no 1 to 99.
    private static void lendOthers() {
        OneSmoke x = Check.in(VALLEY);
        for (int i = 0; i < NOBODY.length; i++) {
            Check.due("lend of house " + NOBODY[i], x.lend(NOBODY[i], 1, 0, 1), NONE);
            Check.due("lend to house " + NOBODY[i], x.lend(0, NOBODY[i], 0, 1), NONE);
            Check.due("lend of fuel " + NOBODY[i], x.lend(0, 1, NOBODY[i], 1), NONE);
        }
        Check.due("house 3", x.lend(3, 0, 0, 1), NONE);
        Check.due("to house 3", x.lend(0, 3, 0, 1), NONE);
        Check.due("fuel 2", x.lend(0, 1, 2, 1), NONE);
        Check.due("fuel 5", x.lend(0, 1, 5, 1), NONE);
        Check.due("many 0", x.lend(0, 1, 0, 0), NONE);
        Check.due("many -1", x.lend(0, 1, 0, -1), NONE);
        Check.due("many far below", x.lend(0, 1, 0, Integer.MIN_VALUE), NONE);
        Check.due("many 100", x.lend(1, 0, 0, 100), NONE);
        Check.due("nothing done", x.count(12), 0);
        Check.due("one", x.lend(0, 1, 0, 1), 99);
    }

    // Promise 8: "NONE: .. the same".
    private static void lendTheSame() {
        OneSmoke x = Check.in(VALLEY);
        Check.due("0 to 0", x.lend(0, 0, 1, 1), NONE);
        Check.due("2 to 2", x.lend(2, 2, 1, 1), NONE);
        Check.due("2 to 0, of another flue", x.lend(2, 0, 1, 1), 21);
    }

    // Part 2: LEND: "a HOUSE that has so much": all, one more than all, of nothing.
    private static void lendAllOfIt() {
        OneSmoke x = Check.in(VALLEY);
        Check.due("one more", x.lend(0, 2, 1, 21), NONE);
        Check.due("all", x.lend(0, 2, 1, 20), 23);
        Check.due("none is left", x.house(0, 4), 0);
        Check.due("of nothing", x.lend(0, 2, 1, 1), NONE);
        Check.due("two of one", x.lend(0, 1, 0, 2), NONE);
    }

    // Part 2: LEND: "(99 at most then; what is more is lost)": to 98, 99, beyond.
    private static void lendNinetyNine() {
        OneSmoke x = Check.in("fuel a dark 1 sweet 1 burns 1;flue f;house g at f;house h at f;stock g a 99;stock h a 90;");
        Check.due("to 98", x.lend(0, 1, 0, 8), 98);
        Check.due("to 99", x.lend(0, 1, 0, 1), 99);
        Check.due("nothing is lost", x.count(8), 189);
        Check.due("beyond", x.lend(0, 1, 0, 1), 99);
        Check.due("one is lost", x.count(8), 188);
        Check.due("lent all the same", x.house(0, 3), 89);
        Check.due("99 to 89", x.lend(1, 0, 0, 99), 99);
        Check.due("89 are lost", x.count(8), 99);
        Check.due("with the other none", x.house(1, 3), 0);
    }

    // Promise 9: "how many FIRES went out": none, one, all; part 2: "at 0 it is out; it is the next hour".
    private static void hourPutsOut() {
        OneSmoke x = Check.in(VALLEY);
        Check.due("none burns", x.hour(), 0);
        Check.due("hour 1", x.count(5), 1);
        x.burn(0, 1);
        x.burn(1, 0);
        x.burn(2, 1);
        Check.due("two of three", x.hour(), 2);
        Check.due("hour 2", x.count(5), 2);
        Check.due("one is left", x.count(7), 2);
        Check.due("none", x.hour(), 0);
        Check.due("the third", x.hour(), 1);
        Check.due("all out", x.count(7), 0);
        OneSmoke y = Check.in("fuel a dark 1 sweet 1 burns 1;flue f;house g at f;house h at f;house i at f;house j at f;stock g a 1;stock h a 1;"
            + "stock i a 1;stock j a 1;");
        for (int house = 0; house < 4; house++) {
            y.burn(house, 0);
        }
        Check.due("four", y.hour(), 4);
    }

    // Part 2: an HOUR: soot of the FIRES that burn and of the wind there is, "then each FIRE burns an hour less".
    private static void sootOfTheHourThatGoes() {
        OneSmoke x = Check.in(VALLEY + "soots shade+100*wind;gives shade+left;");
        x.burn(0, 1);
        x.hour();
        Check.due("its last hour counts", x.flue(0, 3), 306);
        x.hour();
        Check.due("no fire, the next wind", x.flue(0, 3), 306 + 800);
        x.hour();
        Check.due("the first wind again", x.flue(0, 3), 306 + 800 + 300);
        Check.due("a flue of nobody", x.flue(2, 3), 300 + 800 + 300);
    }

    // Part 2: "(9,999 at most)": up to it, to it, beyond it.
    private static void sootAtMost9999() {
        OneSmoke x = Check.in("flue f;flue g;flue h;soots 909;");
        for (int hour = 0; hour < 10; hour++) {
            x.hour();
        }
        Check.due("below", x.flue(0, 3), 9090);
        x.hour();
        Check.due("to it", x.flue(0, 3), 9999);
        x.hour();
        Check.due("not beyond", x.flue(0, 3), 9999);
        Check.due("each by itself", x.count(9), 29997);
        OneSmoke y = Check.in("flue f;soots 999;");
        for (int hour = 0; hour < 10; hour++) {
            y.hour();
        }
        Check.due("9,990", y.flue(0, 3), 9990);
        y.hour();
        Check.due("cut", y.flue(0, 3), 9999);
        y.undo();
        Check.due("9,990 again", y.flue(0, 3), 9990);
    }

    // Promise 10: "false: nothing can be": at first, behind all, behind a VALLEY.
    private static void undoNothing() {
        OneSmoke x = Check.in(VALLEY);
        Check.due("at first", x.undo(), false);
        x.hour();
        Check.due("an hour", x.undo(), true);
        Check.due("behind it", x.undo(), false);
        x.hour();
        Check.valley(x, VALLEY);
        Check.due("behind a valley", x.undo(), false);
        Check.due("hour 0", x.count(5), 0);
    }

    // Part 2: "UNDO: all of these, the last 16, one by one": of 15, of 16.
    private static void undoSixteen() {
        for (int many = 15; many <= 16; many++) {
            OneSmoke x = Check.in(VALLEY);
            for (int i = 0; i < many; i++) {
                x.hour();
            }
            Check.due("can be undone of " + many, x.count(12), many);
            for (int i = 0; i < many; i++) {
                Check.due("undo " + i + " of " + many, x.undo(), true);
                Check.due("hour behind undo " + i, x.count(5), many - 1 - i);
            }
            Check.due("one more of " + many, x.undo(), false);
        }
    }

    // Part 2: ".. the last 16": of 17 the first one stays.
    private static void undoSeventeen() {
        OneSmoke x = Check.in(VALLEY);
        x.burn(0, 0);
        for (int i = 0; i < 16; i++) {
            x.lend(1, 2, 0, 1);
        }
        Check.due("16 can be undone", x.count(12), 16);
        for (int i = 0; i < 16; i++) {
            Check.due("undo " + i, x.undo(), true);
        }
        Check.due("a 17th", x.undo(), false);
        Check.due("all loans are undone", x.house(1, 3), 98);
        Check.due("the fire stays", x.house(0, 1), 0);
    }

    // Part 2: what is done behind an UNDO can be undone, too, and what was ahead of it.
    private static void undoGoesRound() {
        OneSmoke x = Check.in(VALLEY);
        for (int i = 0; i < 20; i++) {
            x.hour();
        }
        for (int i = 0; i < 5; i++) {
            x.undo();
        }
        Check.due("11 are left", x.count(12), 11);
        for (int i = 0; i < 3; i++) {
            x.hour();
        }
        Check.due("and three more", x.count(12), 14);
        for (int i = 0; i < 14; i++) {
            Check.due("undo " + i, x.undo(), true);
            Check.due("hour behind undo " + i, x.count(5), 17 - i);
        }
        Check.due("a 15th", x.undo(), false);
        Check.due("hour 4", x.count(5), 4);
    }

    // Part 2: UNDO of "all of these": a BURN, a LEND with what was lost, an HOUR with its soot and what went out.
    private static void undoEach() {
        OneSmoke x = Check.in(VALLEY);
        x.burn(0, 1);
        x.lend(1, 0, 0, 98);
        x.lend(0, 1, 0, 1);
        x.hour();
        Check.due("soot", x.flue(0, 3), 5);
        x.undo();
        Check.due("no soot", x.flue(0, 3), 0);
        Check.due("burns again", x.house(0, 2), 1);
        Check.due("hour 0", x.count(5), 0);
        Check.due("its wind", x.count(6), 3);
        x.undo();
        x.undo();
        Check.due("his oak", x.house(1, 3), 98);
        Check.due("her oak", x.house(0, 3), 1);
        x.undo();
        Check.due("no fire", x.house(0, 1), NONE);
        Check.due("her ash", x.house(0, 4), 20);
    }

    // Part 2: what can't be, and what only asks, is none "of these".
    private static void refusedIsNotUndone() {
        OneSmoke x = Check.in(VALLEY);
        x.burn(0, 0);
        x.burn(0, 1);
        x.burn(1, 1);
        x.burn(9, 0);
        x.lend(0, 1, 0, 1);
        x.lend(0, 0, 1, 1);
        x.read(0, 0, 0);
        x.mark(0, false);
        Check.day(x, "hour;");
        x.judged(2);
        x.years(1, 9, 1);
        x.spell(0, 0, 0, NONE);
        Check.due("the fire alone", x.count(12), 1);
        Check.due("undo", x.undo(), true);
        Check.due("no fire", x.house(0, 1), NONE);
        Check.due("nothing more", x.undo(), false);
    }

    // Part 3: "behind an HOUR, an UNDO nothing is READ": an UNDO of whatever; one that can't be is none.
    private static void undoEndsWhatIsRead() {
        OneSmoke x = Check.in(VALLEY);
        x.read(0, 0, NONE);
        Check.due("an undo that can't be", x.undo(), false);
        Check.due("it is read", x.count(11), 1);
        x.burn(0, 0);
        Check.due("behind a burn", x.count(11), 1);
        x.undo();
        Check.due("behind an undo of a burn", x.count(11), 0);
        x.lend(0, 1, 0, 1);
        x.read(0, 0, NONE);
        x.undo();
        Check.due("behind an undo of a loan", x.count(11), 0);
        x.read(0, 0, NONE);
        x.hour();
        Check.due("behind an hour", x.count(11), 0);
        x.read(0, 0, NONE);
        x.undo();
        Check.due("behind an undo of an hour", x.count(11), 0);
    }

    // Promise 23: "MARKS 0 to 3"; "false: none such".
    private static void markNumbers() {
        OneSmoke x = Check.in(VALLEY);
        int[] others = {-1, 4, 5, 31, 32, -32, Integer.MAX_VALUE, Integer.MIN_VALUE};
        for (int i = 0; i < others.length; i++) {
            Check.due("mark " + others[i], x.mark(others[i], false), false);
            Check.due("back to " + others[i], x.mark(others[i], true), false);
        }
        for (int mark = 0; mark < 4; mark++) {
            Check.due("mark " + mark, x.mark(mark, false), true);
            Check.due("back to " + mark, x.mark(mark, true), true);
        }
        for (int i = 0; i < others.length; i++) {
            Check.due("back to " + others[i] + " behind all", x.mark(others[i], true), false);
        }
    }

    // Promise 23: "false: .. nothing is on it (back)": all stays then.
    private static void markWithNothingOnIt() {
        OneSmoke x = Check.in(VALLEY);
        x.mark(1, false);
        x.hour();
        x.read(0, 0, NONE);
        Check.due("back to 0", x.mark(0, true), false);
        Check.due("back to 2", x.mark(2, true), false);
        Check.due("the hour stays", x.count(5), 1);
        Check.due("what is read stays", x.count(11), 1);
        Check.due("what can be undone stays", x.count(12), 1);
    }

    // Part 3: "MARKS 0 to 3 hold how it is, the DAY, what is READ": and not the TAPE.
    private static void markHolds() {
        OneSmoke x = Check.in(VALLEY);
        x.burn(0, 0);
        x.hour();
        x.lend(1, 0, 0, 50);
        Check.day(x, "hour;burn ann oak;");
        for (int i = 0; i < 8; i++) {
            x.read(0, i % 3, NONE);
        }
        x.mark(3, false);
        x.burn(1, 0);
        x.hour();
        x.hour();
        Check.day(x, "");
        Check.feed(x, "flue");
        Check.due("back", x.mark(3, true), true);
        int[] due = {2, 3, 3, 1, 1, 1, 8, 1, 121, 20, 2, 8, 0, 4};
        for (int what = 0; what < due.length; what++) {
            Check.due("count " + what, x.count(what), due[what]);
        }
        Check.due("her fire", x.house(0, 2), 2);
        Check.due("his none", x.house(1, 1), NONE);
        Check.due("his oak", x.house(1, 3), 48);
        Check.due("eight are read", x.read(0, 0, NONE), false);
        // Of its second line: from the beginning ann has oak, and no fire.
        Check.due("judged by its day", x.judged(0), NONE);
    }

    // Part 3: MARKS hold "what is READ": by which WATCHER, over which FLUE, which SIGN.
    private static void markHoldsWhatIsRead() {
        String text = "fuel a dark 1 sweet 5 burns 1;fuel b dark 2 sweet 6 burns 1;flue f;flue g;house h at f;house i at g;stock h a 1;stock h b 1;"
            + "stock i a 1;sign s dark 1 to 1 sweet 0 to 9;sign t dark 2 to 2 sweet 6 to 6;watcher v sees dark;watcher w sees sweet;";
        int[][] reads = {{0, 0, 0}, {1, 0, 0}, {1, 0, 1}, {0, 1, 0}, {0, 0, NONE}, {0, 0, 1}};
        int[] ways = {2, 6, 2, 3, 2, 2};
        OneSmoke x = Check.in(text);
        for (int i = 0; i < reads.length; i++) {
            for (int j = 0; j < reads.length; j++) {
                x.read(reads[i][0], reads[i][1], reads[i][2]);
                Check.due("ways by read " + i, x.ways(NONE), ways[i]);
                int own = x.ways(0);
                x.mark(i % 4, false);
                x.hour();
                x.read(reads[j][0], reads[j][1], reads[j][2]);
                x.mark(i % 4, true);
                Check.due("ways by read " + i + " of the mark, not " + j, x.ways(NONE), ways[i]);
                Check.due("house 0 by read " + i + " of the mark, not " + j, x.ways(0), own);
                x.hour();
                x.undo();
            }
        }
    }

    // Part 3: "(nothing can be undone when one is gone back to)"; laying one leaves what can be.
    private static void markAndUndo() {
        OneSmoke x = Check.in(VALLEY);
        x.hour();
        x.mark(0, false);
        Check.due("laid: one can be undone", x.count(12), 1);
        x.hour();
        x.mark(0, true);
        Check.due("back: none can be", x.count(12), 0);
        Check.due("back: undo", x.undo(), false);
        Check.due("back: the hour stays", x.count(5), 1);
        x.hour();
        Check.due("behind it one can be", x.count(12), 1);
        Check.due("undo of it", x.undo(), true);
        Check.due("as at the mark", x.count(5), 1);
        Check.due("nothing ahead of it", x.undo(), false);
    }

    // Promise 23: "A MARK is laid": also where one was, of how it is then.
    private static void markLaidAgain() {
        OneSmoke x = Check.in(VALLEY);
        x.mark(2, false);
        x.hour();
        x.mark(2, false);
        x.hour();
        x.mark(2, true);
        Check.due("the last one laid", x.count(5), 1);
        x.hour();
        x.hour();
        x.mark(2, true);
        Check.due("gone back to twice", x.count(5), 1);
    }

    // Part 3: "MARKS 0 to 3": each holds its own.
    private static void marksApart() {
        OneSmoke x = Check.in(VALLEY);
        for (int mark = 0; mark < 4; mark++) {
            x.mark(mark, false);
            x.hour();
            x.read(0, mark % 3, NONE);
        }
        for (int mark = 3; mark >= 0; mark--) {
            Check.due("back to " + mark, x.mark(mark, true), true);
            Check.due("its hour", x.count(5), mark);
            Check.due("what it read", x.count(11), mark == 0 ? 0 : 1);
        }
    }

    // Promise 24: "what 0 .. 13 .. NONE for another what".
    private static void countWhat() {
        OneSmoke x = Check.in(VALLEY);
        x.burn(0, 0);
        x.burn(2, 1);
        x.hour();
        x.read(0, 0, 0);
        Check.day(x, "hour;hour;hour;");
        Check.feed(x, "flue a;");
        int[] due = {2, 3, 3, 1, 1, 1, 8, 1, 120, 25, 3, 1, 3, 7};
        for (int what = 0; what < due.length; what++) {
            Check.due("count " + what, x.count(what), due[what]);
        }
        int[] others = {-1, 14, 15, -14, Integer.MAX_VALUE, Integer.MIN_VALUE};
        for (int i = 0; i < others.length; i++) {
            Check.due("count " + others[i], x.count(others[i]), NONE);
        }
    }

    // Promise 24: "7: FIRES, as bits of HOUSES": of none, each, all four.
    private static void countFiresAsBits() {
        OneSmoke x = Check.in("fuel a dark 1 sweet 1 burns 2;flue f;flue h;house i at f;house j at h;house k at f;house l at h;stock i a 1;"
            + "stock j a 1;stock k a 1;stock l a 1;");
        int[] due = {8, 9, 13, 15};
        int[] order = {3, 0, 2, 1};
        Check.due("none", x.count(7), 0);
        for (int i = 0; i < 4; i++) {
            x.burn(order[i], 0);
            Check.due("fires behind " + i, x.count(7), due[i]);
        }
    }
}
