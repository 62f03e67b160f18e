/** Promises 1 and 5 to 24, each on small valleys whose answers were worked out by hand. */
public final class PromisesTest {
    private static final int NONE = OneSmoke.NONE;

    /** Two at one flue, one at another; the winds 0 and 4. */
    private static final String TWO = "fuel oak dark 20 sweet 2 burns 3;fuel ham dark 5 sweet 30 burns 2;"
        + "fuel ash dark 40 sweet 0 burns 1;flue big;flue tin;house ann at big;house bob at big;house cat at tin;"
        + "stock ann oak 3;stock ann ham 1;stock bob oak 2;stock bob ash 2;stock cat ham 4;"
        + "sign feast dark 0 to 30 sweet 20 to 60;sign work dark 15 to 45 sweet 0 to 10;"
        + "sign grief dark 46 to 99 sweet 0 to 99;watcher eve sees dark;watcher ivo sees both;winds 0 4;"
        + "soots shade+scent-wind;";

    public static void main(String[] args) {
        newObject();
        house();
        flue();
        flueAtItsLimits();
        laws();
        burn();
        lend();
        hour();
        sootAtItsLimits();
        undo();
        judged();
        spell();
        spellTwo();
        sureAndHope();
        read();
        ways();
        ask();
        blur();
        share();
        given();
        rests();
        years();
        mark();
        count();
        Check.end("PromisesTest");
    }

    private static void newObject() {
        OneSmoke x = new OneSmoke();
        for (int what = 0; what <= 13; what++) {
            Check.due("new count " + what, x.count(what), 0);
        }
        Check.due("new house", x.house(0, 0), -2);
        Check.due("new flue", x.flue(0, 0), -2);
        Check.due("new burn", x.burn(0, 0), false);
        Check.due("new lend", x.lend(0, 1, 0, 1), NONE);
        Check.due("new undo", x.undo(), false);
        Check.due("new judged 0", x.judged(0), NONE);
        Check.due("new judged 1", x.judged(1), 0);
        Check.due("new judged 2", x.judged(2), 0);
        Check.due("new spell", x.spell(0, NONE, -2, NONE), -2);
        Check.due("new sure", x.sure(0, 0), NONE);
        Check.due("new hope", x.hope(0, 0, 0), NONE);
        Check.due("new read", x.read(0, 0, NONE), false);
        Check.due("new ways", x.ways(NONE), 1);
        Check.due("new ways of a house", x.ways(0), -2);
        Check.due("new ask", x.ask(), NONE);
        Check.due("new blur", x.blur(0, 1), NONE);
        Check.due("new share", x.share(0), NONE);
        Check.due("new given", x.given(0, 0), NONE);
        Check.due("new rests", Check.rests(x, 0, 1, 0, 0, 1, NONE), -100);
        Check.due("new years", x.years(1, 99, 2), 0);
        Check.due("new mark back", x.mark(0, true), false);
        Check.due("new mark", x.mark(0, false), true);
        Check.due("new hour", x.hour(), 0);
        Check.due("new hour behind", x.count(5), 1);
        Check.due("new undo behind", x.undo(), true);
        Check.due("new day", x.day(), 0);
        Check.due("new valley", x.valley(), 0);
        Check.due("marks gone with a new valley", x.mark(0, true), false);
        Check.due("NONE", OneSmoke.NONE, -1);
    }

    private static void house() {
        OneSmoke x = Check.in(TWO);
        Check.due("flue of bob", x.house(1, 0), 0);
        Check.due("flue of cat", x.house(2, 0), 1);
        Check.due("no fire", x.house(1, 1), NONE);
        Check.due("no hours", x.house(1, 2), 0);
        Check.due("oak of ann", x.house(0, 3), 3);
        Check.due("ham of ann", x.house(0, 4), 1);
        Check.due("ash of ann", x.house(0, 5), 0);
        Check.due("ash of bob", x.house(1, 5), 2);
        x.burn(0, 1);
        Check.due("fire", x.house(0, 1), 1);
        Check.due("hours", x.house(0, 2), 2);
        Check.due("ham less", x.house(0, 4), 0);
        Check.due("no such fuel", x.house(0, 6), -2);
        int[] odd = {-1, -2, -3, Integer.MIN_VALUE, Integer.MIN_VALUE + 3, Integer.MAX_VALUE, 8, 23};
        for (int i = 0; i < odd.length; i++) {
            Check.due("house what " + odd[i], x.house(0, odd[i]), -2);
        }
        Check.due("house 3", x.house(3, 0), -2);
        Check.due("house -1", x.house(-1, 0), -2);
        Check.due("house far", x.house(Integer.MAX_VALUE, 3), -2);
    }

    private static void flue() {
        OneSmoke x = Check.in(TWO);
        Check.due("houses", x.flue(0, 4), 3);
        Check.due("houses of tin", x.flue(1, 4), 4);
        Check.due("dark of nothing", x.flue(0, 0), 0);
        Check.due("no sign", x.flue(0, 2), NONE);
        x.burn(0, 0);
        x.burn(1, 2);
        Check.due("dark of two", x.flue(0, 0), 60);
        Check.due("sweet of two", x.flue(0, 1), 2);
        Check.due("grief", x.flue(0, 2), 2);
        Check.due("the other flue", x.flue(1, 0), 0);
        x.hour();
        Check.due("soot", x.flue(0, 3), 62);
        Check.due("one fire", x.flue(0, 0), 20);
        Check.due("work", x.flue(0, 2), 1);
        Check.due("what 5", x.flue(0, 5), -2);
        Check.due("what -1", x.flue(0, -1), -2);
        Check.due("flue 2", x.flue(2, 0), -2);
        Check.due("flue -1", x.flue(-1, 4), -2);
        // The first sign that fits is the one, and a sign may be of no smoke at all.
        OneSmoke y = Check.in("flue f;flue g;sign a dark 1 to 9 sweet 0 to 9;sign b dark 0 to 9 sweet 0 to 0;"
            + "sign c dark 0 to 0 sweet 0 to 0;");
        Check.due("first that fits", y.flue(0, 2), 1);
        Check.due("of the other flue, too", y.flue(1, 2), 1);
        Check.due("no houses", y.flue(1, 4), 0);
    }

    private static void flueAtItsLimits() {
        String houses = "flue f;house a at f;house b at f;stock a x 9;stock b x 9;sign s dark 999 to 999 sweet 0 to 0;";
        OneSmoke x = Check.in("fuel x dark 9 sweet 9 burns 9;" + houses + "gives (600+300*wind)*(1-smelt)-5;winds 0 9;");
        x.burn(0, 0);
        Check.due("below the limit", x.flue(0, 0), 595);
        Check.due("sweet not below 0", x.flue(0, 1), 0);
        x.burn(1, 0);
        Check.due("at most 999 together", x.flue(0, 0), 999);
        Check.due("its sign", x.flue(0, 2), 0);
        x.hour();
        Check.due("each at most 999", x.flue(0, 0), 999);
        OneSmoke y = Check.in("fuel x dark 9 sweet 9 burns 9;" + houses + "gives 9999*9999*9999;");
        y.burn(0, 0);
        // 9999 * 9999 * 9999 wraps to a number above 0 or below it; ints wrap, so Java's own product tells.
        Check.due("ints wrap", y.flue(0, 0), Math.max(0, Math.min(999, 9999 * 9999 * 9999)));
        OneSmoke z = Check.in("fuel x dark 9 sweet 9 burns 9;" + houses + "gives (0<9999*9999*25)+2*(9999*9999*25<0);");
        z.burn(0, 0);
        Check.due("wrapped below 0", z.flue(0, 0), 9999 * 9999 * 25 < 0 ? 2 : 1);
    }

    private static void law(String law, int dark, int sweet) {
        OneSmoke x = Check.in("fuel x dark 7 sweet 3 burns 4;flue f;house a at f;stock a x 1;winds 2;gives " + law + ";");
        x.burn(0, 0);
        Check.due("dark by " + law, x.flue(0, 0), dark);
        Check.due("sweet by " + law, x.flue(0, 1), sweet);
    }

    private static void laws() {
        law("shade", 7, 7);
        law("scent", 3, 3);
        law("wind", 2, 2);
        law("left", 4, 4);
        law("smelt", 0, 1);
        law("2+3*4", 14, 14);
        law("(2+3)*4", 20, 20);
        law("20-3-4", 13, 13);
        law("20-(3-4)", 21, 21);
        law("2*3*4-5+1", 20, 20);
        law("not 0+5", 6, 6);
        law("not 3*5", 0, 0);
        law("not not 7", 1, 1);
        law("not(1-1)", 1, 1);
        law("5 and 9", 1, 1);
        law("5 and 0", 0, 0);
        law("0 or 9", 1, 1);
        law("0 or 0", 0, 0);
        law("1 or 1 and 0", 0, 0);
        law("0 and 0 or 1", 1, 1);
        law("0 and (0 or 1)", 0, 0);
        law("1 or (1 and 0)", 1, 1);
        law("1+1 < 3", 1, 1);
        law("3 < 1+1", 0, 0);
        law("2 < 2", 0, 0);
        law("1+1 = 2", 1, 1);
        law("1+1 = 3", 0, 0);
        law("1 = 1 and 2 < 1 or shade = 7", 1, 1);
        law("not 1 < 2", 1, 1);
        law("0-3 and 1", 1, 1);
        law("(1 < 2)*50+(1 = 2)*9", 50, 50);
        law("1-2", 0, 0);
        law("9999", 999, 999);
        law("shade*(1-smelt)+scent*10*smelt", 7, 30);
        law("((((left))))*((wind)+not not not 0)", 12, 12);
        law("1" + "+1".repeat(450), 451, 451);
        law("0" + " or 0".repeat(150) + " or 1", 1, 1);
        // As many values waiting for others as can be: four at each of the five levels.
        String level = "0 or 0<1+1*(";
        law(level.repeat(4) + "0 or 0<1+1*7" + "))))", 1, 1);
        law(level.repeat(4) + "1 and 9<1+1*7" + "))))", 1, 1);
        law("1 and 1=0+1*(".repeat(4) + "1 and 9<1+1*7" + "))))", 0, 0);
    }

    private static void burn() {
        OneSmoke x = Check.in(TWO);
        Check.due("has none of it", x.burn(0, 2), false);
        Check.due("burns", x.burn(0, 1), true);
        Check.due("a fire already", x.burn(0, 0), false);
        Check.due("house 3", x.burn(3, 0), false);
        Check.due("house -1", x.burn(-1, 0), false);
        Check.due("fuel 3", x.burn(1, 3), false);
        Check.due("fuel -1", x.burn(1, -1), false);
        // ann's stock in the plane row would be the next house's first one.
        Check.due("fuel 5", x.burn(1, 5), false);
        Check.due("one can be undone", x.count(12), 1);
        x.hour();
        x.hour();
        Check.due("out", x.house(0, 1), NONE);
        Check.due("none left", x.burn(0, 1), false);
        Check.due("burns anew", x.burn(0, 0), true);
        Check.due("its hours", x.house(0, 2), 3);
    }

    private static void lend() {
        OneSmoke x = Check.in("fuel f dark 1 sweet 1 burns 1;fuel g dark 1 sweet 1 burns 1;flue u;flue v;house a at u;house b at v;"
            + "stock a f 90;stock b f 60;");
        Check.due("to another flue's", x.lend(0, 1, 0, 10), 70);
        Check.due("left with him", x.house(0, 3), 80);
        Check.due("too much", x.lend(0, 1, 0, 81), NONE);
        Check.due("none of it", x.lend(0, 1, 1, 1), NONE);
        Check.due("the same", x.lend(0, 0, 0, 1), NONE);
        Check.due("many 0", x.lend(0, 1, 0, 0), NONE);
        Check.due("many -1", x.lend(0, 1, 0, -1), NONE);
        Check.due("many 100", x.lend(0, 1, 0, 100), NONE);
        Check.due("house 2", x.lend(2, 1, 0, 1), NONE);
        Check.due("other -1", x.lend(0, -1, 0, 1), NONE);
        Check.due("other 2", x.lend(0, 2, 0, 1), NONE);
        Check.due("fuel 2", x.lend(0, 1, 2, 1), NONE);
        Check.due("fuel -1", x.lend(0, 1, -1, 1), NONE);
        Check.due("none of these counts", x.count(12), 1);
        Check.due("99 at most", x.lend(0, 1, 0, 80), 99);
        Check.due("all lent", x.house(0, 3), 0);
        Check.due("what is more is lost", x.count(8), 99);
        Check.due("undone", x.undo(), true);
        Check.due("what was lost is there", x.count(8), 150);
        x.burn(0, 0);
        Check.due("lent by one with a fire", x.lend(0, 1, 0, 1), 71);
    }

    private static void hour() {
        OneSmoke x = Check.in(TWO);
        x.burn(0, 0);
        x.burn(1, 2);
        x.burn(2, 1);
        x.read(0, 0, NONE);
        Check.due("one went out", x.hour(), 1);
        Check.due("hour", x.count(5), 1);
        Check.due("nothing read", x.count(11), 0);
        Check.due("soot of big", x.flue(0, 3), 62);
        Check.due("soot of tin", x.flue(1, 3), 35);
        Check.due("another went out", x.hour(), 1);
        // In wind 4: 20 + 2 - 4, and 5 + 30 - 4.
        Check.due("soot of big by wind", x.flue(0, 3), 80);
        Check.due("soot of tin by wind", x.flue(1, 3), 66);
        Check.due("the last went out", x.hour(), 1);
        Check.due("none went out", x.hour(), 0);
        Check.due("wind goes round", x.count(6), 0);
        // Of nothing 0 - 4 is no soot.
        Check.due("soot at last", x.flue(0, 3), 102);
    }

    private static void sootAtItsLimits() {
        OneSmoke x = Check.in("flue f;flue g;soots 950+100*wind;winds 0 9;");
        x.hour();
        Check.due("soot without a fire", x.flue(1, 3), 950);
        x.hour();
        Check.due("999 at most an hour", x.flue(1, 3), 1949);
        for (int i = 0; i < 9; i++) {
            x.hour();
        }
        Check.due("9,999 at most", x.flue(1, 3), 9999);
        Check.due("of all", x.count(9), 19998);
        Check.due("no more to come", x.years(1, 9, 1), 0);
        OneSmoke y = Check.in("fuel a dark 9 sweet 4 burns 2;flue f;house h at f;stock h a 2;");
        y.burn(0, 0);
        y.hour();
        Check.due("without soots: shade", y.flue(0, 3), 9);
    }

    private static void undo() {
        OneSmoke x = Check.in("fuel f dark 1 sweet 1 burns 2;flue u;house a at u;house b at u;stock a f 40;soots 1;watcher w sees both;");
        x.burn(0, 0);
        x.lend(0, 1, 0, 5);
        x.hour();
        x.read(0, 0, NONE);
        x.hour();
        Check.due("four", x.count(12), 4);
        x.read(0, 0, NONE);
        Check.due("undone", x.undo(), true);
        Check.due("nothing read", x.count(11), 0);
        Check.due("hour", x.count(5), 1);
        Check.due("soot", x.count(9), 1);
        Check.due("fire", x.house(0, 2), 1);
        x.undo();
        Check.due("fire", x.house(0, 2), 2);
        x.undo();
        Check.due("not lent", x.house(1, 3), 0);
        Check.due("not lent", x.house(0, 3), 39);
        x.undo();
        Check.due("not burnt", x.house(0, 1), NONE);
        Check.due("not burnt", x.house(0, 3), 40);
        x.read(0, 0, NONE);
        Check.due("nothing more", x.undo(), false);
        Check.due("what is read stays then", x.count(11), 1);
        for (int i = 0; i < 20; i++) {
            x.lend(0, 1, 0, 1);
        }
        Check.due("16 at most", x.count(12), 16);
        for (int i = 0; i < 16; i++) {
            Check.due("undo " + i, x.undo(), true);
        }
        Check.due("a 17th", x.undo(), false);
        Check.due("the first four stay", x.house(1, 3), 4);
    }

    private static void judged() {
        OneSmoke x = Check.in(TWO);
        x.burn(2, 1);
        x.hour();
        Check.due("no day", x.judged(0), NONE);
        Check.due("no day", x.judged(2), 0);
        Check.day(x, "burn ann oak;burn ann ham;hour;lend bob ann ash 2;burn bob ash;hour;hour;burn cat ham;hour;");
        Check.due("line", x.judged(0), 1);
        Check.due("signs", x.judged(1), 4);
        Check.due("soot", x.judged(2), 93);
        Check.due("what 3", x.judged(3), -2);
        Check.due("what -1", x.judged(-1), -2);
        Check.due("all as it was", x.count(5), 1);
        Check.day(x, "lend cat ann ham 4;lend cat ann ham 1;hour;");
        Check.due("a loan that can't be", x.judged(0), 1);
        Check.day(x, "burn cat ham;hour;");
        Check.due("all can be", x.judged(0), NONE);
        Check.due("signs", x.judged(1), 1);
        Check.due("soot", x.judged(2), 35);
        Check.day(x, "burn bob ash;hour;burn bob ash;hour;burn bob ash;hour;");
        Check.due("none left", x.judged(0), 4);
        OneSmoke y = Check.in("flue f;flue g;sign a dark 0 to 0 sweet 0 to 0;");
        Check.day(y, "hour;hour;hour;");
        Check.due("flue by flue", y.judged(1), 6);
        y.hour();
        Check.due("undo leaves the day", y.undo(), true);
        Check.due("lines", y.count(10), 3);
    }

    private static void spell() {
        OneSmoke x = Check.in(TWO);
        int[][] due = {
            {0, 0, -2, -1, 1}, {0, 0, -2, 0, 1}, {0, 0, -2, 1, -1}, {0, 0, -2, 2, -1},
            {0, 1, -2, -1, 1}, {0, 1, -2, 0, 0}, {0, 1, -2, 1, -1},
            {0, 2, -2, -1, 2}, {0, 2, -2, 0, 0}, {0, 2, -2, 1, 2},
            {0, -1, -2, -1, 0}, {0, -1, -2, 0, -1}, {1, 0, -2, 2, 1}, {1, 1, -2, -1, -2}, {1, 1, -2, 0, -2},
            {1, 0, 0, -1, 1}, {1, -1, 0, -1, 1}, {1, -1, 0, 2, -1}, {1, 0, -1, -1, -2}, {0, -1, -1, -1, 0},
            {2, 0, -2, -1, -2}, {-1, 0, -2, -1, -2}, {0, 3, -2, -1, -2}, {0, -2, -2, -1, -2}, {0, 0, 3, -1, -2},
            {0, 0, -3, -1, -2}, {0, 0, -2, 3, -2}, {0, 0, -2, -2, -2},
        };
        for (int i = 0; i < due.length; i++) {
            int[] d = due[i];
            Check.due("spell row " + i, x.spell(d[0], d[1], d[2], d[3]), d[4]);
        }
        x.burn(0, 0);
        Check.due("a sign that is there", x.spell(0, 1, -2, -1), 0);
        Check.due("one with a fire", x.spell(0, 2, -2, 0), -1);
        Check.due("what the other adds", x.spell(0, 2, -2, 1), 2);
        Check.due("none can be", x.spell(0, -1, -2, -1), -2);
    }

    private static void spellTwo() {
        // One ash alone: it burns an hour and can't be had again.
        OneSmoke x = Check.in("fuel ash dark 40 sweet 0 burns 1;fuel oak dark 40 sweet 0 burns 2;flue f;house a at f;house b at f;"
            + "stock a ash 1;stock b ash 1;stock b oak 1;sign s dark 40 to 40 sweet 0 to 0;sign t dark 80 to 80 sweet 0 to 0;");
        Check.due("oak through both hours", x.spell(0, 0, 0, -1), 1);
        Check.due("of a", x.spell(0, 0, 0, 0), -1);
        Check.due("of b", x.spell(0, 0, 0, 1), 1);
        Check.due("80 then 40: ash beside oak", x.spell(0, 1, 0, -1), 2);
        Check.due("a burns ash", x.spell(0, 1, 0, 0), 0);
        Check.due("b burns oak", x.spell(0, 1, 0, 1), 1);
        Check.due("40 then 80", x.spell(0, 0, 1, -1), 2);
        Check.due("a waits", x.spell(0, 0, 1, 0), -1);
        Check.due("80 twice can't be", x.spell(0, 1, 1, -1), -2);
        Check.due("40 then nothing: the ash first", x.spell(0, 0, -1, 0), 0);
        Check.due("nothing then 80", x.spell(0, -1, 1, -1), 2);
        OneSmoke y = Check.in("fuel ash dark 40 sweet 0 burns 1;flue f;house a at f;stock a ash 2;sign s dark 40 to 40 sweet 0 to 0;");
        Check.due("again from stock", y.spell(0, 0, 0, -1), 2);
        y.burn(0, 0);
        Check.due("a fire and the last one", y.spell(0, 0, 0, -1), 1);
        Check.due("what it burns now", y.spell(0, 0, 0, 0), -1);
        y.hour();
        Check.due("the last one does not last", y.spell(0, 0, 0, -1), -2);
        // Smoke that grows less with the hours, and a wind of the next hour.
        OneSmoke z = Check.in("fuel a dark 10 sweet 0 burns 3;flue f;house h at f;stock h a 1;gives (shade*left+wind)*(1-smelt);winds 1 5;"
            + "sign s dark 31 to 31 sweet 0 to 0;sign t dark 25 to 25 sweet 0 to 0;");
        Check.due("by left and wind", z.spell(0, 0, 1, -1), 1);
        Check.due("not again", z.spell(0, 0, 0, -1), -2);
    }

    private static void sureAndHope() {
        OneSmoke x = Check.in(TWO);
        Check.due("not sure", x.sure(0, 1), NONE);
        Check.due("hope", x.hope(0, 0, 1), 666666);
        Check.due("alone it's sure", x.sure(2, 0), 1);
        Check.due("alone it's all", x.hope(2, 1, 0), 1000000);
        Check.due("no hope", x.hope(2, 1, 1), 0);
        Check.due("has none", x.hope(0, 2, 0), NONE);
        Check.due("sign 3", x.hope(0, 0, 3), NONE);
        Check.due("sign -1", x.hope(0, 0, -1), NONE);
        Check.due("house 3", x.hope(3, 0, 0), NONE);
        Check.due("house -1", x.hope(-1, 0, 0), NONE);
        Check.due("fuel 3", x.hope(0, 3, 0), NONE);
        Check.due("fuel -1", x.hope(0, -1, 0), NONE);
        Check.due("sure sign 3", x.sure(0, 3), NONE);
        Check.due("sure sign -1", x.sure(0, -1), NONE);
        Check.due("sure house 3", x.sure(3, 0), NONE);
        Check.due("sure house -1", x.sure(-1, 0), NONE);
        x.read(0, 0, NONE);
        Check.due("what is read does not matter", x.hope(0, 0, 1), 666666);
        x.burn(1, 2);
        Check.due("grief is sure beside ash", x.sure(0, 2), 0);
        Check.due("has a fire", x.sure(1, 2), NONE);
        Check.due("hope of one with a fire", x.hope(1, 0, 2), NONE);
        x.hour();
        x.undo();
        Check.due("one way", x.hope(0, 1, 2), 0);
        // The first of two that are sure; three neighbours' ways, 3 * 2 * 1.
        OneSmoke y = Check.in("fuel a dark 1 sweet 0 burns 1;fuel b dark 2 sweet 0 burns 1;flue f;house h at f;house i at f;house j at f;"
            + "house k at f;stock h a 1;stock h b 1;stock i a 1;stock i b 1;stock j b 1;sign s dark 3 to 9 sweet 0 to 0;"
            + "sign t dark 0 to 99 sweet 0 to 0;sign u dark 0 to 99 sweet 0 to 0;");
        Check.due("none sure", y.sure(0, 0), NONE);
        // a: 1 and 0 1 2 beside 0 2: 1 2 3 3 4 5; b: one more each.
        Check.due("hope of a", y.hope(0, 0, 0), 666666);
        Check.due("hope of b", y.hope(0, 1, 0), 833333);
        Check.due("the first sign is read, not this", y.hope(0, 1, 1), 166666);
        Check.due("never", y.hope(0, 1, 2), 0);
    }

    private static void read() {
        OneSmoke x = Check.in(TWO);
        Check.due("watcher 2", x.read(2, 0, 0), false);
        Check.due("watcher -1", x.read(-1, 0, 0), false);
        Check.due("flue 2", x.read(0, 2, 0), false);
        Check.due("flue -1", x.read(0, -1, 0), false);
        Check.due("sign 3", x.read(0, 0, 3), false);
        Check.due("sign -2", x.read(0, 0, -2), false);
        Check.due("none of these", x.count(11), 0);
        for (int i = 0; i < 8; i++) {
            Check.due("read " + i, x.read(i % 2, 1, NONE), true);
        }
        Check.due("a ninth", x.read(0, 1, NONE), false);
        Check.due("eight", x.count(11), 8);
        x.burn(2, 1);
        x.lend(0, 1, 0, 1);
        Check.due("fires and loans leave them", x.count(11), 8);
        Check.day(x, "hour;");
        Check.due("so does a day", x.count(11), 8);
        x.hour();
        Check.due("an hour does not", x.count(11), 0);
    }

    private static void ways() {
        OneSmoke x = Check.in(TWO);
        Check.due("3 * 3 * 2", x.ways(NONE), 18);
        Check.due("not the same", x.ways(0), NONE);
        x.read(0, 1, NONE);
        // No dark of tin lies beyond all signs: feast is from 0.
        Check.due("no way", x.ways(NONE), 0);
        Check.due("no way", x.ways(0), NONE);
        x.hour();
        x.undo();
        x.read(1, 1, NONE);
        Check.due("tin shows nothing", x.ways(NONE), 9);
        Check.due("none by all", x.ways(2), 3);
        Check.due("bob by none", x.ways(1), NONE);
        x.read(1, 0, 0);
        // Feast: ham alone, or beside oak: 25 and 32; ash makes 45.
        Check.due("feast over big", x.ways(NONE), 2);
        Check.due("ham by all", x.ways(0), 1);
        x.read(0, 0, 2);
        Check.due("and dark of grief: no way", x.ways(NONE), 0);
        Check.due("no way", x.ways(2), NONE);
        Check.due("house 3", x.ways(3), -2);
        Check.due("house -2", x.ways(-2), -2);
        x.hour();
        x.undo();
        x.burn(0, 0);
        Check.due("has a fire", x.ways(0), -2);
        Check.due("3 * 2", x.ways(NONE), 6);
        x.read(0, 0, 2);
        Check.due("by the ash", x.ways(1), 2);
        OneSmoke y = Check.in("fuel a dark 5 sweet 7 burns 1;flue f;house h at f;house i at f;stock h a 1;"
            + "sign s dark 5 to 5 sweet 7 to 7;watcher v sees sweet;watcher w sees sweet;watcher d sees dark;");
        Check.due("who has nothing burns none", y.ways(1), 1);
        y.read(0, 0, 0);
        Check.due("by sweet", y.ways(0), 0);
        y.read(1, 0, NONE);
        Check.due("each against the other", y.ways(NONE), 0);
        y.hour();
        y.read(2, 0, NONE);
        Check.due("dark within no sign's", y.ways(0), 1);
    }

    private static void ask() {
        OneSmoke x = Check.in(TWO);
        // Of 18: eve over big sees 20 20 40 40 60, 5 25 45 0: two alike, times 2; over tin 9 alike.
        Check.due("eve over big", x.ask(), 0);
        x.read(0, 0, 1);
        x.read(1, 0, 1);
        Check.due("four alike either way: the first", x.ask(), 0);
        x.burn(0, 0);
        x.burn(1, 2);
        x.hour();
        x.undo();
        // Only cat is without a fire: eve sees her dark over tin.
        Check.due("eve over tin", x.ask(), 1);
        x.burn(2, 1);
        Check.due("nothing to part", x.ask(), NONE);
        OneSmoke y = Check.in("fuel a dark 5 sweet 7 burns 1;fuel b dark 5 sweet 8 burns 1;flue f;flue g;house h at g;stock h a 1;stock h b 1;"
            + "sign s dark 5 to 5 sweet 7 to 7;watcher w sees dark;watcher v sees both;watcher u sees sweet;");
        Check.due("u over g", y.ask(), 7);
        y.read(0, 1, 0);
        Check.due("v parts a and b as well as u", y.ask(), 4);
        y.read(1, 1, NONE);
        Check.due("one way is left", y.ask(), NONE);
        y.read(2, 1, 0);
        Check.due("no way is left", y.ask(), NONE);
    }

    private static void blur() {
        OneSmoke x = Check.in("sign a dark 0 to 30 sweet 20 to 60;sign b dark 30 to 45 sweet 0 to 19;sign c dark 31 to 99 sweet 60 to 99;"
            + "sign d dark 10 to 20 sweet 30 to 40;watcher w sees dark;watcher v sees sweet;watcher u sees both;watcher t sees dark;");
        Check.due("a b: dark meets at 30", x.blur(0, 1), 9);
        Check.due("b a", x.blur(1, 0), 9);
        Check.due("a c: sweet meets at 60", x.blur(0, 2), 2);
        Check.due("a d: within", x.blur(0, 3), 15);
        Check.due("d a: within", x.blur(3, 0), 15);
        Check.due("b d: neither", x.blur(1, 3), 0);
        Check.due("b c", x.blur(1, 2), 9);
        Check.due("the same", x.blur(2, 2), NONE);
        Check.due("sign 4", x.blur(0, 4), NONE);
        Check.due("sign -1", x.blur(-1, 0), NONE);
        Check.due("other -1", x.blur(0, -1), NONE);
    }

    private static void share() {
        OneSmoke x = Check.in(TWO);
        Check.due("no fire", x.share(0), 0);
        x.burn(0, 0);
        x.burn(1, 2);
        Check.due("what adds up is each one's own", x.share(0), 22000);
        Check.due("bob's", x.share(1), 40000);
        Check.due("cat's", x.share(2), 0);
        Check.due("house 3", x.share(3), NONE);
        Check.due("house -1", x.share(-1), NONE);
        x.hour();
        // In wind 4, of 22: nothing is 0, oak makes 18.
        Check.due("in the wind", x.share(0), 18000);
        // v: of 1 10, of 2 20, of 3 30; soots dark * dark: 100 400 900, 900 1600->999 2500->999, 999.
        OneSmoke y = Check.in("fuel a dark 10 sweet 0 burns 9;fuel b dark 20 sweet 0 burns 9;fuel c dark 30 sweet 0 burns 9;flue f;"
            + "house h at f;house i at f;house j at f;house k at f;stock h a 1;stock i b 1;stock j c 1;stock k a 1;soots shade*shade;");
        y.burn(0, 0);
        y.burn(1, 1);
        Check.due("a square of two, h", y.share(0), 300000);
        Check.due("a square of two, i", y.share(1), 600000);
        y.burn(2, 2);
        // h: (2*100 + (900-400) + (999-900) + 2*(999-999)) / 6 = 799 / 6.
        Check.due("cut, h", y.share(0), 133166);
        // i: (2*400 + (900-100) + (999-900) + 2*(999-999)) / 6 = 1699 / 6.
        Check.due("cut, i", y.share(1), 283166);
        // j: (2*900 + (999-100) + (999-400) + 2*(999-900)) / 6 = 3496 / 6.
        Check.due("cut, j", y.share(2), 582666);
        Check.due("no fire, k", y.share(3), 0);
        // Sweet takes soot away: one house's share is below 0, and cut to 0.
        OneSmoke z = Check.in("fuel a dark 10 sweet 0 burns 9;fuel b dark 0 sweet 7 burns 9;flue f;house h at f;house i at f;house j at f;"
            + "stock h a 1;stock i b 1;stock j b 1;soots shade-scent;");
        z.burn(0, 0);
        z.burn(1, 0 + 1);
        z.burn(2, 1);
        // h: v(h) 10, behind i 3, behind j 3, behind both 0: (2*10 + 3 + 3 + 0) / 6.
        Check.due("h pays", z.share(0), 4333);
        // i: alone 0, behind h -7, behind j 0, behind both -3: (0 - 7 + 0 - 6) / 6.
        Check.due("i is paid, cut to 0", z.share(1), -2166);
        OneSmoke w = Check.in("fuel a dark 10 sweet 0 burns 9;flue f;house h at f;stock h a 1;soots 5;");
        w.burn(0, 0);
        Check.due("soot that comes by itself", w.share(0), 0);
    }

    private static void given() {
        OneSmoke x = Check.in("fuel a dark 1 sweet 1 burns 1;fuel b dark 1 sweet 1 burns 1;flue f;flue g;house h at f;house i at g;house j at f;"
            + "house k at f;stock h a 1;stock j a 7;stock i a 50;stock k b 2;");
        Check.due("8 of 3: h", x.given(0, 0), 3);
        Check.due("8 of 3: j", x.given(2, 0), 3);
        Check.due("8 of 3: k", x.given(3, 0), 2);
        Check.due("alone", x.given(1, 0), 50);
        Check.due("2 of 3: j", x.given(2, 1), 1);
        Check.due("2 of 3: k", x.given(3, 1), 0);
        Check.due("none", x.given(1, 1), 0);
        Check.due("as it was", x.house(0, 3), 1);
        Check.due("house 4", x.given(4, 0), NONE);
        Check.due("house -1", x.given(-1, 0), NONE);
        Check.due("fuel 2", x.given(0, 2), NONE);
        Check.due("fuel -1", x.given(0, -1), NONE);
    }

    private static void rests() {
        OneSmoke x = Check.in(TWO);
        Check.due("none at rest", Check.rests(x, 0, 1, 1, 2, 5, NONE), 0);
        Check.due("none such", Check.rests(x, 0, 1, 1, 2, 5, 0), -100);
        Check.due("three", Check.rests(x, 0, 1, 1, 1, 5, NONE), 3);
        Check.due("the first", Check.rests(x, 0, 1, 1, 1, 5, 0), 3);
        Check.due("the second", Check.rests(x, 0, 1, 1, 1, 5, 1), 30);
        Check.due("the third", Check.rests(x, 0, 1, 1, 1, 5, 2), 32);
        Check.due("a fourth", Check.rests(x, 0, 1, 1, 1, 5, 3), -100);
        Check.due("what -2", Check.rests(x, 0, 1, 1, 1, 5, -2), -100);
        Check.due("gets 0: both burn none", Check.rests(x, 0, 1, 1, 1, 0, NONE), 1);
        Check.due("gets 0: both burn none", Check.rests(x, 0, 1, 1, 1, 0, 0), 33);
        // By 1 a fire is worth as much as none: also what is read by one alone stays at rest.
        Check.due("gets 1", Check.rests(x, 0, 1, 1, 1, 1, NONE), 4);
        Check.due("gets 99", Check.rests(x, 0, 1, 1, 1, 99, NONE), 3);
        Check.due("gets 100", Check.rests(x, 0, 1, 1, 1, 100, NONE), -100);
        Check.due("gets -1", Check.rests(x, 0, 1, 1, 1, -1, NONE), -100);
        Check.due("the same", Check.rests(x, 0, 0, 1, 1, 5, NONE), -100);
        Check.due("not of one flue", Check.rests(x, 0, 2, 1, 1, 5, NONE), -100);
        Check.due("house 3", Check.rests(x, 0, 3, 1, 1, 5, NONE), -100);
        Check.due("house -1", Check.rests(x, -1, 1, 1, 1, 5, NONE), -100);
        Check.due("sign 3", Check.rests(x, 0, 1, 3, 1, 5, NONE), -100);
        Check.due("sign -1", Check.rests(x, 0, 1, 1, -1, 5, NONE), -100);
        Check.due("the other way round", Check.rests(x, 1, 0, 1, 1, 5, 2), 30);
        x.burn(0, 0);
        Check.due("one has a fire", Check.rests(x, 0, 1, 1, 1, 5, NONE), -100);
        Check.due("the other one has", Check.rests(x, 1, 0, 1, 1, 5, NONE), -100);
        // A third house's fire is there, and what a fourth one could burn is not.
        OneSmoke y = Check.in("fuel a dark 5 sweet 0 burns 9;flue f;house h at f;house i at f;house j at f;house k at f;stock h a 1;stock i a 1;"
            + "stock j a 1;stock k a 1;sign s dark 10 to 10 sweet 0 to 0;");
        y.burn(2, 0);
        Check.due("one of two", Check.rests(y, 0, 1, 0, 0, 9, NONE), 2);
        Check.due("the other burns", Check.rests(y, 0, 1, 0, 0, 9, 1), 10);
        y.burn(3, 0);
        Check.due("neither", Check.rests(y, 0, 1, 0, 0, 9, 0), 11);
    }

    private static void years() {
        OneSmoke x = Check.in("fuel a dark 5 sweet 0 burns 1;fuel b dark 9 sweet 0 burns 2;flue f;flue g;house h at f;house i at g;"
            + "stock h a 4;stock h b 4;stock i b 3;sign s dark 1 to 99 sweet 0 to 0;winds 0 1;soots shade+wind;watcher w sees dark;");
        x.burn(0, 1);
        x.hour();
        x.read(0, 0, 0);
        long g = 7;
        int[] stock = {4, 3, 0, 3};
        int[] left = {1, 0};
        int[] fuel = {1, 0};
        int signs = 0;
        int soot = 0;
        int[] burns = {1, 2};
        int[] dark = {5, 9};
        for (int hour = 1; hour <= 6; hour++) {
            for (int house = 0; house < 2; house++) {
                g = (g * 1103515245L + 12345L) & 0x7fffffffL;
                int draw = (int) ((g >> 16) % 3);
                if (draw < 2 && left[house] == 0 && stock[house * 2 + draw] > 0) {
                    stock[house * 2 + draw]--;
                    left[house] = burns[draw];
                    fuel[house] = draw;
                }
            }
            for (int house = 0; house < 2; house++) {
                signs += left[house] > 0 ? 1 : 0;
                soot += (left[house] > 0 ? dark[fuel[house]] : 0) + hour % 2;
                left[house] -= left[house] > 0 ? 1 : 0;
            }
        }
        Check.due("signs", x.years(7, 6, 0), signs);
        Check.due("soot", x.years(7, 6, 1), soot);
        Check.due("fuels", x.years(7, 6, 2), stock[0] + stock[1] + stock[2] + stock[3]);
        Check.due("as ahead: hour", x.count(5), 1);
        Check.due("as ahead: read", x.count(11), 1);
        Check.due("as ahead: undone", x.count(12), 2);
        Check.due("as ahead: fuels", x.count(8), 10);
        Check.due("as ahead: fires", x.count(7), 1);
        Check.due("seed -1", x.years(-1, 6, 0), NONE);
        Check.due("seed 10000", x.years(10000, 6, 0), NONE);
        Check.due("hours 0", x.years(7, 0, 0), NONE);
        Check.due("hours 100", x.years(7, 100, 0), NONE);
        Check.due("what 3", x.years(7, 6, 3), NONE);
        Check.due("what -1", x.years(7, 6, -1), NONE);
        Check.due("seed 9999 of 99 hours", x.years(9999, 99, 2) >= 0, true);
    }

    private static void mark() {
        OneSmoke x = Check.in(TWO);
        Check.due("mark 4", x.mark(4, false), false);
        Check.due("mark -1", x.mark(-1, false), false);
        Check.due("nothing on it", x.mark(0, true), false);
        Check.day(x, "hour;hour;");
        x.burn(0, 0);
        x.read(1, 0, 1);
        Check.due("laid", x.mark(3, false), true);
        Check.due("laying leaves what can be undone", x.count(12), 1);
        x.hour();
        x.lend(1, 0, 2, 2);
        Check.day(x, "hour;");
        Check.feed(x, "flue ");
        Check.due("laid on another", x.mark(0, false), true);
        Check.due("back", x.mark(3, true), true);
        Check.due("hour", x.count(5), 0);
        Check.due("fire", x.house(0, 2), 3);
        Check.due("not lent", x.house(1, 5), 2);
        Check.due("soot", x.count(9), 0);
        Check.due("day", x.count(10), 2);
        Check.due("read", x.count(11), 1);
        Check.due("ways by what is read", x.ways(1), NONE);
        Check.due("nothing to undo", x.undo(), false);
        Check.due("the tape stays", x.count(13), 5);
        Check.due("the other one", x.mark(0, true), true);
        Check.due("hour", x.count(5), 1);
        Check.due("day", x.count(10), 1);
        Check.due("read", x.count(11), 0);
        Check.due("once more", x.mark(3, true), true);
        x.hour();
        Check.due("laid anew", x.mark(3, false), true);
        x.hour();
        x.mark(3, true);
        Check.due("as laid last", x.count(5), 1);
        Check.due("an hour behind it can be undone", x.hour() >= 0 && x.undo(), true);
        Check.due("mark 1", x.mark(1, true), false);
    }

    private static void count() {
        OneSmoke x = Check.in(TWO);
        x.burn(0, 0);
        x.burn(2, 1);
        x.hour();
        x.read(0, 0, 0);
        Check.day(x, "hour;hour;hour;");
        Check.feed(x, "flue a;");
        int[] due = {3, 2, 3, 3, 2, 1, 4, 5, 10, 57, 3, 1, 3, 7};
        for (int what = 0; what < due.length; what++) {
            Check.due("count " + what, x.count(what), due[what]);
        }
        Check.due("count 14", x.count(14), NONE);
        Check.due("count -1", x.count(-1), NONE);
        Check.due("count far", x.count(Integer.MIN_VALUE), NONE);
    }
}
