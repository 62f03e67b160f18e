/** Promises 12 to 18: the edges of what is spelt, sure, hoped for, read, of ways, of whom to ask, and of blurs. */
public final class SignEdgesTest {
    private static final int NONE = OneSmoke.NONE;
    /** Arguments that are nobody's number, whatever there is; NONE is left to the tests. */
    private static final int[] NOBODY = {-3, 7, 32, 33, Integer.MAX_VALUE, Integer.MIN_VALUE};

    /** Two at one flue, one at another, nobody at a third; oak burns 2 hours, ash 1; dark tells all, sweet is 0. */
    private static final String VALLEY = "fuel oak dark 10 sweet 0 burns 2;fuel ash dark 1 sweet 0 burns 1;flue big;flue tin;flue old;"
        + "house ann at big;house bob at big;house cat at tin;stock ann oak 2;stock ann ash 2;stock bob ash 1;stock cat oak 1;"
        + "sign one dark 1 to 1 sweet 0 to 0;sign ten dark 10 to 11 sweet 0 to 0;sign two dark 2 to 2 sweet 0 to 0;"
        + "watcher eve sees dark;watcher ivo sees both;";

    public static void main(String[] args) {
        spellOthers();
        spellOneHourAlone();
        spellNone();
        spellNobodys();
        spellHouse();
        spellCanNotBe();
        spellFewest();
        spellFirstRow();
        spellFirstRowOfTwoHours();
        spellBesideFires();
        spellStock();
        spellFiresThatEnd();
        spellFiresThatGiveMoreLater();
        spellByTheFifthFuel();
        spellNextWind();
        spellAtMost999();
        spellWithinFromTo();
        spellBySweet();
        spellByEight();
        spellBehindEachFuel();
        spellTheSecondByFewest();
        spellBehindOneThatBurns();
        spellOfManyRows();
        sureOthers();
        sureWhateverTheOthers();
        sureTheFirstFuel();
        sureOfTheFirstSign();
        hopeOthers();
        hopeShares();
        hopeOfTheOthersOfItsFlue();
        hopeWhateverIsRead();
        hopeInTheWindOfNow();
        readOthers();
        readEight();
        readStaysAndGoes();
        waysOthers();
        waysOfHousesWithoutFuels();
        waysByDarkOrSweet();
        waysByNone();
        waysByBoth();
        waysAllTheSame();
        waysOfAllFlues();
        askNothingToPart();
        askLessThanAll();
        askTheFirstOfEqual();
        askTheLast();
        askBySight();
        askAgain();
        blurOthers();
        blurTouching();
        blurBits();
        Check.end("SignEdgesTest");
    }

    // Promise 12: "-2: others": FLUES, SIGNS, the second SIGN, HOUSES, on both sides of those there are.
    private static void spellOthers() {
        OneSmoke x = Check.in(VALLEY);
        for (int i = 0; i < NOBODY.length; i++) {
            Check.due("flue " + NOBODY[i], x.spell(NOBODY[i], NONE, -2, NONE), -2);
            Check.due("sign " + NOBODY[i], x.spell(0, NOBODY[i], -2, NONE), -2);
            Check.due("second " + NOBODY[i], x.spell(0, NONE, NOBODY[i], NONE), -2);
            Check.due("house " + NOBODY[i], x.spell(0, NONE, -2, NOBODY[i]), -2);
        }
        Check.due("flue -1", x.spell(-1, NONE, -2, NONE), -2);
        Check.due("flue 3", x.spell(3, NONE, -2, NONE), -2);
        Check.due("sign -2", x.spell(0, -2, -2, NONE), -2);
        Check.due("sign 3", x.spell(0, 3, -2, NONE), -2);
        Check.due("second 3", x.spell(0, NONE, 3, NONE), -2);
        Check.due("house -2", x.spell(0, NONE, -2, -2), -2);
        Check.due("house 3", x.spell(0, NONE, -2, 3), -2);
        Check.due("the last flue", x.spell(2, NONE, -2, NONE), 0);
        Check.due("the last sign", x.spell(0, 2, -2, NONE), 2);
        Check.due("the last house", x.spell(1, NONE, -2, 2), NONE);
    }

    // Promise 12: "the second one -2: one hour alone": the hour behind it may be as it will.
    private static void spellOneHourAlone() {
        OneSmoke x = Check.in(VALLEY);
        Check.due("ten now", x.spell(1, 1, -2, NONE), 1);
        Check.due("ten, then none: oak burns on", x.spell(1, 1, NONE, NONE), -2);
        Check.due("ten, then ten", x.spell(1, 1, 1, NONE), 1);
    }

    // Promise 12: "SIGNS, NONE: none": that no SIGN is read, in the one hour, in the other, in both.
    private static void spellNone() {
        OneSmoke x = Check.in(VALLEY);
        Check.due("none", x.spell(0, NONE, -2, NONE), 0);
        Check.due("none twice", x.spell(0, NONE, NONE, NONE), 0);
        Check.due("none, then one", x.spell(0, NONE, 0, NONE), 1);
        Check.due("one, then none", x.spell(0, 0, NONE, NONE), 1);
        x.burn(0, 0);
        // 10 and 11 are ten's: there is no way to show none.
        Check.due("none beside oak", x.spell(0, NONE, -2, NONE), -2);
        OneSmoke y = Check.in("fuel a dark 1 sweet 0 burns 1;flue f;house h at f;stock h a 1;sign s dark 0 to 0 sweet 0 to 0;");
        Check.due("none by a fire", y.spell(0, NONE, -2, NONE), 1);
        Check.due("which", y.spell(0, NONE, -2, 0), 0);
        Check.due("none twice by fires: one fuel too few", y.spell(0, NONE, NONE, NONE), -2);
        OneSmoke z = Check.in("fuel a dark 1 sweet 0 burns 1;flue f;house h at f;stock h a 2;sign s dark 0 to 0 sweet 0 to 0;");
        Check.due("none twice by fires", z.spell(0, NONE, NONE, NONE), 2);
        Check.due("no signs told", Check.in("flue f;").spell(0, NONE, NONE, NONE), 0);
    }

    // Part 3: SPELL "by a FLUE": one of no HOUSES shows what nothing shows.
    private static void spellNobodys() {
        OneSmoke x = Check.in(VALLEY + "sign nil dark 0 to 0 sweet 0 to 0;");
        Check.due("nil", x.spell(2, 3, -2, NONE), 0);
        Check.due("nil twice", x.spell(2, 3, 3, NONE), 0);
        Check.due("none", x.spell(2, NONE, -2, NONE), -2);
        Check.due("nil, then none", x.spell(2, 3, NONE, NONE), -2);
        Check.due("one", x.spell(2, 0, -2, NONE), -2);
    }

    // Promise 12: "house NONE: how many; else what it burns in the first hour (NONE: none, not of this FLUE)".
    private static void spellHouse() {
        OneSmoke x = Check.in(VALLEY);
        Check.due("how many", x.spell(0, 2, -2, NONE), 2);
        Check.due("ann", x.spell(0, 2, -2, 0), 1);
        Check.due("bob", x.spell(0, 2, -2, 1), 1);
        Check.due("cat, of another flue", x.spell(0, 2, -2, 2), NONE);
        Check.due("ann burns none", x.spell(0, NONE, -2, 0), NONE);
        Check.due("cat", x.spell(1, 1, -2, 2), 0);
        Check.due("ann, of another flue", x.spell(1, 1, -2, 0), NONE);
        // In the first hour, whatever it burns in the second one.
        Check.due("none, then one: two fuels' hours", x.spell(0, NONE, 0, 0), NONE);
        Check.due("and bob", x.spell(0, NONE, 0, 1), NONE);
    }

    // Promise 12: "-2: .. it can't be", whichever HOUSE is asked for.
    private static void spellCanNotBe() {
        OneSmoke x = Check.in(VALLEY);
        for (int house = NONE; house < 3; house++) {
            Check.due("two by cat, of house " + house, x.spell(1, 2, -2, house), -2);
            Check.due("two, then two, of house " + house, x.spell(0, 2, 2, house), -2);
            Check.due("two, then one, of house " + house, x.spell(0, 2, 0, house), house == NONE ? 3 : house < 2 ? 1 : NONE);
        }
    }

    // Part 3: "the fewest FUELS burnt", of both hours together.
    private static void spellFewest() {
        OneSmoke x = Check.in("fuel a dark 1 sweet 0 burns 1;fuel b dark 2 sweet 0 burns 1;fuel c dark 2 sweet 0 burns 2;flue f;house g at f;"
            + "house h at f;stock g a 9;stock h a 9;stock h b 9;sign s dark 2 to 2 sweet 0 to 0;sign t dark 4 to 4 sweet 0 to 0;");
        Check.due("two by one rather than by two", x.spell(0, 0, -2, NONE), 1);
        Check.due("g waits", x.spell(0, 0, -2, 0), NONE);
        Check.due("h burns b", x.spell(0, 0, -2, 1), 1);
        Check.due("two twice", x.spell(0, 0, 0, NONE), 2);
        Check.due("four can't be", x.spell(0, 1, -2, NONE), -2);
        OneSmoke y = Check.in("fuel a dark 2 sweet 0 burns 1;fuel c dark 2 sweet 0 burns 2;flue f;house g at f;stock g a 9;stock g c 1;"
            + "sign s dark 2 to 2 sweet 0 to 0;");
        Check.due("one hour: the first fuel", y.spell(0, 0, -2, 0), 0);
        Check.due("two hours: one that lasts", y.spell(0, 0, 0, NONE), 1);
        Check.due("which", y.spell(0, 0, 0, 0), 1);
    }

    // Part 3: "of equal ones the first row (.. of its HOUSES, by numbers, FUELS, none behind all)".
    private static void spellFirstRow() {
        String text = "fuel a dark 1 sweet 0 burns 1;fuel b dark 1 sweet 0 burns 1;fuel c dark 2 sweet 0 burns 1;flue f;house g at f;house h at f;"
            + "sign s dark 1 to 1 sweet 0 to 0;sign t dark 3 to 3 sweet 0 to 0;";
        OneSmoke x = Check.in(text + "stock g a 1;stock g b 1;stock h a 1;stock h b 1;");
        Check.due("none behind all: g burns", x.spell(0, 0, -2, 0), 0);
        Check.due("h does not", x.spell(0, 0, -2, 1), NONE);
        OneSmoke y = Check.in(text + "stock g b 1;stock h a 1;");
        Check.due("g's b ahead of h's a", y.spell(0, 0, -2, 0), 1);
        OneSmoke z = Check.in(text + "stock g b 1;stock g c 1;stock h a 1;stock h b 1;stock h c 1;");
        Check.due("three: g's first fuel", z.spell(0, 1, -2, 0), 1);
        Check.due("three: h's beside it", z.spell(0, 1, -2, 1), 2);
        OneSmoke w = Check.in(text + "stock g c 1;stock h a 1;stock h b 1;");
        Check.due("three: h's first fuel", w.spell(0, 1, -2, 1), 0);
    }

    // Part 3: the row goes "hour by hour": what is burnt in the first hour is ahead of the second, none behind all there, too.
    private static void spellFirstRowOfTwoHours() {
        OneSmoke x = Check.in("fuel a dark 1 sweet 0 burns 1;fuel b dark 1 sweet 0 burns 1;flue f;house g at f;house h at f;stock g a 1;"
            + "stock g b 1;stock h a 1;stock h b 1;sign s dark 1 to 1 sweet 0 to 0;sign t dark 0 to 1 sweet 0 to 0;");
        Check.due("one twice", x.spell(0, 0, 0, NONE), 2);
        Check.due("g burns a first", x.spell(0, 0, 0, 0), 0);
        Check.due("h not first", x.spell(0, 0, 0, 1), NONE);
        Check.due("none is fewest", x.spell(0, 1, 0, 0), NONE);
        // Either g lights what lasts at once, and h nothing; or h does.
        OneSmoke y = Check.in("fuel a dark 1 sweet 0 burns 2;flue f;house g at f;house h at f;stock g a 2;stock h a 2;"
            + "sign s dark 1 to 1 sweet 0 to 0;sign t dark 2 to 2 sweet 0 to 0;");
        Check.due("one, then two: g first", y.spell(0, 0, 1, 0), 0);
        Check.due("h then", y.spell(0, 0, 1, 1), NONE);
    }

    // Part 3: "those of its HOUSES without a FIRE may each burn": one with a FIRE burns that on, and no other.
    private static void spellBesideFires() {
        OneSmoke x = Check.in(VALLEY);
        x.burn(0, 0);
        Check.due("ten is there", x.spell(0, 1, -2, NONE), 0);
        Check.due("ann burns nothing more", x.spell(0, 1, -2, 0), NONE);
        Check.due("one can't be beside ten", x.spell(0, 0, -2, NONE), -2);
        Check.due("ten twice", x.spell(0, 1, 1, NONE), 0);
        x.hour();
        Check.due("ten, its last hour", x.spell(0, 1, -2, NONE), 0);
        Check.due("ten, then one", x.spell(0, 1, 0, NONE), 1);
        Check.due("ten, then ten anew", x.spell(0, 1, 1, NONE), 1);
        Check.due("by none in the first hour", x.spell(0, 1, 1, 0), NONE);
    }

    // Part 3: "a FUEL they have": of one only one hour, of two both, of what the other HOUSE has none.
    private static void spellStock() {
        OneSmoke x = Check.in(VALLEY);
        Check.due("ash by ann twice", x.spell(0, 0, 0, NONE), 2);
        x.lend(0, 2, 1, 1);
        Check.due("by ann, then by bob", x.spell(0, 0, 0, NONE), 2);
        Check.due("ann first", x.spell(0, 0, 0, 0), 1);
        x.lend(1, 2, 1, 1);
        Check.due("one hour", x.spell(0, 0, -2, NONE), 1);
        Check.due("not two", x.spell(0, 0, 0, NONE), -2);
        Check.due("none, then one", x.spell(0, NONE, 0, NONE), 1);
        x.lend(0, 2, 1, 1);
        Check.due("nor one", x.spell(0, 0, -2, NONE), -2);
    }

    // Part 3: in the second hour a FIRE of one hour is out and its HOUSE may burn again; one of two hours burns on.
    private static void spellFiresThatEnd() {
        String text = "flue f;house h at f;stock h a 2;gives (left*10)*(1-smelt);sign s dark 10 to 10 sweet 0 to 0;sign t dark 20 to 20 sweet 0 to 0;"
            + "sign u dark 0 to 0 sweet 0 to 0;";
        OneSmoke x = Check.in("fuel a dark 1 sweet 0 burns 1;" + text);
        Check.due("one hour, again", x.spell(0, 0, 0, NONE), 2);
        Check.due("one hour, then out", x.spell(0, 0, 2, NONE), 1);
        OneSmoke y = Check.in("fuel a dark 1 sweet 0 burns 2;" + text);
        Check.due("20, then 10", y.spell(0, 1, 0, NONE), 1);
        Check.due("20, then 20", y.spell(0, 1, 1, NONE), -2);
        Check.due("20, then out", y.spell(0, 1, 2, NONE), -2);
        y.burn(0, 0);
        y.hour();
        Check.due("10, then 20 of a new one", y.spell(0, 0, 1, NONE), 1);
        Check.due("10, then out", y.spell(0, 0, 2, NONE), 0);
    }

    // Part 2: a FIRE "GIVES, in an hour" by the hours it burns yet: in the second hour it may give more than it does now.
    private static void spellFiresThatGiveMoreLater() {
        OneSmoke x = Check.in("fuel a dark 1 sweet 0 burns 3;flue f;house h at f;stock h a 1;gives (left=2)*(50+smelt*9);"
            + "sign s dark 50 to 50 sweet 59 to 59;");
        Check.due("nothing, then 50, of a new one", x.spell(0, NONE, 0, NONE), 1);
        Check.due("50 at once", x.spell(0, 0, -2, NONE), -2);
        x.burn(0, 0);
        Check.due("nothing, then 50, of one that burns", x.spell(0, NONE, 0, NONE), 0);
        Check.due("50 now", x.spell(0, 0, -2, NONE), -2);
        x.hour();
        Check.due("50, then nothing", x.spell(0, 0, NONE, NONE), 0);
        Check.due("50 twice", x.spell(0, 0, 0, NONE), -2);
    }

    // Terms: "fuel: 5 at most": the fifth one spells in both hours, also for one HOUSE alone.
    private static void spellByTheFifthFuel() {
        StringBuilder text = new StringBuilder();
        for (int fuel = 0; fuel < 5; fuel++) {
            text.append("fuel f").append((char) ('a' + fuel)).append(" dark ").append(10 * fuel).append(" sweet ").append(fuel).append(" burns 1;");
        }
        OneSmoke x = Check.in(text + "flue u;house h at u;stock h fe 2;sign s dark 40 to 40 sweet 4 to 4;");
        Check.due("in the first hour", x.spell(0, 0, -2, 0), 4);
        Check.due("in the second", x.spell(0, NONE, 0, NONE), 1);
        Check.due("in both", x.spell(0, 0, 0, NONE), 2);
    }

    // Part 2: "modulo how many are told": the second hour of a SPELL may be the first wind again.
    private static void spellNextWind() {
        OneSmoke x = Check.in("fuel a dark 1 sweet 0 burns 2;flue f;house h at f;stock h a 2;gives wind*(1-smelt);winds 3 5;"
            + "sign s dark 3 to 3 sweet 0 to 0;sign t dark 5 to 5 sweet 0 to 0;");
        Check.due("3, then 5", x.spell(0, 0, 1, NONE), 1);
        Check.due("5, then 3", x.spell(0, 1, 0, NONE), -2);
        x.hour();
        Check.due("5, then 3 at hour 1", x.spell(0, 1, 0, NONE), 1);
        Check.due("3, then 5 at hour 1", x.spell(0, 0, 1, NONE), -2);
    }

    // Part 2: "999 each at most": a SIGN at 999 is spelt by what is more, in both hours, by dark and by sweet.
    private static void spellAtMost999() {
        OneSmoke x = Check.in("fuel a dark 1 sweet 0 burns 1;flue f;house g at f;house h at f;stock g a 2;stock h a 2;"
            + "sign s dark 999 to 999 sweet 999 to 999;sign t dark 600 to 600 sweet 600 to 600;gives 600;");
        Check.due("600", x.spell(0, 1, -2, NONE), 1);
        Check.due("1,200 is 999", x.spell(0, 0, -2, NONE), 2);
        Check.due("in both hours", x.spell(0, 0, 0, NONE), 4);
        Check.due("999, then 600", x.spell(0, 0, 1, NONE), 3);
    }

    // Part 3: "so that in each its SIGN is as told": from, between and to, by dark and by sweet, in both hours.
    private static void spellWithinFromTo() {
        for (int value = 3; value <= 9; value++) {
            int due = value >= 4 && value <= 8 ? 1 : -2;
            String house = " burns 2;flue f;house h at f;stock h a 1;";
            OneSmoke x = Check.in("fuel a dark " + value + " sweet 5" + house + "sign s dark 4 to 8 sweet 5 to 5;");
            Check.due("by dark " + value, x.spell(0, 0, -2, NONE), due);
            Check.due("by dark " + value + " twice", x.spell(0, 0, 0, NONE), due);
            Check.due("then by dark " + value, x.spell(0, NONE, 0, NONE), due);
            OneSmoke y = Check.in("fuel a dark 5 sweet " + value + house + "sign s dark 5 to 5 sweet 4 to 8;");
            Check.due("by sweet " + value, y.spell(0, 0, -2, NONE), due);
            Check.due("by sweet " + value + " twice", y.spell(0, 0, 0, NONE), due);
            Check.due("then by sweet " + value, y.spell(0, NONE, 0, NONE), due);
        }
    }

    // Part 3: a SPELL counts the sweet of FIRES that burn and of those lit, in both hours.
    private static void spellBySweet() {
        String text = "fuel a dark 0 sweet 3 burns 3;fuel b dark 0 sweet 4 burns 1;flue f;house g at f;house h at f;stock g a 1;stock h a 1;stock h b 2;"
            + "sign s dark 0 to 0 sweet 7 to 7;sign t dark 0 to 0 sweet 3 to 3;sign u dark 0 to 0 sweet 4 to 4;";
        OneSmoke x = Check.in(text);
        Check.due("3 and 4", x.spell(0, 0, -2, NONE), 2);
        Check.due("3 and 4, then 3", x.spell(0, 0, 1, NONE), 2);
        Check.due("3 and 4 twice", x.spell(0, 0, 0, NONE), 3);
        Check.due("4, then 7", x.spell(0, 2, 0, NONE), 3);
        x.burn(0, 0);
        Check.due("4 beside 3", x.spell(0, 0, -2, NONE), 1);
        Check.due("3 alone, then 7", x.spell(0, 1, 0, NONE), 1);
        Check.due("7, then 3", x.spell(0, 0, 1, NONE), 1);
        Check.due("4 alone can't be", x.spell(0, 2, -2, NONE), -2);
    }

    // Part 3: the most that a SPELL can burn: each of four HOUSES a FUEL in each of two hours.
    private static void spellByEight() {
        String text = "fuel a dark 1 sweet 0 burns 1;flue f;house g at f;house h at f;house i at f;house j at f;stock g a 2;stock h a 2;stock i a 2;"
            + "sign s dark 4 to 4 sweet 0 to 0;sign t dark 3 to 3 sweet 0 to 0;stock j a ";
        OneSmoke x = Check.in(text + "2;");
        Check.due("four", x.spell(0, 0, -2, NONE), 4);
        Check.due("four twice", x.spell(0, 0, 0, NONE), 8);
        Check.due("four, then three", x.spell(0, 0, 1, NONE), 7);
        for (int house = 0; house < 4; house++) {
            Check.due("first of house " + house, x.spell(0, 0, 0, house), 0);
        }
        Check.due("one fuel too few", Check.in(text + "1;").spell(0, 0, 0, NONE), -2);
    }

    // Part 3: what a HOUSE burns first, of five FUELS, stays its own in the second hour, beside what its neighbour burns.
    private static void spellBehindEachFuel() {
        StringBuilder text = new StringBuilder();
        for (int fuel = 0; fuel < 5; fuel++) {
            text.append("fuel f").append((char) ('a' + fuel)).append(" dark ").append(1 << fuel).append(" sweet 0 burns ").append(fuel < 3 ? 1 : 2).append(';');
        }
        text.append("flue u;house g at u;house h at u;stock g fd 1;stock g fe 1;stock h fa 1;stock h fd 1;stock h fe 1;");
        text.append("sign s dark 8 to 8 sweet 0 to 0;sign t dark 16 to 16 sweet 0 to 0;sign u dark 17 to 17 sweet 0 to 0;sign v dark 9 to 9 sweet 0 to 0;");
        OneSmoke x = Check.in(text.toString().replace("sign u", "sign w"));
        Check.due("8 twice", x.spell(0, 0, 0, NONE), 1);
        Check.due("g's fourth", x.spell(0, 0, 0, 0), 3);
        Check.due("16 twice", x.spell(0, 1, 1, NONE), 1);
        Check.due("g's fifth", x.spell(0, 1, 1, 0), 4);
        Check.due("17, then 16", x.spell(0, 2, 1, NONE), 2);
        Check.due("g's fifth beside h's first", x.spell(0, 2, 1, 0), 4);
        Check.due("h's first", x.spell(0, 2, 1, 1), 0);
        Check.due("17 twice can't be", x.spell(0, 2, 2, NONE), -2);
        Check.due("16, then 17", x.spell(0, 1, 2, NONE), 2);
        Check.due("9, then 8", x.spell(0, 3, 0, NONE), 2);
        Check.due("g's fourth beside h's first", x.spell(0, 3, 0, 0), 3);
        Check.due("16, then 8 can't be", x.spell(0, 1, 0, NONE), -2);
        Check.due("17, then 9 can't be", x.spell(0, 2, 3, NONE), -2);
    }

    // Part 3: "the fewest FUELS burnt", in the second hour too: none, if none will do, and of ways in it the one of fewest.
    private static void spellTheSecondByFewest() {
        String four = "flue f;house g at f;house h at f;house i at f;house j at f;";
        String fuels = "fuel a dark 1 sweet 0 burns 1;fuel b dark 2 sweet 0 burns 1;" + four + "stock j a 2;stock j b 2;";
        OneSmoke x = Check.in(fuels + "sign s dark 0 to 2 sweet 0 to 0;");
        Check.due("0 to 2 twice, by none", x.spell(0, 0, 0, NONE), 0);
        OneSmoke w = Check.in(fuels + "sign s dark 1 to 2 sweet 0 to 0;sign t dark 0 to 1 sweet 0 to 0;");
        Check.due("1 to 2, then none", w.spell(0, 0, 1, NONE), 1);
        Check.due("none, then 1 to 2", w.spell(0, 1, 0, NONE), 1);
        Check.due("1 to 2 twice", w.spell(0, 0, 0, NONE), 2);
        Check.due("1 to 2 by the first", w.spell(0, 0, 0, 3), 0);
        OneSmoke y = Check.in("fuel a dark 1 sweet 0 burns 1;fuel b dark 3 sweet 0 burns 1;flue f;house g at f;house h at f;house i at f;"
            + "stock g a 1;stock h b 1;stock i b 1;sign s dark 6 to 6 sweet 0 to 0;");
        Check.due("none, then six by h and i, g at rest", y.spell(0, NONE, 0, NONE), 2);
        OneSmoke z = Check.in("fuel a dark 6 sweet 0 burns 1;fuel b dark 3 sweet 0 burns 1;" + four
            + "stock g b 1;stock h b 1;stock i a 1;stock j a 1;sign s dark 6 to 6 sweet 0 to 0;");
        Check.due("none, then six by one rather than by two", z.spell(0, NONE, 0, NONE), 1);
        Check.due("six by one twice", z.spell(0, 0, 0, NONE), 2);
        Check.due("i first", z.spell(0, 0, 0, 2), 0);
        Check.due("j behind it", z.spell(0, 0, 0, 3), NONE);
    }

    // Part 3: a FUEL that a HOUSE ahead of one with a FIRE burns counts, in the first hour and in the second.
    private static void spellBehindOneThatBurns() {
        OneSmoke x = Check.in("fuel a dark 1 sweet 0 burns 1;fuel b dark 10 sweet 0 burns 3;flue f;house g at f;house h at f;house i at f;"
            + "stock g a 2;stock h b 1;stock i a 2;sign s dark 11 to 11 sweet 0 to 0;sign t dark 12 to 12 sweet 0 to 0;");
        x.burn(1, 1);
        Check.due("11", x.spell(0, 0, -2, NONE), 1);
        Check.due("by g", x.spell(0, 0, -2, 0), 0);
        Check.due("12", x.spell(0, 1, -2, NONE), 2);
        Check.due("11 twice", x.spell(0, 0, 0, NONE), 2);
        Check.due("12, then 11", x.spell(0, 1, 0, NONE), 3);
        Check.due("12 twice", x.spell(0, 1, 1, NONE), 4);
        Check.due("none, then 12", x.spell(0, NONE, 1, NONE), 2);
    }

    // Part 3: four HOUSES of five FUELS in two hours, 1,679,616 rows: what can be only by the last, or can't be at all.
    private static void spellOfManyRows() {
        StringBuilder text = new StringBuilder();
        for (int fuel = 0; fuel < 5; fuel++) {
            text.append("fuel f").append((char) ('a' + fuel)).append(" dark ").append(new int[] {7, 13, 29, 41, 59}[fuel]).append(" sweet 1 burns 1;");
        }
        text.append("flue u;");
        for (char house = 'g'; house <= 'j'; house++) {
            text.append("house ").append(house).append(" at u;");
            for (char fuel = 'a'; fuel <= 'e'; fuel++) {
                text.append("stock ").append(house).append(" f").append(fuel).append(" 1;");
            }
        }
        text.append("sign s dark 0 to 999 sweet 0 to 4;sign t dark 0 to 999 sweet 0 to 999;");
        OneSmoke x = Check.in(text.toString());
        for (int second = NONE; second < 2; second++) {
            Check.due("any, then " + second, x.spell(0, 0, second, NONE), second == 0 ? 0 : -2);
            Check.due("any behind any, then " + second, x.spell(0, 1, second, NONE), -2);
            Check.due("none, then " + second, x.spell(0, NONE, second, NONE), -2);
        }
        OneSmoke y = Check.in(text.toString().replace("dark 0 to 999 sweet 0 to 4", "dark 236 to 236 sweet 4 to 4").replace("dark 0 to 999 sweet 0 to 999", "dark 164 to 164 sweet 4 to 4"));
        Check.due("all by the last fuel", y.spell(0, 0, -2, NONE), 4);
        Check.due("again: there is but one each", y.spell(0, 0, 0, NONE), -2);
        Check.due("then all by the fourth", y.spell(0, 0, 1, NONE), 8);
        Check.due("none, then all by the last", y.spell(0, NONE, 0, NONE), 4);
    }

    // Promise 13: "NONE: others, it has a FIRE, none".
    private static void sureOthers() {
        OneSmoke x = Check.in(VALLEY);
        for (int i = 0; i < NOBODY.length; i++) {
            Check.due("sure of house " + NOBODY[i], x.sure(NOBODY[i], 1), NONE);
            Check.due("sure of sign " + NOBODY[i], x.sure(2, NOBODY[i]), NONE);
        }
        Check.due("house -1", x.sure(-1, 1), NONE);
        Check.due("house 3", x.sure(3, 1), NONE);
        Check.due("sign NONE", x.sure(2, NONE), NONE);
        Check.due("sign 3", x.sure(2, 3), NONE);
        Check.due("alone: ten by oak", x.sure(2, 1), 0);
        Check.due("none is sure", x.sure(2, 0), NONE);
        x.burn(2, 0);
        Check.due("it has a fire", x.sure(2, 1), NONE);
        x.hour();
        x.hour();
        Check.due("it has no fuel", x.sure(2, 1), NONE);
    }

    // Part 3: SURE: "whatever each of the other HOUSES of its FLUE without a FIRE burns now, or none".
    private static void sureWhateverTheOthers() {
        OneSmoke x = Check.in(VALLEY);
        // bob's ash makes 11 of 10, and ten is to 11; it makes 2 of 1.
        Check.due("ten", x.sure(0, 1), 0);
        Check.due("one", x.sure(0, 0), NONE);
        Check.due("two", x.sure(0, 2), NONE);
        x.burn(1, 1);
        Check.due("bob's ash burns: two", x.sure(0, 2), 1);
        Check.due("bob's ash burns: one", x.sure(0, 0), NONE);
        x.hour();
        Check.due("bob has no more: one", x.sure(0, 0), 1);
        // What cat burns goes up another flue.
        x.burn(2, 0);
        Check.due("cat's fire", x.sure(0, 0), 1);
    }

    // Part 3: SURE: "the first such" FUEL, of those it has.
    private static void sureTheFirstFuel() {
        String text = "fuel a dark 1 sweet 0 burns 1;fuel b dark 2 sweet 0 burns 1;fuel c dark 3 sweet 0 burns 1;flue f;house h at f;"
            + "sign s dark 2 to 3 sweet 0 to 0;";
        Check.due("b and c", Check.in(text + "stock h a 1;stock h b 1;stock h c 1;").sure(0, 0), 1);
        Check.due("has no b", Check.in(text + "stock h a 1;stock h c 1;").sure(0, 0), 2);
        Check.due("has a alone", Check.in(text + "stock h a 1;").sure(0, 0), NONE);
    }

    // Part 3: "by which a SIGN is read": the first that fits is, another one that fits is not.
    private static void sureOfTheFirstSign() {
        OneSmoke x = Check.in("fuel a dark 1 sweet 0 burns 1;flue f;house h at f;stock h a 1;sign s dark 0 to 1 sweet 0 to 0;"
            + "sign t dark 1 to 1 sweet 0 to 0;");
        Check.due("the first", x.sure(0, 0), 0);
        Check.due("the second", x.sure(0, 1), NONE);
        Check.due("hope of the first", x.hope(0, 0, 0), 1000000);
        Check.due("hope of the second", x.hope(0, 0, 1), 0);
    }

    // Promise 14: "NONE: others, it has a FIRE, has none of it".
    private static void hopeOthers() {
        OneSmoke x = Check.in(VALLEY);
        for (int i = 0; i < NOBODY.length; i++) {
            Check.due("hope of house " + NOBODY[i], x.hope(NOBODY[i], 0, 1), NONE);
            Check.due("hope of fuel " + NOBODY[i], x.hope(2, NOBODY[i], 1), NONE);
            Check.due("hope of sign " + NOBODY[i], x.hope(2, 0, NOBODY[i]), NONE);
        }
        Check.due("house -1", x.hope(-1, 0, 1), NONE);
        Check.due("house 3", x.hope(3, 0, 1), NONE);
        Check.due("fuel -1", x.hope(0, -1, 1), NONE);
        Check.due("fuel 2", x.hope(0, 2, 1), NONE);
        // In a plane row fuel 5 of ann would be bob's oak, and 6 his ash.
        Check.due("fuel 6", x.hope(0, 6, 1), NONE);
        Check.due("sign NONE", x.hope(2, 0, NONE), NONE);
        Check.due("sign 3", x.hope(2, 0, 3), NONE);
        Check.due("has none of it", x.hope(2, 1, 0), NONE);
        Check.due("has one of it", x.hope(2, 0, 1), 1000000);
        x.burn(2, 0);
        Check.due("it has a fire", x.hope(2, 0, 1), NONE);
        x.burn(0, 1);
        Check.due("a fire, and fuel", x.hope(0, 0, 1), NONE);
    }

    // Promise 14: "as a share, in millionths, cut": none, all, a third, two thirds.
    private static void hopeShares() {
        String text = "fuel a dark 1 sweet 0 burns 1;fuel b dark 2 sweet 0 burns 1;flue f;house g at f;house h at f;stock g a 1;stock h a 1;"
            + "stock h b 1;sign s dark 1 to 1 sweet 0 to 0;sign t dark 2 to 3 sweet 0 to 0;sign u dark 4 to 9 sweet 0 to 0;";
        OneSmoke x = Check.in(text);
        Check.due("h burns none", x.hope(0, 0, 0), 333333);
        Check.due("h burns a or b", x.hope(0, 0, 1), 666666);
        Check.due("never", x.hope(0, 0, 2), 0);
        Check.due("half", x.hope(1, 0, 0), 500000);
        Check.due("always", x.hope(1, 1, 1), 1000000);
        Check.due("sure of it", x.sure(1, 1), 1);
    }

    // Part 3: HOPE "of all these ways of the others": those of its FLUE without a FIRE, each FUEL they have or none.
    private static void hopeOfTheOthersOfItsFlue() {
        OneSmoke x = Check.in("fuel a dark 1 sweet 0 burns 2;fuel b dark 2 sweet 0 burns 2;flue f;flue g;house h at f;house i at f;house j at f;"
            + "house k at g;stock h a 1;stock i a 2;stock j a 1;stock j b 1;stock k a 1;sign s dark 3 to 3 sweet 0 to 0;");
        // 1 and 0 1 beside 0 1 2: 1 2 3 2 3 4.
        Check.due("two of six", x.hope(0, 0, 0), 333333);
        x.burn(2, 0);
        Check.due("one of two", x.hope(0, 0, 0), 500000);
        x.burn(1, 0);
        Check.due("one of one", x.hope(0, 0, 0), 1000000);
        Check.due("of another flue", x.hope(3, 0, 0), 0);
    }

    // Part 3: HOPE and SURE go by all ways of the others, whatever is READ.
    private static void hopeWhateverIsRead() {
        OneSmoke x = Check.in(VALLEY);
        Check.due("two by ash", x.hope(0, 1, 2), 500000);
        Check.due("ten by oak is sure", x.sure(0, 1), 0);
        Check.due("read", x.read(1, 0, 2), true);
        Check.due("two by ash as ahead", x.hope(0, 1, 2), 500000);
        Check.due("ten by oak as ahead", x.sure(0, 1), 0);
        Check.due("read what can't be", x.read(1, 0, 0), true);
        Check.due("two by ash all the same", x.hope(0, 1, 2), 500000);
        Check.due("one by none is not sure", x.sure(0, 0), NONE);
    }

    // Part 3: "now", "in this hour": by the wind that there is, of HOPE, SURE, WAYS and ASK.
    private static void hopeInTheWindOfNow() {
        OneSmoke x = Check.in("fuel a dark 1 sweet 0 burns 1;flue f;house g at f;house h at f;stock g a 1;stock h a 1;winds 0 5;"
            + "gives wind*(1-smelt);sign s dark 5 to 10 sweet 0 to 0;watcher w sees dark;");
        Check.due("no wind: hope", x.hope(0, 0, 0), 0);
        Check.due("no wind: sure", x.sure(0, 0), NONE);
        Check.due("no wind: ask", x.ask(), NONE);
        x.read(0, 0, 0);
        Check.due("no wind: ways", x.ways(NONE), 0);
        x.hour();
        Check.due("wind: hope", x.hope(0, 0, 0), 1000000);
        Check.due("wind: sure", x.sure(0, 0), 0);
        Check.due("wind: ask", x.ask(), 0);
        x.read(0, 0, 0);
        Check.due("wind: ways", x.ways(NONE), 3);
    }

    // Promise 15: "false: others": WATCHERS, FLUES, SIGNS; "sign NONE: none".
    private static void readOthers() {
        OneSmoke x = Check.in(VALLEY);
        for (int i = 0; i < NOBODY.length; i++) {
            Check.due("watcher " + NOBODY[i], x.read(NOBODY[i], 0, 0), false);
            Check.due("flue " + NOBODY[i], x.read(0, NOBODY[i], 0), false);
            Check.due("sign " + NOBODY[i], x.read(0, 0, NOBODY[i]), false);
        }
        Check.due("watcher -1", x.read(-1, 0, 0), false);
        Check.due("watcher 2", x.read(2, 0, 0), false);
        Check.due("flue -1", x.read(0, -1, 0), false);
        Check.due("flue 3", x.read(0, 3, 0), false);
        Check.due("sign -2", x.read(0, 0, -2), false);
        Check.due("sign 3", x.read(0, 0, 3), false);
        Check.due("none of these", x.count(11), 0);
        Check.due("the last of each", x.read(1, 2, 2), true);
        Check.due("none", x.read(0, 0, NONE), true);
        Check.due("both of these", x.count(11), 2);
        // FLUES are counted, not HOUSES.
        OneSmoke y = Check.in("flue f;house g at f;house h at f;watcher w sees dark;");
        Check.due("flue 1 of one", y.read(0, 1, NONE), false);
        Check.due("flue 1 of two, without houses", Check.in("flue f;flue g;watcher w sees dark;").read(0, 1, NONE), true);
    }

    // Part 3: READ: "8 at most"; promise 15: "8 are READ".
    private static void readEight() {
        OneSmoke x = Check.in(VALLEY);
        for (int i = 1; i <= 8; i++) {
            Check.due("read " + i, x.read(0, 0, 0), true);
            Check.due("count of read " + i, x.count(11), i);
        }
        Check.due("a ninth", x.read(0, 0, 0), false);
        Check.due("eight", x.count(11), 8);
        Check.due("ways by them", x.ways(NONE) > 0, true);
        // The ninth is not there: it would leave no way.
        Check.due("a ninth that is not so", x.read(0, 0, 1), false);
        Check.due("ways as ahead", x.ways(NONE) > 0, true);
    }

    // Part 3: "behind an HOUR, an UNDO nothing is READ": eight more can be.
    private static void readStaysAndGoes() {
        OneSmoke x = Check.in(VALLEY);
        for (int i = 0; i < 8; i++) {
            x.read(0, 0, 1);
        }
        x.burn(2, 0);
        x.lend(0, 1, 1, 1);
        Check.day(x, "hour;");
        Check.due("it stays behind what is no hour", x.read(0, 0, 1), false);
        x.hour();
        Check.due("behind an hour", x.count(11), 0);
        for (int i = 0; i < 8; i++) {
            Check.due("anew " + i, x.read(0, 0, 1), true);
        }
        x.undo();
        Check.due("behind an undo", x.count(11), 0);
        Check.due("anew", x.read(0, 0, 1), true);
        Check.due("of it alone", x.count(11), 1);
    }

    // Promise 16: "house NONE: how many; .. -2: others, it has a FIRE".
    private static void waysOthers() {
        OneSmoke x = Check.in(VALLEY);
        for (int i = 0; i < NOBODY.length; i++) {
            Check.due("ways of house " + NOBODY[i], x.ways(NOBODY[i]), -2);
        }
        Check.due("house -2", x.ways(-2), -2);
        Check.due("house 3", x.ways(3), -2);
        Check.due("how many", x.ways(NONE), 12);
        Check.due("the last house", x.ways(2), NONE);
        x.burn(2, 0);
        Check.due("it has a fire", x.ways(2), -2);
        Check.due("one has", x.ways(NONE), 6);
        x.hour();
        Check.due("still", x.ways(2), -2);
        x.hour();
        Check.due("it is out, and has none", x.ways(2), 2);
    }

    // Part 3: "each HOUSE without a FIRE that has FUELS": one that has none burns none by all.
    private static void waysOfHousesWithoutFuels() {
        OneSmoke x = Check.in("fuel a dark 1 sweet 1 burns 1;fuel b dark 1 sweet 1 burns 1;flue f;house g at f;house h at f;stock g b 1;");
        Check.due("two ways", x.ways(NONE), 2);
        Check.due("as many as fuels there are", x.ways(1), 2);
        Check.due("not the same", x.ways(0), NONE);
        OneSmoke y = Check.in("flue f;house g at f;");
        Check.due("no fuels: one way", y.ways(NONE), 1);
        Check.due("no fuels: none is 0", y.ways(0), 0);
        OneSmoke z = Check.in("fuel a dark 1 sweet 1 burns 1;fuel b dark 1 sweet 1 burns 1;fuel c dark 1 sweet 1 burns 1;"
            + "fuel d dark 1 sweet 1 burns 1;fuel e dark 1 sweet 1 burns 1;flue f;house g at f;house h at f;house i at f;house j at f;"
            + "stock g a 1;stock g b 1;stock g c 1;stock g d 1;stock g e 1;stock h a 1;stock h b 1;stock h c 1;stock h d 1;stock h e 1;"
            + "stock i a 1;stock i b 1;stock i c 1;stock i d 1;stock i e 1;stock j a 1;stock j b 1;stock j c 1;stock j d 1;stock j e 1;");
        Check.due("as many as can be", z.ways(NONE), 1296);
    }

    // Part 3: READ: "so for a WATCHER of dark, if the FLUE's dark is within the SIGN's, of sweet likewise": at from and to.
    private static void waysByDarkOrSweet() {
        String text = "flue f;house h at f;stock h a 1;stock h b 1;stock h c 1;stock h d 1;sign s dark 5 to 6 sweet 15 to 16;"
            + "watcher v sees dark;watcher w sees sweet;";
        OneSmoke x = Check.in("fuel a dark 4 sweet 14 burns 1;fuel b dark 5 sweet 17 burns 1;fuel c dark 6 sweet 13 burns 1;"
            + "fuel d dark 7 sweet 19 burns 1;" + text);
        x.read(0, 0, 0);
        Check.due("dark 5 and 6 of 0 4 5 6 7", x.ways(NONE), 2);
        x.hour();
        x.read(1, 0, 0);
        Check.due("no sweet of 0 13 14 17 19", x.ways(NONE), 0);
        OneSmoke y = Check.in("fuel a dark 3 sweet 14 burns 1;fuel b dark 4 sweet 15 burns 1;fuel c dark 7 sweet 16 burns 1;"
            + "fuel d dark 8 sweet 17 burns 1;" + text);
        y.read(1, 0, 0);
        Check.due("sweet 15 and 16 of 0 14 15 16 17", y.ways(NONE), 2);
        y.hour();
        y.read(0, 0, 0);
        Check.due("no dark of 0 3 4 7 8", y.ways(NONE), 0);
        Check.due("no way: not the same", y.ways(0), NONE);
    }

    // Part 3: "(none: within no SIGN's)": of dark all SIGNS' dark, of sweet all SIGNS' sweet.
    private static void waysByNone() {
        String text = "fuel a dark 4 sweet 24 burns 1;fuel b dark 5 sweet 25 burns 1;fuel c dark 9 sweet 28 burns 1;flue f;house h at f;"
            + "stock h a 1;stock h b 1;stock h c 1;watcher v sees dark;watcher w sees sweet;watcher u sees both;";
        OneSmoke x = Check.in(text + "sign s dark 0 to 4 sweet 99 to 99;sign t dark 6 to 8 sweet 99 to 99;sign r dark 10 to 99 sweet 0 to 99;");
        x.read(0, 0, NONE);
        Check.due("dark 5 and 9", x.ways(NONE), 2);
        x.hour();
        x.read(1, 0, NONE);
        Check.due("each sweet is within the last one's", x.ways(NONE), 0);
        x.hour();
        x.read(2, 0, NONE);
        Check.due("no sign at all", x.ways(NONE), 4);
        OneSmoke y = Check.in(text + "sign s dark 99 to 99 sweet 0 to 24;sign t dark 0 to 99 sweet 26 to 27;");
        y.read(1, 0, NONE);
        Check.due("sweet 25 and 28", y.ways(NONE), 2);
        OneSmoke z = Check.in(text);
        z.read(0, 0, NONE);
        z.read(1, 0, NONE);
        z.read(2, 0, NONE);
        Check.due("no signs told: all are so", z.ways(NONE), 4);
    }

    // Part 3: "of both if that is the FLUE's SIGN": the first one that fits, not another that fits, nor one that fits by half.
    private static void waysByBoth() {
        OneSmoke x = Check.in("fuel a dark 4 sweet 4 burns 1;fuel b dark 5 sweet 5 burns 1;fuel c dark 4 sweet 9 burns 1;flue f;house h at f;"
            + "stock h a 1;stock h b 1;stock h c 1;sign s dark 4 to 4 sweet 4 to 4;sign t dark 4 to 5 sweet 4 to 5;watcher w sees both;");
        x.read(0, 0, 0);
        Check.due("a by all", x.ways(0), 0);
        x.hour();
        x.read(0, 0, 1);
        Check.due("b by all: a is the first one's", x.ways(0), 1);
        x.hour();
        x.read(0, 0, NONE);
        Check.due("c or none", x.ways(NONE), 2);
        Check.due("not the same", x.ways(0), NONE);
    }

    // Promise 16: "what it burns by all (as many as FUELS there are: none by all; NONE: not the same in all, no WAY)".
    private static void waysAllTheSame() {
        OneSmoke x = Check.in(VALLEY);
        x.read(1, 0, 0);
        Check.due("one: ann's ash or bob's", x.ways(NONE), 4);
        Check.due("ann", x.ways(0), NONE);
        Check.due("bob", x.ways(1), NONE);
        Check.due("cat, of another flue", x.ways(2), NONE);
        x.hour();
        x.read(1, 0, 2);
        Check.due("two: both ashes", x.ways(NONE), 2);
        Check.due("ann's ash", x.ways(0), 1);
        Check.due("bob's ash", x.ways(1), 1);
        x.read(1, 1, NONE);
        Check.due("and cat's none", x.ways(2), 2);
        Check.due("one way", x.ways(NONE), 1);
        x.read(1, 1, 1);
        Check.due("no way", x.ways(NONE), 0);
        Check.due("no way: ann", x.ways(0), NONE);
        Check.due("no way: cat", x.ways(2), NONE);
    }

    // Part 3: "by which all READ is so": of each FLUE, one of no HOUSES, too.
    private static void waysOfAllFlues() {
        OneSmoke x = Check.in(VALLEY + "sign nil dark 0 to 0 sweet 0 to 0;");
        x.read(1, 2, 3);
        Check.due("nil over nobody's", x.ways(NONE), 12);
        x.read(1, 1, 1);
        Check.due("ten over tin", x.ways(NONE), 6);
        x.read(1, 2, NONE);
        Check.due("none over nobody's: no way", x.ways(NONE), 0);
        Check.due("no way: cat", x.ways(2), NONE);
        OneSmoke y = Check.in("fuel a dark 1 sweet 0 burns 1;flue f;flue g;house h at f;stock h a 1;sign s dark 1 to 9 sweet 0 to 9;"
            + "watcher w sees dark;");
        Check.due("more flues than houses", y.ways(NONE), 2);
        y.read(0, 1, 0);
        Check.due("what can't be over nobody's", y.ways(NONE), 0);
        Check.due("whom to ask then", y.ask(), NONE);
    }

    // Promise 17: "NONE: none parts them": no WATCHERS, no WAY, one WAY, ways alike to all.
    private static void askNothingToPart() {
        String text = "fuel a dark 1 sweet 1 burns 1;flue f;house h at f;stock h a 1;";
        Check.due("no watchers", Check.in(text).ask(), NONE);
        Check.due("no flues", Check.in("watcher w sees dark;").ask(), NONE);
        OneSmoke x = Check.in(text + "watcher w sees dark;sign s dark 1 to 1 sweet 0 to 9;sign t dark 9 to 9 sweet 0 to 9;");
        Check.due("two ways", x.ask(), 0);
        x.read(0, 0, 0);
        Check.due("one way", x.ask(), NONE);
        x.read(0, 0, 1);
        Check.due("no way", x.ask(), NONE);
        Check.due("alike to him", Check.in(text + "watcher w sees both;").ask(), NONE);
        Check.due("alike in sweet", Check.in(text + "watcher w sees sweet;gives shade*(1-smelt);").ask(), NONE);
    }

    // Part 3: "if it is less than all".
    private static void askLessThanAll() {
        String text = "flue f;house h at f;stock h a 1;stock h b 1;watcher w sees dark;";
        // Of three ways three, two, one alike.
        Check.due("three", Check.in("fuel a dark 0 sweet 1 burns 1;fuel b dark 0 sweet 2 burns 1;" + text).ask(), NONE);
        Check.due("two", Check.in("fuel a dark 0 sweet 1 burns 1;fuel b dark 1 sweet 2 burns 1;" + text).ask(), 0);
        Check.due("one", Check.in("fuel a dark 2 sweet 1 burns 1;fuel b dark 1 sweet 2 burns 1;" + text).ask(), 0);
    }

    // Part 3: "of equal ones the first", "by WATCHERS, then FLUES"; a later one that is less is it.
    private static void askTheFirstOfEqual() {
        String two = "fuel a dark 1 sweet 1 burns 1;flue f;flue g;house h at f;house i at g;stock h a 1;stock i a 1;";
        Check.due("flues alike", Check.in(two + "watcher v sees dark;").ask(), 0);
        Check.due("watchers alike", Check.in(two + "watcher v sees dark;watcher w sees sweet;").ask(), 0);
        Check.due("the first can't tell", Check.in(two + "watcher v sees both;watcher w sees sweet;").ask(), 3);
        String far = "fuel a dark 1 sweet 1 burns 1;flue f;flue g;house h at g;stock h a 1;";
        Check.due("by watchers, then flues", Check.in(far + "watcher v sees dark;watcher w sees dark;").ask(), 1);
        OneSmoke x = Check.in("fuel a dark 1 sweet 1 burns 1;fuel b dark 1 sweet 2 burns 1;flue f;house h at f;stock h a 1;stock h b 1;"
            + "watcher v sees dark;watcher w sees sweet;");
        Check.due("two of three, then one of three", x.ask(), 3);
    }

    // Promise 17: "as WATCHER * 3 + FLUE": the fourth over the third is 11.
    private static void askTheLast() {
        OneSmoke x = Check.in("fuel a dark 1 sweet 1 burns 1;flue f;flue g;flue i;house h at i;stock h a 1;watcher s sees both;"
            + "watcher t sees both;watcher u sees both;watcher v sees sweet;");
        Check.due("the last", x.ask(), 11);
        OneSmoke y = Check.in("fuel a dark 1 sweet 1 burns 1;flue f;house h at f;stock h a 1;watcher s sees both;watcher t sees dark;");
        Check.due("the second over the first of one", y.ask(), 3);
    }

    // Part 3: "of him who watches dark the dark, of sweet the sweet, of both the SIGN": none is one more SIGN; 999 is 999.
    private static void askBySight() {
        String text = "fuel a dark 4 sweet 4 burns 1;fuel b dark 5 sweet 4 burns 1;fuel c dark 5 sweet 6 burns 1;flue f;house h at f;"
            + "stock h a 1;stock h b 1;stock h c 1;";
        String[] sights = {"dark", "sweet", "both"};
        // Of four ways: dark 0 4 5 5, sweet 0 4 4 6, signs none, s, s, s.
        for (int i = 0; i < 3; i++) {
            OneSmoke x = Check.in(text + "watcher v sees " + sights[i] + ";sign s dark 4 to 5 sweet 4 to 6;");
            Check.due("who sees " + sights[i], x.ask(), 0);
        }
        String both = text + "watcher v sees both;watcher w sees dark;";
        Check.due("three signs alike, two darks", Check.in(both + "sign s dark 4 to 5 sweet 4 to 6;").ask(), 3);
        // Signs none, s, t, none: two alike by sign, two by dark.
        Check.due("two signs alike, two darks", Check.in(both + "sign s dark 4 to 4 sweet 4 to 4;sign t dark 5 to 5 sweet 4 to 4;").ask(), 0);
        Check.due("four signs alike, two sweets", Check.in(text + "watcher v sees both;watcher w sees sweet;").ask(), 3);
        OneSmoke y = Check.in(text + "watcher v sees dark;gives 999+shade;");
        Check.due("999 of each", y.ask(), 0);
        y.read(0, 0, NONE);
        y.burn(0, 0);
        Check.due("with a fire there is one way", y.ask(), NONE);
        OneSmoke z = Check.in("fuel a dark 4 sweet 4 burns 1;flue f;house h at f;house i at f;stock h a 1;stock i a 1;watcher v sees dark;gives 999;");
        z.burn(1, 0);
        Check.due("999 and 1,998 are alike", z.ask(), NONE);
    }

    // Promise 17: what was asked ahead leaves nothing behind, of whichever sight.
    private static void askAgain() {
        String[] sights = {"dark", "sweet", "both"};
        for (int i = 0; i < 3; i++) {
            OneSmoke x = Check.in("fuel a dark 1 sweet 1 burns 1;flue f;house g at f;house h at f;house i at f;stock g a 1;stock h a 1;stock i a 1;"
                + "watcher w sees " + sights[i] + ";sign s dark 1 to 1 sweet 1 to 1;sign t dark 2 to 2 sweet 2 to 2;");
            Check.due("three of eight", x.ask(), 0);
            x.burn(0, 0);
            Check.due("two of four", x.ask(), 0);
            x.burn(1, 0);
            Check.due("one of two", x.ask(), 0);
            x.burn(2, 0);
            Check.due("one of one", x.ask(), NONE);
        }
    }

    // Promise 18: "NONE: others, the same".
    private static void blurOthers() {
        OneSmoke x = Check.in(VALLEY);
        for (int i = 0; i < NOBODY.length; i++) {
            Check.due("blur of " + NOBODY[i], x.blur(NOBODY[i], 0), NONE);
            Check.due("blur with " + NOBODY[i], x.blur(0, NOBODY[i]), NONE);
        }
        Check.due("sign -1", x.blur(-1, 0), NONE);
        Check.due("other -1", x.blur(0, -1), NONE);
        Check.due("sign 3", x.blur(3, 0), NONE);
        Check.due("other 3", x.blur(0, 3), NONE);
        for (int sign = 0; sign < 3; sign++) {
            Check.due("the same " + sign, x.blur(sign, sign), NONE);
        }
        Check.due("the last two: nobody", x.blur(1, 2), 0);
        Check.due("no watchers", Check.in("sign s dark 0 to 9 sweet 0 to 9;sign t dark 0 to 9 sweet 0 to 9;").blur(0, 1), 0);
    }

    // Part 3: BLUR: "a dark within both, a sweet within both": one value is enough, none between is not.
    private static void blurTouching() {
        String watchers = "watcher v sees dark;watcher w sees sweet;watcher u sees both;";
        String[] dark = {"6 to 9", "5 to 9", "0 to 1", "0 to 2", "3 to 3", "0 to 9"};
        boolean[] touches = {false, true, false, true, true, true};
        for (int i = 0; i < dark.length; i++) {
            for (int j = 0; j < dark.length; j++) {
                OneSmoke x = Check.in("sign s dark 2 to 5 sweet 2 to 5;sign t dark " + dark[i] + " sweet " + dark[j] + ";" + watchers);
                int due = (touches[i] ? 1 : 0) + (touches[j] ? 2 : 0) + (touches[i] && touches[j] ? 4 : 0);
                Check.due("blur " + dark[i] + ", " + dark[j], x.blur(0, 1), due);
                Check.due("the other way round", x.blur(1, 0), due);
            }
        }
    }

    // Promise 18: "BLUR, as bits of WATCHERS": the fourth is 8; another SIGN that is ahead of both does not matter.
    private static void blurBits() {
        OneSmoke x = Check.in("sign a dark 0 to 999 sweet 0 to 999;sign s dark 0 to 5 sweet 0 to 5;sign t dark 5 to 9 sweet 6 to 9;"
            + "watcher wa sees dark;watcher wb sees sweet;watcher wc sees both;watcher wd sees dark;");
        Check.due("the first and the fourth", x.blur(1, 2), 9);
        Check.due("all with the first sign", x.blur(0, 2), 15);
    }
}
