/** Promise 3, E: the edges of its grammar, of its facts, of its values, and of what gives and soots make of these. */
public final class LawEdgesTest {
    /** One fuel of dark 7, sweet 3, that burns 4 hours, in a wind of 2. */
    private static final String ONE = "fuel x dark 7 sweet 3 burns 4;flue f;house a at f;stock a x 9;winds 2;";

    public static void main(String[] args) {
        fourDeep();
        fiveDeep();
        sixDeep();
        depthEndsWithItsPart();
        wrongAndTooDeep();
        oneComparison();
        andOrFromTheLeft();
        sumsFromTheLeft();
        productsFirst();
        notOfAPart();
        partsThatAreMissing();
        bracketsThatAreOpen();
        oneOrNothing();
        notNothingIsSo();
        lessAndEqual();
        intsWrap();
        factsOfFires();
        leftOfEachHour();
        factsOfSoots();
        factsThatSootsHasNot();
        withoutGives();
        withoutSoots();
        givesWithin999();
        sootsWithin999();
        givesOfEachFire();
        lawsOfTheLastValley();
        longOnes();
        Check.end("LawEdgesTest");
    }

    /** What one fire gives by a law has to be this, by dark and by sweet. */
    private static void law(String law, int dark, int sweet) {
        OneSmoke x = Check.in(ONE + "gives " + law + ";");
        x.burn(0, 0);
        Check.due("dark by " + law, x.flue(0, 0), dark);
        Check.due("sweet by " + law, x.flue(0, 1), sweet);
    }

    private static void law(String law, int both) {
        law(law, both, both);
    }

    // Terms: "no PART lies within 5 of not and ( )": within four it may.
    private static void fourDeep() {
        law("((((6))))", 6);
        law("((((left))))", 4);
        law("not not not not 6", 1);
        law("not(not(0))", 0);
        law("not (not (6))", 1);
        law("(not (not 0))", 0);
        Check.in("soots ((((1))));");
        Check.in("soots not not not not wind;");
    }

    // Terms: 5 ".. a PART, within 5 others": at the PART itself, by ( ), by not, and by both.
    private static void fiveDeep() {
        Check.valleyFault(5, "gives (((((^1)))));");
        Check.valleyFault(5, "gives (((((^left)))));");
        Check.valleyFault(5, "gives not not not not not ^1;");
        Check.valleyFault(5, "gives not(not(not ^1));");
        Check.valleyFault(5, "gives (not(not(^1)));");
        Check.valleyFault(5, "gives not not not not(^1);");
        Check.valleyFault(5, "soots (((((^shade)))));");
        Check.valleyFault(5, "soots not not not not not ^0;");
    }

    // Terms: 5 "not, or a PART, within 5 others": a sixth not, a sixth (, also if what comes behind is worse.
    private static void sixDeep() {
        Check.valleyFault(5, "gives not not not not not ^not 1;");
        Check.valleyFault(5, "gives (((((^(1))))));");
        Check.valleyFault(5, "gives (((((^not 1)))));");
        Check.valleyFault(5, "gives not not not not not ^(1);");
        Check.valleyFault(5, "gives (((((^(#");
        Check.valleyFault(5, "gives (((((^1 #");
    }

    // Terms: what lies behind a ) or behind a not's PART does not lie within it.
    private static void depthEndsWithItsPart() {
        law("((((1))))+((((1))))", 2);
        law("not not not not 1+not not not not 1", 2);
        law("(((1)+(1))+(1))+(((1)))", 4);
        law("((((1))+((1-1))))", 1);
        Check.valleyFault(5, "gives ((((1))+(((^(1)))));");
        Check.valleyFault(5, "gives ((((1))))+(((((^1)))));");
        Check.valleyFault(5, "gives not not not not 1+not not not not not ^1;");
    }

    // Terms: "wrong the least": what can't stand there is 1, however deep.
    private static void wrongAndTooDeep() {
        Check.valleyFault(1, "gives (((((^)))));");
        Check.valleyFault(1, "gives (((((^;");
        Check.valleyFault(1, "gives (((((^and");
        Check.valleyFault(1, "gives (((((^");
        Check.valleyFault(1, "gives not not not not not ^oak;");
        Check.valleyFault(1, "soots (((((^left)))));");
        Check.valleyFault(1, "gives (((((^99999)))));");
    }

    // Terms: "TEST: SUM, or SUM < SUM, or SUM = SUM": one sign at most.
    private static void oneComparison() {
        law("1 < 2", 1);
        law("2 = 2", 1);
        law("(1 < 2) < 3", 1);
        law("1 < 2 and 2 < 3", 1);
        Check.valleyFault(1, "gives 1 < 2 ^< 3;");
        Check.valleyFault(1, "gives 1 = 2 ^= 3;");
        Check.valleyFault(1, "gives 1 < 2 ^= 3;");
        Check.valleyFault(1, "gives 1 = 2 ^< 3;");
        Check.valleyFault(1, "gives 1 <^= 3;");
    }

    // Terms: "E: TEST { and TEST or or TEST }, from the left": or does not wait for and, nor and for or.
    private static void andOrFromTheLeft() {
        law("1 or 1 and 0", 0);
        law("1 or (1 and 0)", 1);
        law("0 and 0 or 1", 1);
        law("0 and (0 or 1)", 0);
        law("0 or 1 and 1", 1);
        law("1 and 0 or 0", 0);
    }

    // Terms: "SUM: PRODUCT { + or - PRODUCT }".
    private static void sumsFromTheLeft() {
        law("20-3-4", 13);
        law("20-(3-4)", 21);
        law("20-3+4", 21);
        law("1-2+5", 4);
    }

    // Terms: "PRODUCT: PART { * PART }": ahead of sums, these ahead of < and =, these ahead of and, or.
    private static void productsFirst() {
        law("2+3*4", 14);
        law("2*3+4", 10);
        law("(2+3)*4", 20);
        law("2*3*4", 24);
        law("1+1 < 3", 1);
        law("3 < 1+1", 0);
        law("1 < 2+(1 = 2)", 1);
        law("0 = 1 or 2 = 2", 1);
    }

    // Terms: "not PART": of the PART alone, not of the PRODUCT, the SUM or the TEST.
    private static void notOfAPart() {
        law("not 0*5", 5);
        law("not 3*5", 0);
        law("not 0+5", 6);
        law("not 5 < 1", 1);
        law("not (5 < 1)", 1);
        law("not (1 < 5)", 0);
        law("not 1 or 1", 1);
        law("3*not 0", 3);
        Check.valleyFault(1, "gives not^;");
        Check.valleyFault(1, "gives 1 ^not 1;");
    }

    // Terms: 1 "can't stand there", where a PART is due and where none is.
    private static void partsThatAreMissing() {
        String[] wrong = {"gives ^;", "gives 1+^;", "gives 1-^;", "gives 1*^;", "gives 1<^;", "gives 1=^;", "gives 1 and^;", "gives 1 or^;",
            "gives ^+1;", "gives ^-1;", "gives ^*1;", "gives ^<1;", "gives ^=1;", "gives ^and 1;", "gives ^or 1;", "gives 1 ^2;",
            "gives 1 ^shade;", "gives shade ^1;", "gives 1 ^(1);", "gives (1)^(1);", "gives 1+^+1;", "gives 1*^-1;", "gives 1 and ^and 1;",
            "gives ^dark;", "gives ^oak;", "gives ^gives;", "gives 1^gives 1;"};
        for (int i = 0; i < wrong.length; i++) {
            Check.valleyFault(1, wrong[i]);
        }
    }

    // Terms: "( E )".
    private static void bracketsThatAreOpen() {
        Check.valleyFault(1, "gives (1^;");
        Check.valleyFault(1, "gives ((1)^;");
        Check.valleyFault(1, "gives 1^);");
        Check.valleyFault(1, "gives (1)^);");
        Check.valleyFault(1, "gives (^);");
        law("(1 and 2)", 1);
        law("(1 < 2)*50+(1 = 2)*9", 50);
    }

    // Terms: "Of not, and, or, < and = comes 1 or 0".
    private static void oneOrNothing() {
        law("5 and 9", 1);
        law("5 and 0", 0);
        law("0 and 9", 0);
        law("0 and 0", 0);
        law("7 or 9", 1);
        law("7 or 0", 1);
        law("0 or 9", 1);
        law("0 or 0", 0);
        law("not 0", 1);
        law("not 1", 0);
        law("not not 7", 1);
        law("7", 7);
    }

    // Terms: "what is not 0 is so": 1, 2, and what is below 0.
    private static void notNothingIsSo() {
        law("not 2", 0);
        law("not (0-1)", 0);
        law("(0-1) and 1", 1);
        law("1 and (0-1)", 1);
        law("(0-1) or 0", 1);
        law("0 or (0-9)", 1);
        law("not (1-1)", 1);
    }

    // Terms: < and =, on both sides of alike, and below 0.
    private static void lessAndEqual() {
        law("1 < 2", 1);
        law("2 < 2", 0);
        law("3 < 2", 0);
        law("1 = 2", 0);
        law("2 = 2", 1);
        law("3 = 2", 0);
        law("0-2 < 0-1", 1);
        law("0-1 < 0-2", 0);
        law("0-1 < 0", 1);
    }

    // Terms: "ints wrap": beyond 2,147,483,647, below -2,147,483,648, and of products.
    private static void intsWrap() {
        // 9999 * 9999 = 99,980,001; 21 of them are 2,099,580,021, and 47,903,626 more is the greatest int.
        String most = "9999*9999*21+9999*4790+8416";
        law(most + " < 0", 0);
        law(most + "+1 < 0", 1);
        law("0-(" + most + ")-1 < 0", 1);
        law("0-(" + most + ")-2 < 0", 0);
        law("9999*9999*22 < 0", 1);
        law("256*256*256*256", 0);
        law("256*256*256*256+5", 5);
        law("256*256*256*128 < 0", 1);
    }

    // Terms: "shade (the FUEL's dark ..), scent (the FUEL's sweet ..), wind (of the hour); of gives left .., smelt (1 if its sweet
    // is asked for, 0 if its dark is)".
    private static void factsOfFires() {
        law("shade", 7);
        law("scent", 3);
        law("wind", 2);
        law("left", 4);
        law("smelt", 0, 1);
        law("shade*(1-smelt)+scent*10*smelt", 7, 30);
        law("wind*100+left*10+smelt", 240, 241);
    }

    // Terms: left "(hours it burns yet, this one, too)": from all of them down to 1; and the wind is that of each hour.
    private static void leftOfEachHour() {
        OneSmoke x = Check.in("fuel x dark 7 sweet 3 burns 3;flue f;house a at f;stock a x 9;winds 2 5;gives left*10+wind;");
        x.burn(0, 0);
        int[] due = {32, 25, 12, 0};
        for (int hour = 0; hour < due.length; hour++) {
            Check.due("dark in hour " + hour, x.flue(0, 0), due[hour]);
            x.hour();
        }
        x.burn(0, 0);
        Check.due("a fresh one in hour 4", x.flue(0, 0), 32);
    }

    // Terms: "of soots the FLUE's dark in that hour", "of soots the FLUE's" sweet; the wind of the hour that goes by.
    private static void factsOfSoots() {
        OneSmoke x = Check.in("fuel x dark 7 sweet 3 burns 4;flue f;flue g;house a at f;house b at f;house c at g;stock a x 9;stock b x 9;"
            + "stock c x 9;winds 2 5;soots shade*10+scent+wind*100;");
        x.burn(0, 0);
        x.burn(1, 0);
        x.hour();
        Check.due("two fires' soot", x.flue(0, 3), 140 + 6 + 200);
        Check.due("no fire's soot", x.flue(1, 3), 200);
        x.burn(2, 0);
        x.hour();
        Check.due("in the next wind", x.flue(0, 3), 346 + 140 + 6 + 500);
        Check.due("one fire's soot", x.flue(1, 3), 200 + 70 + 3 + 500);
    }

    // Terms: "of gives left .., smelt ..": in soots they can't stand.
    private static void factsThatSootsHasNot() {
        Check.in("gives left;");
        Check.in("gives smelt;");
        Check.in("soots shade+scent+wind;");
        Check.valleyFault(1, "soots ^left;");
        Check.valleyFault(1, "soots ^smelt;");
        Check.valleyFault(1, "soots 1+(^left);");
        Check.valleyFault(1, "soots not ^smelt;");
    }

    // Terms: "Without gives: shade, or scent, as is asked for", however long it burns yet and in any wind.
    private static void withoutGives() {
        OneSmoke x = Check.in(ONE);
        x.burn(0, 0);
        for (int hour = 0; hour < 4; hour++) {
            Check.due("dark in hour " + hour, x.flue(0, 0), 7);
            Check.due("sweet in hour " + hour, x.flue(0, 1), 3);
            x.hour();
        }
        Check.due("dark of no fire", x.flue(0, 0), 0);
    }

    // Terms: "without soots: shade".
    private static void withoutSoots() {
        OneSmoke x = Check.in(ONE + "house b at f;stock b x 1;");
        x.burn(0, 0);
        x.burn(1, 0);
        x.hour();
        Check.due("soot of both", x.flue(0, 3), 14);
        OneSmoke y = Check.in(ONE + "gives 999;");
        y.burn(0, 0);
        y.hour();
        Check.due("of what it gives", y.flue(0, 3), 999);
    }

    // Part 2: a FIRE "GIVES, in an hour, dark by the E of gives (0 to 999), sweet likewise".
    private static void givesWithin999() {
        law("998", 998);
        law("999", 999);
        law("1000", 999);
        law("9999", 999);
        law("1", 1);
        law("1-1", 0);
        law("1-2", 0);
        law("0-9999*9999", 0);
        law("1000-1000*smelt", 999, 0);
        law("1000*smelt-1", 0, 999);
    }

    // Part 2: "the E of soots (0 to 999) more soot".
    private static void sootsWithin999() {
        String[] laws = {"998", "999", "1000", "9999", "1", "0", "0-1", "0-9999*9999"};
        int[] due = {998, 999, 999, 999, 1, 0, 0, 0};
        for (int i = 0; i < laws.length; i++) {
            OneSmoke x = Check.in("flue f;soots " + laws[i] + ";");
            x.hour();
            Check.due("soot by " + laws[i], x.flue(0, 3), due[i]);
            x.hour();
            Check.due("soot by " + laws[i] + " twice", x.flue(0, 3), 2 * due[i]);
        }
    }

    // Part 2: what a FIRE GIVES is by its FUEL, the hours it burns yet, the wind and what is asked for, the last of each, too.
    private static void givesOfEachFire() {
        StringBuilder text = new StringBuilder("flue f;house g at f;house h at f;winds 0 9 1 8 2 7 3 6 4 5;gives shade*100+left*10+wind+smelt*500;");
        for (int fuel = 0; fuel < 5; fuel++) {
            String name = "f" + (char) ('a' + fuel);
            text.append("fuel ").append(name).append(" dark ").append(fuel).append(" sweet 0 burns ").append(9 - fuel / 3).append(';');
            text.append("stock g ").append(name).append(" 9;stock h ").append(name).append(" 9;");
        }
        int[] winds = {0, 9, 1, 8, 2, 7, 3, 6, 4, 5};
        OneSmoke x = Check.in(text.toString());
        int[] left = new int[2];
        int[] fuel = new int[2];
        for (int hour = 0; hour < 100; hour++) {
            int dark = 0;
            int sweet = 0;
            for (int house = 0; house < 2; house++) {
                if (left[house] == 0 && (hour + house) % 3 > 0) {
                    fuel[house] = (hour + 2 * house) % 5;
                    left[house] = 9 - fuel[house] / 3;
                    Check.due("burn in hour " + hour, x.burn(house, fuel[house]), true);
                }
                int gives = fuel[house] * 100 + left[house] * 10 + winds[hour % 10];
                dark += left[house] > 0 ? gives : 0;
                sweet += left[house] > 0 ? Math.min(gives + 500, 999) : 0;
                left[house] -= left[house] > 0 ? 1 : 0;
            }
            Check.due("dark in hour " + hour, x.flue(0, 0), Math.min(dark, 999));
            Check.due("sweet in hour " + hour, x.flue(0, 1), Math.min(sweet, 999));
            x.hour();
        }
        // The fifth fuel, nine hours, wind 9.
        OneSmoke y = Check.in(text.toString().replace("burns 8", "burns 9"));
        y.hour();
        y.burn(0, 4);
        Check.due("the last of all, dark", y.flue(0, 0), 400 + 90 + 9);
        Check.due("the last of all, sweet", y.flue(0, 1), 999);
        y.undo();
        y.burn(0, 3);
        Check.due("the last but one", y.flue(0, 0), 300 + 90 + 9);
    }

    // Promise 3: a VALLEY "is the VALLEY from then on": what FIRES gave in those before is nothing to it.
    private static void lawsOfTheLastValley() {
        OneSmoke x = new OneSmoke();
        for (int told = 1; told <= 6; told++) {
            String text = "fuel x dark " + told + " sweet 3 burns 4;flue f;house a at f;stock a x 9;";
            Check.due("valley " + told, Check.valley(x, text + (told % 3 == 0 ? "gives 50+" + told + ";" : "")), 0);
            x.burn(0, 0);
            Check.due("dark of valley " + told, x.flue(0, 0), told % 3 == 0 ? 50 + told : told);
            Check.due("a fault in between", Check.valley(x, text + "gives 70;#"), 1 + 16 * (text.length() + 9));
            Check.due("dark behind it", x.flue(0, 0), told % 3 == 0 ? 50 + told : told);
            x.undo();
            x.burn(0, 0);
            Check.due("dark anew", x.flue(0, 0), told % 3 == 0 ? 50 + told : told);
        }
    }

    // Terms: an E may be as long as a TAPE is, and as many values may wait in it as its levels let.
    private static void longOnes() {
        law("1" + "+1".repeat(440), 441);
        law("1" + "*1".repeat(440), 1);
        law("0" + " or 0".repeat(150) + " or 1", 1);
        String level = "0 or 0<1+1*(";
        law(level.repeat(4) + "0 or 0<1+1*7" + "))))", 1);
        law(level.repeat(4) + "1 and 9<1+1*7" + "))))", 1);
        law("1 and 1=0+1*(".repeat(4) + "1 and 9<1+1*7" + "))))", 0);
    }
}
