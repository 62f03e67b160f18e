/** Promise 3: the edges of what a VALLEY is told, line by line, of NAMES, of NUMBERS, and of FAULTS. */
public final class ValleyEdgesTest {
    private static final int NONE = OneSmoke.NONE;
    private static final String FUEL = "fuel oak dark 1 sweet 2 burns 3;";
    private static final String HOUSE = "flue big;house ann at big;";

    public static void main(String[] args) {
        anyNumberOfLines();
        fiveFuels();
        fuelNumbers();
        threeFlues();
        fourHouses();
        houseAtAFlueTold();
        stockOfThoseTold();
        eachTwoOnce();
        stockNumbers();
        sixSigns();
        signNumbers();
        fourWatchers();
        sights();
        windNumbers();
        twelveWinds();
        windsAgainAndAgain();
        onceEach();
        keptWords();
        factsAsNames();
        noTwoAlike();
        wordsThatCanNotStandThere();
        firstFromTheLeft();
        theLeastOfAToken();
        theEnd();
        aFaultLeavesAll();
        aValleyEndsAll();
        Check.end("ValleyEdgesTest");
    }

    private static String row(String before, String behind, int many) {
        StringBuilder text = new StringBuilder();
        for (int i = 0; i < many; i++) {
            text.append(before).append((char) ('a' + i)).append(behind);
        }
        return text.toString();
    }

    private static void counted(String what, String text, int kind, int many) {
        Check.due(what, Check.in(text).count(kind), many);
    }

    // Terms: "VALLEY: any number of ..": none, one, as many as a TAPE holds.
    private static void anyNumberOfLines() {
        counted("no line", "", 1, 0);
        counted("one line", "flue a;", 1, 1);
        StringBuilder stocks = new StringBuilder(row("fuel f", " dark 1 sweet 2 burns 3;", 5) + "flue u;" + row("house h", " at u;", 4));
        for (int i = 0; i < 20; i++) {
            stocks.append("stock h").append((char) ('a' + i / 5)).append(" f").append((char) ('a' + i % 5)).append(' ').append(i).append(';');
        }
        counted("30 lines", stocks.toString(), 8, 190);
    }

    // Terms: "fuel: 5 at most"; 5 at "the words fuel of a sixth".
    private static void fiveFuels() {
        String behind = " dark 1 sweet 2 burns 3;";
        for (int many = 0; many <= 5; many++) {
            counted(many + " fuels", row("fuel f", behind, many), 0, many);
        }
        Check.valleyFault(5, row("fuel f", behind, 5) + "^fuel g" + behind);
        Check.valleyFault(5, row("fuel f", behind, 5) + "flue u; ^fuel");
    }

    // Terms: "numbered as told; dark, sweet 0 to 99, burns 1 to 9 hours"; 4 "a NUMBER that is not as told".
    private static void fuelNumbers() {
        String house = "flue u;house h at u;stock h f 1;stock h g 1;";
        OneSmoke x = Check.in("fuel f dark 0 sweet 99 burns 1;fuel g dark 99 sweet 0 burns 9;" + house);
        x.burn(0, 0);
        Check.due("dark 0", x.flue(0, 0), 0);
        Check.due("sweet 99", x.flue(0, 1), 99);
        Check.due("burns 1", x.house(0, 2), 1);
        x.hour();
        x.burn(0, 1);
        Check.due("dark 99", x.flue(0, 0), 99);
        Check.due("sweet 0", x.flue(0, 1), 0);
        Check.due("burns 9", x.house(0, 2), 9);
        Check.valleyFault(4, "fuel f dark ^100 sweet 1 burns 1;");
        Check.valleyFault(4, "fuel f dark 1 sweet ^100 burns 1;");
        Check.valleyFault(4, "fuel f dark 1 sweet 1 burns ^0;");
        Check.valleyFault(4, "fuel f dark 1 sweet 1 burns ^10;");
        Check.valleyFault(4, "fuel f dark ^9999 sweet 1 burns 1;");
    }

    // Terms: "flue: 3 at most, numbered as told"; 5 at "flue of a fourth".
    private static void threeFlues() {
        for (int many = 0; many <= 3; many++) {
            counted(many + " flues", row("flue u", ";", many), 1, many);
        }
        Check.valleyFault(5, row("flue u", ";", 3) + "^flue v;");
        OneSmoke x = Check.in(row("flue u", ";", 3) + "house h at uc;house i at ua;house j at ub;");
        Check.due("the third one's", x.flue(2, 4), 1);
        Check.due("the first one's", x.flue(0, 4), 2);
        Check.due("the second one's", x.flue(1, 4), 4);
    }

    // Terms: "house: 4 at most, numbered as told"; 5 at the word house "of a fifth".
    private static void fourHouses() {
        for (int many = 0; many <= 4; many++) {
            counted(many + " houses", "flue u;" + row("house h", " at u;", many), 2, many);
        }
        Check.valleyFault(5, "flue u;" + row("house h", " at u;", 4) + "^house i at u;");
        Check.due("all four at one", Check.in("flue u;" + row("house h", " at u;", 4)).flue(0, 4), 15);
        OneSmoke x = Check.in(FUEL + "flue u;" + row("house h", " at u;", 4) + "stock hd oak 7;stock ha oak 5;");
        Check.due("the fourth one's stock", x.house(3, 3), 7);
        Check.due("the first one's stock", x.house(0, 3), 5);
    }

    // Terms: house "at a FLUE told"; 2 "a NAME of no FLUE (behind at)": none, one told behind, one of another kind.
    private static void houseAtAFlueTold() {
        counted("at a flue told", "flue u;house h at u;", 2, 1);
        Check.valleyFault(2, "house h at ^u;");
        Check.valleyFault(2, "house h at ^u;flue u;");
        Check.valleyFault(2, "flue u;house h at ^v;");
        Check.valleyFault(2, "flue u;house h at ^h;");
        Check.valleyFault(2, FUEL + "house h at ^oak;");
        Check.valleyFault(2, "flue u;house h at u;house i at ^h;");
        Check.valleyFault(1, "flue u;house h at ^at;");
        Check.valleyFault(1, "flue u;house h at ^1;");
    }

    // Terms: "stock: of a HOUSE told a FUEL told"; 2 "of no HOUSE (behind stock ..), of no FUEL (the second of stock ..)".
    private static void stockOfThoseTold() {
        Check.in(FUEL + HOUSE + "stock ann oak 1;");
        Check.valleyFault(2, FUEL + "stock ^ann oak 1;" + HOUSE);
        Check.valleyFault(2, HOUSE + "stock ann ^oak 1;" + FUEL);
        Check.valleyFault(2, FUEL + HOUSE + "stock ^oak ann 1;");
        Check.valleyFault(2, FUEL + HOUSE + "stock ^big oak 1;");
        Check.valleyFault(2, FUEL + HOUSE + "stock ann ^ann 1;");
        Check.valleyFault(2, FUEL + HOUSE + "stock ann ^big 1;");
        Check.valleyFault(1, FUEL + HOUSE + "stock ^stock oak 1;");
        Check.valleyFault(1, FUEL + HOUSE + "stock ann ^fuel 1;");
    }

    // Terms: stock "each two once"; 3 "of stock a FUEL of which it was told already".
    private static void eachTwoOnce() {
        String told = FUEL + "fuel ham dark 1 sweet 2 burns 3;" + HOUSE + "house bob at big;stock ann oak 1;";
        OneSmoke x = Check.in(told + "stock ann ham 2;stock bob oak 3;stock bob ham 4;");
        Check.due("ann's oak", x.house(0, 3), 1);
        Check.due("ann's ham", x.house(0, 4), 2);
        Check.due("bob's oak", x.house(1, 3), 3);
        Check.due("bob's ham", x.house(1, 4), 4);
        Check.valleyFault(3, told + "stock ann ^oak 1;");
        Check.valleyFault(3, told + "stock bob ham 0;stock bob ^ham 1;");
        // The last of all twenty.
        String all = row("fuel f", " dark 1 sweet 2 burns 3;", 5) + "flue u;" + row("house h", " at u;", 4) + "stock hd fe 9;";
        Check.in(all + "stock hd fd 9;stock hc fe 9;");
        Check.valleyFault(3, all + "stock hd ^fe 9;");
        Check.valleyFault(3, all + "stock ha fa 0;stock ha ^fa 0;");
    }

    // Terms: stock "0 to 99 (0)": 0 if not told.
    private static void stockNumbers() {
        Check.due("0 told", Check.in(FUEL + HOUSE + "stock ann oak 0;").house(0, 3), 0);
        Check.due("99 told", Check.in(FUEL + HOUSE + "stock ann oak 99;").house(0, 3), 99);
        Check.due("none told", Check.in(FUEL + HOUSE).house(0, 3), 0);
        Check.valleyFault(4, FUEL + HOUSE + "stock ann oak ^100;");
    }

    // Terms: "sign: 6 at most, numbered as told"; 5 at "sign of a seventh".
    private static void sixSigns() {
        String behind = " dark 0 to 1 sweet 0 to 1;";
        for (int many = 0; many <= 6; many++) {
            counted(many + " signs", row("sign s", behind, many), 3, many);
        }
        Check.valleyFault(5, row("sign s", behind, 6) + "^sign t" + behind);
        Check.due("the sixth", Check.in("flue u;" + row("sign s", " dark 1 to 1 sweet 0 to 0;", 5) + "sign t" + behind).flue(0, 2), 5);
    }

    // Terms: sign "dark from 0 to 999 to no less, 999 at most, sweet likewise"; 4.
    private static void signNumbers() {
        Check.due("from 0 to 0", Check.in("flue u;sign s dark 0 to 0 sweet 0 to 0;").flue(0, 2), 0);
        Check.in("sign s dark 999 to 999 sweet 999 to 999;");
        Check.in("sign s dark 0 to 999 sweet 0 to 999;");
        Check.in("sign s dark 500 to 500 sweet 501 to 502;");
        Check.valleyFault(4, "sign s dark ^1000 to 1000 sweet 0 to 0;");
        Check.valleyFault(4, "sign s dark 999 to ^1000 sweet 0 to 0;");
        Check.valleyFault(4, "sign s dark 500 to ^499 sweet 0 to 0;");
        Check.valleyFault(4, "sign s dark 0 to 0 sweet ^1000 to 1000;");
        Check.valleyFault(4, "sign s dark 0 to 0 sweet 999 to ^1000;");
        Check.valleyFault(4, "sign s dark 0 to 0 sweet 500 to ^499;");
        // Sweet is not measured by dark.
        Check.in("sign s dark 9 to 9 sweet 1 to 2;");
    }

    // Terms: "watcher: 4 at most, numbered as told"; 5 at the word watcher "of a fifth".
    private static void fourWatchers() {
        for (int many = 0; many <= 4; many++) {
            counted(many + " watchers", row("watcher w", " sees dark;", many), 4, many);
        }
        Check.valleyFault(5, row("watcher w", " sees dark;", 4) + "^watcher v sees dark;");
    }

    // Terms: "SIGHT: dark, sweet, both": numbers of those who can see what fits both signs.
    private static void sights() {
        String signs = "sign s dark 0 to 1 sweet 0 to 0;sign t dark 1 to 2 sweet 1 to 1;sign u dark 3 to 3 sweet 0 to 0;";
        OneSmoke x = Check.in(signs + "watcher a sees dark;watcher b sees sweet;watcher c sees both;watcher d sees sweet;");
        Check.due("who sees dark", x.blur(0, 1), 1);
        Check.due("who sees sweet", x.blur(0, 2), 10);
        Check.valleyFault(1, "watcher a sees ^red;");
        Check.valleyFault(1, "watcher a sees ^;");
        Check.valleyFault(1, "watcher a sees ^1;");
        Check.valleyFault(1, "watcher a sees ^wind;");
    }

    // Terms: "winds: 0 to 9 of one hour"; 4.
    private static void windNumbers() {
        Check.due("wind 0", Check.in("winds 0;").count(6), 0);
        Check.due("wind 9", Check.in("winds 9;").count(6), 9);
        Check.valleyFault(4, "winds ^10;");
        Check.valleyFault(4, "winds 9 ^10;");
        Check.valleyFault(4, "winds 9 0 ^9999;");
    }

    // Terms: winds "1 to 12"; 5 "a thirteenth NUMBER of winds"; 1 where the first one is missing.
    private static void twelveWinds() {
        Check.in("winds 1;");
        OneSmoke x = Check.in("winds 1 2 3 4 5 6 7 8 9 8 7 6;");
        for (int i = 0; i < 11; i++) {
            x.hour();
        }
        Check.due("the twelfth", x.count(6), 6);
        x.hour();
        Check.due("the first again", x.count(6), 1);
        Check.valleyFault(1, "winds^;");
        Check.valleyFault(5, "winds 1 2 3 4 5 6 7 8 9 8 7 6 ^5;");
        Check.valleyFault(5, "winds 1 2 3 4 5 6 7 8 9 8 7 6 ^0;");
        Check.valleyFault(5, "winds 1 2 3 4 5 6 7 8 9 8 7 6 ^9 10;");
    }

    // Terms: winds "again and again (one of 0)"; part 2: "modulo how many are told".
    private static void windsAgainAndAgain() {
        OneSmoke x = Check.in("winds 4 0 7;");
        int[] due = {4, 0, 7, 4, 0, 7, 4};
        for (int hour = 0; hour < due.length; hour++) {
            Check.due("wind of hour " + hour, x.count(6), due[hour]);
            x.hour();
        }
        OneSmoke one = Check.in("winds 3;");
        one.hour();
        Check.due("one alone", one.count(6), 3);
        OneSmoke none = Check.in("flue u;");
        none.hour();
        Check.due("none told", none.count(6), 0);
    }

    // Terms: "winds, gives, soots: once each"; 3 "winds, gives, soots a second time", at the word.
    private static void onceEach() {
        Check.in("winds 0;gives 0;soots 0;");
        String[] told = {"winds 0;", "gives 0;", "soots 0;"};
        for (int i = 0; i < 3; i++) {
            Check.valleyFault(3, told[i] + "^" + told[i]);
            Check.valleyFault(3, told[i] + told[(i + 1) % 3] + told[(i + 2) % 3] + "^" + told[i]);
            Check.valleyFault(3, told[i] + "flue u;^" + told[i].substring(0, 5));
        }
    }

    // Terms: "A NAME is another WORD than fuel, dark, .. and, or": each of the 22, and words alike to them but for a letter.
    private static void keptWords() {
        String[] kept = {"fuel", "dark", "sweet", "burns", "flue", "house", "at", "stock", "sign", "to", "watcher", "sees",
            "both", "winds", "gives", "soots", "burn", "lend", "hour", "not", "and", "or"};
        Check.due("22 of them", kept.length, 22);
        for (int i = 0; i < kept.length; i++) {
            String less = kept[i].substring(1);
            Check.valleyFault(1, "flue ^" + kept[i] + ";");
            Check.valleyFault(1, "fuel ^" + kept[i] + " dark 1 sweet 2 burns 3;");
            Check.valleyFault(1, "flue u;house ^" + kept[i] + " at u;");
            Check.valleyFault(1, "sign ^" + kept[i] + " dark 0 to 1 sweet 0 to 1;");
            Check.valleyFault(1, "watcher ^" + kept[i] + " sees both;");
            Check.in("flue " + kept[i].charAt(0) + kept[i] + ";");
            Check.in("flue " + less + ";");
        }
    }

    // Terms: facts (shade, scent, wind, left, smelt) are no kept words: NAMES, and facts all the same.
    private static void factsAsNames() {
        OneSmoke x = Check.in("fuel shade dark 7 sweet 3 burns 4;flue wind;house left at wind;stock left shade 1;"
            + "sign scent dark 0 to 9 sweet 0 to 9;watcher smelt sees both;gives shade;");
        x.burn(0, 0);
        Check.due("shade is the fact", x.flue(0, 1), 7);
        Check.due("the sign", x.flue(0, 2), 0);
    }

    // Terms: "no two (FUELS, FLUES, HOUSES, SIGNS, WATCHERS) are alike"; 3 "a NAME told already", each kind against each.
    private static void noTwoAlike() {
        String[] kinds = {"fuel N dark 1 sweet 2 burns 3;", "flue N;", "house N at uu;", "sign N dark 0 to 1 sweet 0 to 1;",
            "watcher N sees both;"};
        for (int i = 0; i < 5; i++) {
            for (int j = 0; j < 5; j++) {
                String first = "flue uu;" + kinds[i].replace("N", "name");
                Check.in(first + kinds[j].replace("N", "other"));
                Check.valleyFault(3, first + kinds[j].replace("N", "^name"));
            }
        }
        // Also the last one of those before.
        Check.valleyFault(3, row("flue u", ";", 3) + "watcher ^uc sees dark;");
        Check.valleyFault(3, row("watcher w", " sees dark;", 4) + "flue ^wd;");
        Check.valleyFault(3, row("sign s", " dark 0 to 1 sweet 0 to 1;", 6) + "flue ^sf;");
    }

    // Terms: 1 "can't stand there": words of a DAY, of an E, names, ahead of a line; a sign too many.
    private static void wordsThatCanNotStandThere() {
        String[] first = {"burn", "lend", "hour", "dark", "at", "to", "sees", "both", "not", "and", "or", "shade", "ann", "1", ";", "("};
        for (int i = 0; i < first.length; i++) {
            Check.valleyFault(1, "^" + first[i]);
            Check.valleyFault(1, FUEL + HOUSE + "^" + first[i] + ";");
        }
        Check.valleyFault(1, "flue u;^;");
        Check.valleyFault(1, "flue ^;");
        Check.valleyFault(1, "flue u ^flue v;");
    }

    // Terms: "of the first token from the left that is wrong": whatever kind one farther right has.
    private static void firstFromTheLeft() {
        Check.valleyFault(5, row("flue u", ";", 3) + "^flue 1 #");
        Check.valleyFault(4, "winds ^10 #");
        Check.valleyFault(3, "flue u;flue ^u #");
        Check.valleyFault(2, "house h at ^u #");
        Check.valleyFault(1, "flue ^1;flue a;flue a;");
        Check.valleyFault(4, "fuel f dark ^100 sweet 100 burns 0;");
        Check.valleyFault(4, "fuel f dark 1 sweet ^100 burns 0 #");
    }

    // Terms: ".. that is wrong the least": of a token that is wrong in two ways the least kind.
    private static void theLeastOfAToken() {
        // A thirteenth NUMBER of winds that is beyond 9 as well; one that is no NUMBER, that is none.
        Check.valleyFault(4, "winds 1 2 3 4 5 6 7 8 9 8 7 6 ^10;");
        Check.valleyFault(1, "winds 1 2 3 4 5 6 7 8 9 8 7 6 ^a;");
        Check.valleyFault(1, "winds 1 2 3 4 5 6 7 8 9 8 7 6 ^12345;");
        // Within five others, but can't stand there at all.
        Check.valleyFault(1, "gives (((((^)))));");
        Check.valleyFault(5, "gives (((((^1)))));");
    }

    // Terms: "the end being one at the text's length", blanks behind the last token counted.
    private static void theEnd() {
        Check.valleyFault(1, "flue^");
        Check.valleyFault(1, "flue u^");
        Check.valleyFault(1, "flue u  \n ^");
        Check.valleyFault(1, "winds 1^");
        Check.valleyFault(1, "gives 1+^");
        Check.valleyFault(1, "gives (1^");
        Check.valleyFault(1, "sign s dark 0 to 1 sweet 0 to ^");
        Check.in("flue u;  \n ");
    }

    // Promise 3: "its FAULT (all stays then)", also what the text told before its fault.
    private static void aFaultLeavesAll() {
        OneSmoke x = Check.in(FUEL + HOUSE + "house bob at big;stock ann oak 9;sign s dark 0 to 9 sweet 0 to 9;watcher w sees both;"
            + "winds 3 4;gives shade+1;soots 5;");
        x.burn(0, 0);
        x.hour();
        x.read(0, 0, 0);
        Check.day(x, "hour;hour;");
        x.mark(1, false);
        int[] due = {1, 1, 2, 1, 1, 1, 4, 1, 8, 5, 2, 1, 2, 0};
        String fresh = "fuel a dark 9 sweet 9 burns 9;fuel b dark 9 sweet 9 burns 9;flue c;flue d;house e at d;stock e b 3;"
            + "sign f dark 5 to 5 sweet 5 to 5;sign g dark 5 to 5 sweet 5 to 5;watcher h sees dark;winds 8;gives 50;soots 60;";
        Check.due("a fault at the end", Check.valley(x, fresh + "hour;"), 1 + 16 * fresh.length());
        for (int what = 0; what < due.length; what++) {
            Check.due("behind a fault: count " + what, x.count(what), due[what]);
        }
        Check.due("behind a fault: gives", x.flue(0, 0), 2);
        Check.due("behind a fault: sign", x.flue(0, 2), 0);
        Check.due("behind a fault: its line", Check.day(x, "burn ann oak;"), 0);
        Check.due("behind a fault: mark", x.mark(1, true), true);
        x.hour();
        Check.due("behind a fault: soots", x.flue(0, 3), 10);
        Check.due("behind a fault: undo", x.undo(), true);
    }

    // Terms: "Without a FAULT .. hour 0, stocks as told, no fires, no soot, no DAY, nothing READ, nothing can be undone, no MARK".
    private static void aValleyEndsAll() {
        String text = FUEL + HOUSE + "stock ann oak 9;watcher w sees both;winds 3 4;gives 50;soots 60;";
        OneSmoke x = Check.in(text);
        x.burn(0, 0);
        x.hour();
        x.read(0, 0, NONE);
        Check.day(x, "hour;hour;");
        for (int mark = 0; mark < 4; mark++) {
            x.mark(mark, false);
        }
        Check.due("the same valley anew", Check.valley(x, text), 0);
        int[] due = {1, 1, 1, 0, 1, 0, 3, 0, 9, 0, 0, 0, 0, 0};
        for (int what = 0; what < due.length; what++) {
            Check.due("anew: count " + what, x.count(what), due[what]);
        }
        Check.due("anew: no fire", x.house(0, 1), NONE);
        Check.due("anew: no hours", x.house(0, 2), 0);
        Check.due("anew: undo", x.undo(), false);
        for (int mark = 0; mark < 4; mark++) {
            Check.due("anew: mark " + mark, x.mark(mark, true), false);
        }
        // Nor do laws, winds, stocks told to the one before come over to the next.
        Check.due("another", Check.valley(x, FUEL + HOUSE), 0);
        Check.due("another: stock", x.house(0, 3), 0);
        Check.due("another: wind", x.count(6), 0);
        Check.due("another: watchers", x.count(4), 0);
        x.hour();
        Check.due("another: soot", x.count(9), 0);
        Check.due("another with a stock", Check.valley(x, FUEL + HOUSE + "stock ann oak 1;"), 0);
        x.burn(0, 0);
        Check.due("another: dark", x.flue(0, 0), 1);
    }
}
