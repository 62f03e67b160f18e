/** Promises 2 to 4: the tape, and what of a valley or a day is a fault, at which token and of which kind. */
public final class LanguageOfValleysTest {
    private static final String FUEL = "fuel a dark 1 sweet 2 burns 3;";
    private static final String BASE = "fuel oak dark 20 sweet 2 burns 3;fuel ham dark 5 sweet 30 burns 2;flue big;flue tin;"
        + "house ann at big;house bob at tin;";

    public static void main(String[] args) {
        feeding();
        tokens();
        ends();
        lines();
        names();
        numbers();
        tooMany();
        laws();
        days();
        whatStays();
        cuts();
        Check.end("LanguageOfValleysTest");
    }

    private static void feeding() {
        OneSmoke x = new OneSmoke();
        Check.due("nothing fed", x.feed(0, 0, 0), 0);
        Check.due("signs left out", x.feed(0x0A_09_0D_1F_20_7E_7F_80L, 0xFF_41_00_00_00_00_00_0BL, -1L), 4);
        Check.due("tape", x.count(13), 4);
        Check.due("behind the tape", x.feed(0x6161616161616161L, 0, 0x62L), 13);
        // The order of the bytes shows in the place of the first sign that is no token.
        OneSmoke y = new OneSmoke();
        Check.due("fed", y.feed(Check.eight("        ", 0), Check.eight("\n\n fuel ", 0), Check.eight("#", 0)), 17);
        Check.due("order of bytes", y.valley(), 1 + 16 * 16);
        Check.due("taken", y.count(13), 0);
        OneSmoke z = new OneSmoke();
        for (int i = 1; i <= 41; i++) {
            z.feed(0x2020202020202020L, 0x2020202020202020L, 0x2020202020202020L);
        }
        Check.due("984 signs", z.count(13), 984);
        Check.due("beyond 1,000", z.feed(0x2020202020202020L, 0x2020202020202066L, 0x2020202020202020L), 1000);
        Check.due("full", z.feed(0x20L, 0, 0), 1000);
        Check.due("the last sign is there", z.valley(), 1 + 16 * 999);
        Check.due("anew", z.feed(0x20L, 0, 0), 1);
    }

    private static void tokens() {
        Check.in("");
        Check.in(" \n \n");
        Check.in("fuel\na\ndark 1sweet 2burns 3;flue b;");
        Check.in("fuel a dark1sweet2burns3;flue b;house c at b;winds 1 2 3;");
        Check.in("fuel abcdefgh dark 0001 sweet 0099 burns 0009 ;");
        Check.valleyFault(1, "fuel ^abcdefghi dark 1 sweet 2 burns 3;");
        Check.valleyFault(1, "fuel a dark ^00001 sweet 2 burns 3;");
        Check.valleyFault(1, "^#");
        Check.valleyFault(1, "   ^Fuel a");
        Check.valleyFault(1, "fuel ^B dark 1 sweet 2 burns 3;");
        Check.valleyFault(1, "fuel a^B dark 1 sweet 2 burns 3;");
        Check.valleyFault(1, "fuel a ^2dark");
        Check.valleyFault(1, "flue a^.");
        Check.valleyFault(1, "flue a^~;");
        Check.valleyFault(1, "gives 1 ^> 2;");
        Check.valleyFault(1, "gives 1 ^/ 2;");
        Check.valleyFault(1, "^fuelabcde a");
        Check.valleyFault(1, "flue a;^;");
        Check.valleyFault(1, "flue a^,flue b;");
    }

    private static void ends() {
        Check.valleyFault(1, "fuel^");
        Check.valleyFault(1, "flue a  \n^");
        Check.valleyFault(1, "flue a;fuel b dark^");
        Check.valleyFault(1, "winds 1 2^");
        Check.valleyFault(1, "gives (1^");
        Check.valleyFault(1, "soots 1+ ^");
        OneSmoke x = Check.in(BASE);
        Check.dayFault(x, 1, "hour^");
        Check.dayFault(x, 1, "burn^");
        Check.dayFault(x, 1, "burn ann oak ^");
        Check.dayFault(x, 1, "lend ann bob oak^");
    }

    private static void lines() {
        String[] wrong = {
            "^ann;", "^1;", "^dark;", "^burn a b;", "^hour;", "^;", "^(",
            "fuel ^;", "fuel ^1 dark", "fuel a ^sweet", "fuel a dark ^a", "fuel a dark 1 ^burns", "fuel a dark 1 sweet ^;",
            "fuel a dark 1 sweet 2 ^;", "fuel a dark 1 sweet 2 burns ^;", "fuel a dark 1 sweet 2 burns 3 ^flue",
            "flue a ^at", "flue ^;", "flue f;house a ^f;", "flue f;house a at ^;", "flue f;house a at f ^1;",
            "stock ^1", "stock ^;", FUEL + "flue f;house h at f;stock h ^1", FUEL + "flue f;house h at f;stock h a ^;",
            FUEL + "flue f;house h at f;stock h a 1 ^1", "sign a ^sweet", "sign a dark 1 ^1", "sign a dark 1 ^;",
            "sign a dark 1 to ^to", "sign a dark 1 to 2 ^to", "sign a dark 1 to 2 sweet 1 to 2 ^flue",
            "watcher a ^dark", "watcher a sees ^;", "watcher a sees ^red;", "watcher a sees ^shade;", "watcher a sees dark ^both;",
            "winds ^;", "winds ^dark;", "winds 1 ^dark;", "winds 1 ^- 2;", "gives ^;", "soots ^;",
        };
        for (int i = 0; i < wrong.length; i++) {
            Check.valleyFault(1, wrong[i]);
        }
    }

    private static void names() {
        String[] kept = {"fuel", "dark", "sweet", "burns", "flue", "house", "at", "stock", "sign", "to", "watcher", "sees",
            "both", "winds", "gives", "soots", "burn", "lend", "hour", "not", "and", "or"};
        for (int i = 0; i < kept.length; i++) {
            Check.valleyFault(1, "flue ^" + kept[i] + ";");
            Check.in("flue " + kept[i].charAt(0) + ";");
        }
        Check.in("flue shade;flue scent;flue wind;sign left dark 1 to 2 sweet 1 to 2;watcher smelt sees both;gives shade;");
        Check.in("watcher red sees both;sign seesa dark 0 to 0 sweet 0 to 0;");
        Check.valleyFault(2, "house a at ^b;");
        Check.valleyFault(2, "flue f;house a at f;house b at ^a;");
        Check.valleyFault(2, "flue f;house a at ^a;");
        Check.valleyFault(2, "house a at ^b;flue b;");
        Check.valleyFault(2, "stock ^a b 1;");
        Check.valleyFault(2, FUEL + "stock ^a a 1;");
        Check.valleyFault(2, FUEL + "flue f;house h at f;stock h ^h 1;");
        Check.valleyFault(2, FUEL + "flue f;house h at f;stock ^f a 1;");
        Check.valleyFault(1, "flue f;house a at ^at;");
        Check.valleyFault(1, "stock ^fuel b 1;");
        String[] told = {FUEL, "flue a;", "flue f;house a at f;", "sign a dark 0 to 1 sweet 0 to 1;", "watcher a sees both;"};
        String[] again = {"fuel ^a dark", "flue ^a;", "house ^a at", "sign ^a dark", "watcher ^a sees"};
        for (int i = 0; i < told.length; i++) {
            for (int j = 0; j < again.length; j++) {
                Check.valleyFault(3, told[i] + again[j]);
            }
        }
        Check.in(FUEL + "flue f;house h at f;house g at f;stock h a 0;stock g a 1;");
        Check.valleyFault(3, FUEL + "flue f;house h at f;stock h a 0;stock h ^a 1;");
        Check.valleyFault(3, "winds 1;^winds 1;");
        Check.valleyFault(3, "gives 0;flue a;^gives");
        Check.valleyFault(3, "soots 0;^soots #");
        Check.in("soots 0;gives 1;winds 0;");
    }

    private static void numbers() {
        Check.in("fuel a dark 0 sweet 0 burns 1;fuel b dark 99 sweet 99 burns 9;");
        Check.valleyFault(4, "fuel a dark ^100 sweet 1 burns 1;");
        Check.valleyFault(4, "fuel a dark 1 sweet ^100 burns 1;");
        Check.valleyFault(4, "fuel a dark 1 sweet 1 burns ^0;");
        Check.valleyFault(4, "fuel a dark 1 sweet 1 burns ^10;");
        Check.in(FUEL + "flue f;house h at f;stock h a 99;");
        Check.valleyFault(4, FUEL + "flue f;house h at f;stock h a ^100;");
        Check.in("sign a dark 0 to 999 sweet 999 to 999;sign b dark 7 to 7 sweet 0 to 0;");
        Check.valleyFault(4, "sign a dark ^1000 to 1000");
        Check.valleyFault(4, "sign a dark 0 to ^1000");
        Check.valleyFault(4, "sign a dark 5 to ^4");
        Check.valleyFault(4, "sign a dark 5 to 5 sweet ^1000");
        Check.valleyFault(4, "sign a dark 5 to 5 sweet 9 to ^8");
        Check.valleyFault(4, "sign a dark 5 to 5 sweet 9 to ^9999");
        Check.in("winds 0 1 2 3 4 5 6 7 8 9 0 1;");
        Check.valleyFault(4, "winds ^10;");
        Check.valleyFault(4, "winds 1 ^10;");
    }

    private static void tooMany() {
        StringBuilder fuels = new StringBuilder();
        StringBuilder signs = new StringBuilder();
        for (int i = 0; i < 6; i++) {
            String name = "" + (char) ('a' + i);
            if (i < 5) {
                fuels.append("fuel f").append(name).append(" dark 1 sweet 2 burns 3;");
            }
            signs.append("sign s").append(name).append(" dark 1 to 2 sweet 3 to 4;");
        }
        Check.in(fuels.toString());
        Check.valleyFault(5, fuels + "^fuel fa");
        Check.in(signs.toString());
        Check.valleyFault(5, signs + "^sign");
        Check.in("flue a;flue b;flue c;");
        Check.valleyFault(5, "flue a;flue b;flue c;^flue a;");
        String houses = "flue a;house b at a;house c at a;house d at a;house e at a;";
        Check.in(houses);
        Check.valleyFault(5, houses + "^house f at a;");
        String watchers = "watcher a sees dark;watcher b sees dark;watcher c sees sweet;watcher d sees both;";
        Check.in(watchers);
        Check.valleyFault(5, watchers + " ^watcher");
        Check.valleyFault(5, "winds 0 1 2 3 4 5 6 7 8 9 0 1 ^2;");
        Check.valleyFault(5, "winds 0 1 2 3 4 5 6 7 8 9 0 1 ^9;");
        // Out of range, too: of one token the least kind.
        Check.valleyFault(4, "winds 0 1 2 3 4 5 6 7 8 9 0 1 ^10;");
        Check.valleyFault(1, "winds 0 1 2 3 4 5 6 7 8 9 0 1 ^a;");
        Check.valleyFault(1, "winds 0 1 2 3 4 5 6 7 8 9 0 1 ^12345;");
    }

    private static void laws() {
        Check.in("gives not shade*2+scent-wind<left+0 or 1;");
        Check.in("gives 9999;soots shade and scent or wind and 1;");
        Check.in("gives ((((left))));soots not not not not 1;");
        Check.in("soots not(not(1))+((2));");
        Check.in("gives (((( 1+2*3 < 4 and 5 ))))*((((smelt))));");
        Check.valleyFault(5, "gives (((((^1)))));");
        Check.valleyFault(5, "gives (((((^left)))));");
        Check.valleyFault(5, "gives (((((^(");
        Check.valleyFault(5, "gives (((((^not");
        Check.valleyFault(5, "gives not not not not not ^1;");
        Check.valleyFault(5, "gives not not not not not ^not 1;");
        Check.valleyFault(5, "gives (not(not(^1))));");
        Check.valleyFault(5, "gives 1+(not(not(^(1))));");
        Check.in("gives (not(not 1))+(not(not 1));");
        Check.valleyFault(1, "gives (((((^)");
        Check.valleyFault(1, "gives (((((^;");
        Check.valleyFault(1, "gives (((((^foo");
        Check.valleyFault(1, "soots (((((^left");
        Check.valleyFault(1, "gives (((((^");
        Check.valleyFault(1, "soots (((((^12345");
        Check.valleyFault(1, "soots ^left;");
        Check.valleyFault(1, "soots 1+^smelt;");
        Check.valleyFault(1, "gives ^dark;");
        Check.valleyFault(1, "gives ^-1;");
        Check.valleyFault(1, "gives 1 < 2 ^< 3;");
        Check.valleyFault(1, "gives 1 = 2 ^< 3;");
        Check.valleyFault(1, "gives 1 = 2 ^= 3;");
        Check.valleyFault(1, "gives 1 <^= 3;");
        Check.valleyFault(1, "gives 1 ^not 3;");
        Check.valleyFault(1, "gives 1 ^2;");
        Check.valleyFault(1, "gives (^);");
        Check.valleyFault(1, "gives (1^;");
        Check.valleyFault(1, "gives 1^);");
        Check.valleyFault(1, "gives 1 and ^or 1;");
        Check.valleyFault(1, "gives 1 and^;");
        Check.valleyFault(1, "gives not ^;");
        Check.valleyFault(1, "gives 1*^*2;");
        Check.in("gives not 1 < 2 and (1 = 1) or 2 = 3;");
        Check.in("gives 1 and not 1 or not 2;");
    }

    private static void days() {
        OneSmoke x = Check.in(BASE);
        Check.due("a day", Check.day(x, "burn ann oak;lend ann bob ham 1;lend bob ann oak 99;\nhour;"), 0);
        Check.due("its lines", x.count(10), 4);
        Check.dayFault(x, 1, "^ann");
        Check.dayFault(x, 1, "^fuel a");
        Check.dayFault(x, 1, "^;");
        Check.dayFault(x, 1, "hour ^1;");
        Check.dayFault(x, 1, "hour;^1;");
        Check.dayFault(x, 1, "burn ^1 oak;");
        Check.dayFault(x, 1, "burn ann ^;");
        Check.dayFault(x, 1, "burn ann oak ^1;");
        Check.dayFault(x, 1, "lend ann bob oak ^;");
        Check.dayFault(x, 1, "lend ann bob oak 1 ^hour;");
        Check.dayFault(x, 1, "lend ann ^to");
        Check.dayFault(x, 2, "burn ^oak ann;");
        Check.dayFault(x, 2, "burn ann ^bob;");
        Check.dayFault(x, 2, "burn ^cat oak;");
        Check.dayFault(x, 2, "burn ^big oak;");
        Check.dayFault(x, 2, "lend ^x y z 1;");
        Check.dayFault(x, 2, "lend ann ^oak oak 1;");
        Check.dayFault(x, 2, "lend ann bob ^ash 1;");
        Check.dayFault(x, 3, "lend ann ^ann oak 1;");
        Check.dayFault(x, 4, "lend ann bob oak ^0;");
        Check.dayFault(x, 4, "lend ann bob oak ^100;");
        Check.due("the day that was", x.count(10), 4);
        String forty = "hour;".repeat(40);
        Check.due("40 lines", Check.day(x, forty), 0);
        Check.due("its lines", x.count(10), 40);
        Check.dayFault(x, 5, forty + "^hour;");
        Check.dayFault(x, 5, forty + " ^burn x");
        Check.dayFault(x, 5, forty + "\n^lend");
        Check.dayFault(x, 1, forty + "^wait;");
        Check.dayFault(x, 1, forty + "^;");
        Check.due("no lines", Check.day(x, " "), 0);
        Check.due("its lines", x.count(10), 0);
    }

    private static void whatStays() {
        OneSmoke x = Check.in(BASE + "stock ann oak 5;sign s dark 0 to 9 sweet 0 to 9;watcher w sees both;winds 1 2;soots 3;");
        x.burn(0, 0);
        x.hour();
        x.read(0, 0, 0);
        Check.day(x, "hour;");
        x.mark(2, false);
        int[] before = counts(x);
        Check.due("a fault", Check.valley(x, "flue a;flue "), 1 + 16 * 12);
        Check.due("a fault", Check.valley(x, "flue z;winds 1;winds"), 3 + 16 * 15);
        int[] then = counts(x);
        for (int i = 0; i < before.length; i++) {
            Check.due("count " + i + " behind a fault", then[i], before[i]);
        }
        Check.due("undone behind a fault", x.undo(), true);
        Check.due("mark behind a fault", x.mark(2, true), true);
        Check.due("a day of the old names", Check.day(x, "burn ann oak;"), 0);
        Check.due("a new valley", Check.valley(x, "flue z;house ann at z;"), 0);
        int[] due = {0, 1, 1, 0, 0, 0, 0, 0, 0, 0, 0, 0, 0, 0};
        int[] fresh = counts(x);
        for (int i = 0; i < due.length; i++) {
            Check.due("count " + i + " of the new valley", fresh[i], due[i]);
        }
        Check.due("no mark", x.mark(2, true), false);
        Check.due("nothing undone", x.undo(), false);
        Check.due("soot", x.flue(0, 3), 0);
        Check.due("old fire", x.house(0, 1), OneSmoke.NONE);
        x.hour();
        Check.due("old soots", x.flue(0, 3), 0);
        Check.due("old winds", x.count(6), 0);
    }

    private static int[] counts(OneSmoke x) {
        int[] all = new int[14];
        for (int i = 0; i < 14; i++) {
            all[i] = x.count(i);
        }
        return all;
    }

    /** A valley cut short anywhere, or with a strange sign put in anywhere, has its fault there. */
    private static void cuts() {
        String[] tokens = ("fuel oak dark 20 sweet 2 burns 3 ; flue big ; house ann at big ; stock ann oak 3 ; "
            + "sign s dark 0 to 30 sweet 20 to 60 ; watcher eve sees dark ; winds 0 4 ; "
            + "gives not ( shade + 2 * scent ) - left < wind and smelt or 1 ; soots shade + scent = wind ;").split(" ");
        StringBuilder text = new StringBuilder();
        boolean atEnd = true;
        for (int i = 0; i < tokens.length; i++) {
            OneSmoke x = new OneSmoke();
            Check.due("cut: " + text, Check.valley(x, text.toString()), atEnd ? 0 : 1 + 16 * text.length());
            Check.due("strange: " + text, Check.valley(x, text + "? " + tokens[i]), 1 + 16 * text.length());
            Check.due("sign twice: " + text, Check.valley(x, text + "; ;"), 1 + 16 * (text.length() + (canEnd(tokens, i) ? 2 : 0)));
            text.append(tokens[i]).append(' ');
            atEnd = tokens[i].equals(";");
        }
        Check.in(text.toString());
    }

    private static boolean canEnd(String[] tokens, int i) {
        if (tokens[i].equals(";")) {
            return true;
        }
        String last = i > 0 ? tokens[i - 1] : "";
        boolean law = false;
        boolean within = false;
        boolean winds = false;
        for (int j = 0; j < i; j++) {
            law = tokens[j].equals("gives") || tokens[j].equals("soots") || law && !tokens[j].equals(";");
            winds = tokens[j].equals("winds") || winds && !tokens[j].equals(";");
            within = tokens[j].equals("(") || within && !tokens[j].equals(")");
        }
        boolean value = last.matches("[0-9]+|shade|scent|left|wind|smelt|\\)");
        return law && !within && value || winds && value;
    }
}
