/** Promise 2 and the TOKENS: the edges of the TAPE, of its signs, of WORDS and of NUMBERS. */
public final class TapeEdgesTest {
    private static final String BLANKS = " ".repeat(24);

    public static void main(String[] args) {
        signsThatCount();
        allBytesCount();
        highestFirst();
        behindTheTape();
        aThousand();
        beyondAThousand();
        leftOutTakesNoRoom();
        nothingFed();
        readingTakesIt();
        placesOnAFullTape();
        words();
        letters();
        numbers();
        digits();
        behindANumber();
        behindAWord();
        blanks();
        otherSigns();
        Check.end("TapeEdgesTest");
    }

    /** An object whose tape has so many blanks. */
    private static OneSmoke withBlanks(int many) {
        OneSmoke x = new OneSmoke();
        Check.feed(x, " ".repeat(many));
        Check.due("blanks fed", x.count(13), many);
        return x;
    }

    private static int feed(OneSmoke x, String signs) {
        return x.feed(Check.eight(signs, 0), Check.eight(signs, 8), Check.eight(signs, 16));
    }

    // Promise 2: "others than 10 and 32 .. 126 .. are left out".
    private static void signsThatCount() {
        for (int sign = 0; sign <= 255; sign++) {
            boolean counts = sign == 10 || sign >= 32 && sign <= 126;
            Check.due("sign " + sign + " in a", new OneSmoke().feed((long) sign << 56, 0, 0), counts ? 1 : 0);
            Check.due("sign " + sign + " in b", new OneSmoke().feed(0, (long) sign << 24, 0), counts ? 1 : 0);
            Check.due("sign " + sign + " in c", new OneSmoke().feed(0, 0, sign), counts ? 1 : 0);
        }
    }

    // Promise 2: "Up to 24 signs come": each of the 24 bytes, and all of them.
    private static void allBytesCount() {
        for (int at = 0; at < 24; at++) {
            String one = "\0".repeat(at) + "x" + "\0".repeat(23 - at);
            Check.due("byte " + at, feed(new OneSmoke(), one), 1);
            String others = "x".repeat(at) + "\0" + "x".repeat(23 - at);
            Check.due("all but byte " + at, feed(new OneSmoke(), others), 23);
        }
        Check.due("all 24", feed(new OneSmoke(), "x".repeat(24)), 24);
    }

    // Promise 2: "the bytes of a, b, c, of each the highest first": the place of a fault tells where a sign came to stand.
    private static void highestFirst() {
        for (int at = 0; at < 24; at++) {
            OneSmoke x = new OneSmoke();
            feed(x, " ".repeat(at) + "#" + " ".repeat(23 - at));
            Check.due("byte " + at + " is sign " + at, x.valley(), 1 + 16 * at);
        }
    }

    // Promise 2: "come behind the TAPE"; "how many there are": all of them, not the new ones alone.
    private static void behindTheTape() {
        OneSmoke x = new OneSmoke();
        Check.due("a first feed", feed(x, BLANKS), 24);
        Check.due("a second", feed(x, "  #"), 27);
        Check.due("count 13 is the same", x.count(13), 27);
        Check.due("it stands behind the first", x.valley(), 1 + 16 * 26);
    }

    // Terms: "The TAPE has at most 1,000 signs".
    private static void aThousand() {
        OneSmoke x = withBlanks(998);
        Check.due("998 and one", feed(x, " "), 999);
        Check.due("999 and one", feed(x, " "), 1000);
        Check.due("1,000 and one", feed(x, " "), 1000);
        Check.due("1,000 and 24", feed(x, BLANKS), 1000);
        Check.due("count 13", x.count(13), 1000);
        Check.due("999 and two", feed(withBlanks(999), "  "), 1000);
    }

    // Promise 2: "what is beyond 1,000, are left out": of a feed the first ones stay, the last ones go.
    private static void beyondAThousand() {
        OneSmoke x = withBlanks(984);
        Check.due("16 of 24", feed(x, " ".repeat(15) + "#" + " ".repeat(8)), 1000);
        Check.due("the 1,000th is there", x.valley(), 1 + 16 * 999);
        OneSmoke y = withBlanks(984);
        Check.due("16 of 24", feed(y, " ".repeat(16) + "#" + " ".repeat(7)), 1000);
        Check.due("the 1,001st is not", y.valley(), 0);
    }

    // Promise 2: signs that are left out take no room.
    private static void leftOutTakesNoRoom() {
        OneSmoke x = withBlanks(999);
        Check.due("the last byte alone", feed(x, "\t".repeat(23) + "#"), 1000);
        Check.due("it is the 1,000th", x.valley(), 1 + 16 * 999);
        OneSmoke y = new OneSmoke();
        Check.due("three of six", feed(y, "\t \t \t#"), 3);
        Check.due("places without them", y.valley(), 1 + 16 * 2);
    }

    // Promise 2: "how many there are", also if none comes.
    private static void nothingFed() {
        OneSmoke x = withBlanks(7);
        Check.due("zeros", x.feed(0, 0, 0), 7);
        Check.due("bytes of -1", x.feed(-1, -1, -1), 7);
        Check.due("of a full one", withBlanks(1000).feed(0, 0, 0), 1000);
    }

    // Terms: "what reads it takes it: it is empty then", with and without a FAULT, as a VALLEY and as a DAY.
    private static void readingTakesIt() {
        OneSmoke x = new OneSmoke();
        Check.due("a valley", Check.valley(x, "flue f;"), 0);
        Check.due("taken", x.count(13), 0);
        Check.due("a valley's fault", Check.valley(x, "flue f;flue"), 1 + 16 * 11);
        Check.due("taken", x.count(13), 0);
        Check.due("a day", Check.day(x, "hour;"), 0);
        Check.due("taken", x.count(13), 0);
        Check.due("a day's fault", Check.day(x, "hour;hour"), 1 + 16 * 9);
        Check.due("taken", x.count(13), 0);
        Check.due("fed anew", feed(x, " #"), 2);
        Check.due("from place 0 on", x.valley(), 1 + 16);
        Check.feed(x, "x".repeat(1000));
        x.day();
        Check.due("a full one is empty then", feed(x, "x"), 1);
    }

    // Terms: "the end being one at the text's length", also of the longest text.
    private static void placesOnAFullTape() {
        OneSmoke x = new OneSmoke();
        Check.due("a line that ends at 1,000", Check.valley(x, " ".repeat(993) + "flue f;"), 0);
        Check.due("it was told", x.count(1), 1);
        Check.due("a line cut at 1,000", Check.valley(x, " ".repeat(994) + "flue f;"), 1 + 16 * 1000);
        Check.due("the text before stays", x.count(1), 1);
    }

    // Terms: "WORDS (letters a .. z, 8 at most)", "a longer WORD .. at its first sign" is none.
    private static void words() {
        Check.in("flue a;");
        Check.in("flue abcdefgh;");
        Check.valleyFault(1, "flue ^abcdefghi;");
        Check.valleyFault(1, "flue  ^" + "a".repeat(900) + ";");
        Check.valleyFault(1, "^flueflueflue");
        Check.valleyFault(1, "gives ^shadeshade;");
        // Eight and nine letters, alike in the first eight.
        Check.in("flue abcdefgh;flue abcdefgx;flue bbcdefgh;");
        Check.valleyFault(3, "flue abcdefgh;flue ^abcdefgh;");
        Check.valleyFault(1, "flue abcdefgh;flue ^abcdefghh;");
    }

    // Terms: "letters a .. z": the signs on both sides of a and of z, and capitals, are none.
    private static void letters() {
        Check.in("flue a;flue z;flue az;");
        Check.valleyFault(1, "flue ^`;");
        Check.valleyFault(1, "flue ^{;");
        Check.valleyFault(1, "flue ^A;");
        Check.valleyFault(1, "flue ^Z;");
        Check.valleyFault(1, "flue a^`;");
        Check.valleyFault(1, "flue z^{;");
        Check.valleyFault(1, "flue a^Z;");
    }

    // Terms: "NUMBERS (1 to 4 digits ..)", "a longer .. NUMBER .. at its first sign" is none.
    private static void numbers() {
        Check.in("winds 1;");
        Check.in("winds 0001;gives 9999;");
        Check.valleyFault(1, "winds ^00001;");
        Check.valleyFault(1, "gives ^99999;");
        Check.valleyFault(1, "gives ^10000;");
        Check.valleyFault(1, "gives 1+^12345*2;");
        Check.valleyFault(1, "winds 1 ^" + "1".repeat(900) + ";");
        // As long as can be: 4 digits are one NUMBER, a blank makes two of them.
        Check.valleyFault(4, "winds ^1234;");
        Check.in("winds 1 2 3 4;");
    }

    // Terms: digits are 0 to 9: the signs on both sides of them are none.
    private static void digits() {
        Check.in("winds 0;gives 0;");
        Check.in("winds 9;gives 9;");
        Check.valleyFault(1, "winds ^/;");
        Check.valleyFault(1, "winds ^:;");
        Check.valleyFault(1, "winds 0^/;");
        Check.valleyFault(1, "winds 9^:;");
    }

    // Terms: NUMBERS, "a letter may stand right behind"; TOKENS, "each as long as can be".
    private static void behindANumber() {
        Check.in("fuel a dark 1sweet 2burns 3;");
        Check.in("sign a dark 1to 2sweet 3to 4;");
        Check.in("gives 1and 2or 3;");
        Check.valleyFault(1, "fuel a dark 1^sweetburns 2;");
        Check.valleyFault(1, "fuel a dark ^12345sweet 2;");
        Check.valleyFault(1, "fuel a dark 1^a sweet 2;");
    }

    // Terms: TOKENS, "each as long as can be", blanks "where one likes": a digit right behind a WORD is the next TOKEN's.
    private static void behindAWord() {
        Check.in("winds1 2;");
        Check.in("fuel a dark1 sweet2 burns3;");
        Check.in("gives shade*2and1;");
        Check.valleyFault(1, "flue a^1;");
        Check.valleyFault(1, "winds^12345;");
    }

    // Terms: "blanks (10, 32) between where one likes".
    private static void blanks() {
        OneSmoke x = Check.in("flue f;house h at f;");
        OneSmoke y = Check.in("\n \nflue\nf\n;\n\nhouse   h\n at \nf ; ");
        Check.due("with blanks as without", y.flue(0, 4), x.flue(0, 4));
        Check.in("gives(shade+1)*2<3;");
        Check.in("gives ( shade + 1 ) * 2 < 3 ;");
        Check.valleyFault(1, "flue f ^u;");
        Check.valleyFault(1, "^flu e f;");
        Check.valleyFault(4, "winds ^10;");
        Check.in("winds 1 0;");
    }

    // Terms: "the signs ( ) < = + - * ;  All else .. is none", wherever something else could stand.
    private static void otherSigns() {
        for (char sign = 33; sign <= 126; sign++) {
            boolean token = "()<=+-*;".indexOf(sign) >= 0 || Character.isLetterOrDigit(sign) && !Character.isUpperCase(sign);
            // The test's own mark is looked at by itself.
            if (!token && sign != '^') {
                Check.valleyFault(1, "^" + sign);
                Check.valleyFault(1, "flue f;^" + sign);
                Check.valleyFault(1, "gives 1^" + sign + "2;");
                Check.valleyFault(1, "gives 1+^" + sign + ";");
            }
        }
        Check.due("sign ^", Check.valley(new OneSmoke(), "gives 1^2;"), 1 + 16 * 7);
    }
}
