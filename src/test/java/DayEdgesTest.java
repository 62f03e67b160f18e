/** Promises 4 and 11: the edges of a DAY, line by line, and of how it is JUDGED. */
public final class DayEdgesTest {
    private static final int NONE = OneSmoke.NONE;
    private static final String VALLEY = "fuel oak dark 20 sweet 2 burns 3;fuel ash dark 5 sweet 30 burns 1;flue big;flue tin;"
        + "house ann at big;house bob at big;house cat at tin;stock ann oak 2;stock bob ash 99;stock cat ash 3;"
        + "sign work dark 20 to 40 sweet 0 to 9;sign feast dark 5 to 5 sweet 30 to 30;watcher eve sees both;soots shade+1;";

    public static void main(String[] args) {
        anyNumberOfLines();
        fortyLines();
        aFortyFirstLine();
        burnOfThoseTold();
        lendOfThoseTold();
        lendToAnotherOne();
        lendNumbers();
        linesCutShort();
        wordsOfAValley();
        firstFromTheLeft();
        aFaultLeavesAll();
        aDayIsTheDayAlone();
        judgedWhat();
        judgedFromTheBeginning();
        aLineThatCanNotBe();
        theFirstLineThatCanNotBe();
        loansJudged();
        signsOfItsHours();
        sootOfAll();
        longestDay();
        Check.end("DayEdgesTest");
    }

    private static OneSmoke withDay(String day) {
        OneSmoke x = Check.in(VALLEY);
        Check.due("day " + day, Check.day(x, day), 0);
        return x;
    }

    private static void fault(int kind, String marked) {
        Check.dayFault(Check.in(VALLEY), kind, marked);
    }

    // Terms: "DAY: any number of".
    private static void anyNumberOfLines() {
        OneSmoke x = withDay("");
        Check.due("no line", x.count(10), 0);
        Check.due("blanks alone", Check.day(x, " \n "), 0);
        Check.due("a line", Check.day(x, "hour;"), 0);
        Check.due("one line", x.count(10), 1);
        Check.due("none again", Check.day(x, ""), 0);
        Check.due("no line", x.count(10), 0);
    }

    // Terms: "40 lines at most": 39, 40.
    private static void fortyLines() {
        Check.due("39 lines", withDay("hour;".repeat(39)).count(10), 39);
        Check.due("40 lines", withDay("hour;".repeat(40)).count(10), 40);
        Check.due("40 of all kinds", withDay("burn ann oak;".repeat(20) + "lend ann bob oak 1;".repeat(19) + "hour;").count(10), 40);
    }

    // Terms: 5 "the first word of a 41st line of a DAY": of each kind; 1 what could be no line's first word anyway.
    private static void aFortyFirstLine() {
        String forty = "hour;".repeat(40);
        fault(5, forty + "^hour;");
        fault(5, forty + "^burn ann oak;");
        fault(5, forty + "^lend ann bob oak 1;");
        fault(5, forty + " \n ^burn");
        fault(1, forty + "^fuel");
        fault(1, forty + "^;");
        fault(1, forty + "^#");
        fault(1, forty + "^ann");
        fault(5, "hour;".repeat(39) + "burn ann oak;^hour");
    }

    // Terms: burn "a HOUSE a FUEL"; 2 "of no HOUSE (behind .. burn ..), of no FUEL (the second of .. burn ..)".
    private static void burnOfThoseTold() {
        Check.due("a burn", withDay("burn cat oak;").count(10), 1);
        fault(2, "burn ^dan oak;");
        fault(2, "burn ^oak oak;");
        fault(2, "burn ^big oak;");
        fault(2, "burn ^work oak;");
        fault(2, "burn ann ^elm;");
        fault(2, "burn ann ^ann;");
        fault(2, "burn ann ^tin;");
        fault(2, "burn ann ^eve;");
    }

    // Terms: 2 "of no HOUSE (behind .. lend, the second of lend), of no FUEL (.. the third of lend)".
    private static void lendOfThoseTold() {
        Check.due("a loan", withDay("lend ann cat ash 1;").count(10), 1);
        fault(2, "lend ^dan ann oak 1;");
        fault(2, "lend ^tin ann oak 1;");
        fault(2, "lend ann ^dan oak 1;");
        fault(2, "lend ann ^oak oak 1;");
        fault(2, "lend ann bob ^elm 1;");
        fault(2, "lend ann bob ^cat 1;");
    }

    // Terms: lend "a HOUSE to another one"; 3 "the second HOUSE of lend that is the first one".
    private static void lendToAnotherOne() {
        fault(3, "lend ann ^ann oak 1;");
        fault(3, "lend cat ^cat oak 1;");
        fault(3, "lend ann ^ann elm 100;");
        fault(2, "lend ^dan dan oak 1;");
        Check.due("there and back", withDay("lend ann bob oak 1;lend bob ann oak 1;").judged(0), NONE);
    }

    // Terms: lend "of a FUEL 1 to 99"; 4.
    private static void lendNumbers() {
        Check.due("1", withDay("lend bob ann ash 1;").judged(0), NONE);
        Check.due("99", withDay("lend bob ann ash 99;").judged(0), NONE);
        fault(4, "lend bob ann ash ^0;");
        fault(4, "lend bob ann ash ^100;");
        fault(1, "lend bob ann ash ^00001;");
        fault(1, "lend bob ann ash ^;");
    }

    // Terms: "the end being one at the text's length", in each line of a DAY.
    private static void linesCutShort() {
        String[] lines = {"burn", "burn ann", "burn ann oak", "lend", "lend ann", "lend ann bob", "lend ann bob oak", "lend ann bob oak 1",
            "hour"};
        for (int i = 0; i < lines.length; i++) {
            fault(1, lines[i] + "^");
            fault(1, lines[i] + " \n ^");
            fault(1, lines[i] + " ^#");
            fault(1, "hour;" + lines[i] + "^");
        }
    }

    // Terms: 1 what "can't stand there": lines of a VALLEY, names, numbers.
    private static void wordsOfAValley() {
        String[] first = {"fuel", "flue", "house", "stock", "sign", "watcher", "winds", "gives", "soots", "ann", "1", ";", "not", "dark"};
        for (int i = 0; i < first.length; i++) {
            fault(1, "^" + first[i] + ";");
        }
        fault(1, "hour;^;");
        fault(1, "hour ^1;");
        fault(1, "burn ^hour oak;");
        fault(1, "burn ann ^1;");
        fault(1, "burn ann oak ^1;");
        fault(1, "lend ann ^to bob;");
    }

    // Terms: "the first token from the left that is wrong".
    private static void firstFromTheLeft() {
        fault(2, "burn ^dan elm;");
        fault(2, "hour;burn ann ^elm #");
        fault(3, "lend ann ^ann elm 0;");
        fault(4, "lend ann bob oak ^0 #");
        fault(1, "lend ann bob oak ^ann 0;");
    }

    // Promise 4: "likewise": its FAULT, all stays then: also the DAY that was.
    private static void aFaultLeavesAll() {
        OneSmoke x = withDay("burn ann oak;hour;");
        x.burn(1, 1);
        x.read(0, 0, 1);
        Check.dayFault(x, 5, "hour;".repeat(40) + "^hour;");
        Check.due("the lines that were", x.count(10), 2);
        Check.due("judged as it was", x.judged(2), 22);
        Check.due("a fire", x.count(7), 2);
        Check.due("read", x.count(11), 1);
        Check.due("undone", x.count(12), 1);
    }

    // Terms: "A DAY is the DAY": nothing else comes of it, not by being told nor by being judged.
    private static void aDayIsTheDayAlone() {
        OneSmoke x = Check.in(VALLEY);
        x.burn(2, 1);
        x.hour();
        x.read(0, 0, NONE);
        x.mark(0, false);
        Check.due("a day", Check.day(x, "burn ann oak;hour;lend bob cat ash 9;hour;"), 0);
        x.judged(0);
        int[] due = {2, 2, 3, 2, 1, 1, 0, 0, 103, 7, 4, 1, 2, 0};
        for (int what = 0; what < due.length; what++) {
            Check.due("count " + what, x.count(what), due[what]);
        }
        Check.due("another day", Check.day(x, "hour;"), 0);
        Check.due("its line alone", x.count(10), 1);
        Check.due("the mark's day", x.mark(0, true), true);
        Check.due("no line", x.count(10), 0);
    }

    // Promise 11: "what 0: the line, 1: SIGNS, 2: soot; -2: others".
    private static void judgedWhat() {
        OneSmoke x = withDay("hour;");
        int[] others = {-2, -1, 3, 4, Integer.MAX_VALUE, Integer.MIN_VALUE};
        for (int i = 0; i < others.length; i++) {
            Check.due("judged " + others[i], x.judged(others[i]), -2);
        }
        Check.due("judged 0", x.judged(0), NONE);
        Check.due("judged 1", x.judged(1), 0);
        Check.due("judged 2", x.judged(2), 2);
    }

    // Part 2: "JUDGED: the DAY from the beginning": not from how it is now.
    private static void judgedFromTheBeginning() {
        OneSmoke x = withDay("burn ann oak;hour;");
        x.burn(0, 0);
        x.hour();
        x.lend(0, 1, 0, 1);
        Check.due("it has oak then", x.judged(0), NONE);
        Check.due("soot of it alone", x.judged(2), 22);
        Check.due("and as it was", x.count(9), 22);
        Check.due("hours too", x.count(5), 1);
    }

    // Part 2: "(a line that can't be is left out)": the others go on as if it was not.
    private static void aLineThatCanNotBe() {
        OneSmoke x = withDay("burn bob oak;burn bob ash;hour;");
        Check.due("the line", x.judged(0), 0);
        Check.due("the other burns", x.judged(1), 1);
        Check.due("its soot", x.judged(2), 7);
        // A loan of more than there is leaves all there.
        OneSmoke y = withDay("lend ann bob oak 3;burn ann oak;hour;");
        Check.due("the loan", y.judged(0), 0);
        Check.due("burnt all the same", y.judged(2), 22);
    }

    // Part 2: "the first line (from 0) that can't be": of none, the first, the last, several.
    private static void theFirstLineThatCanNotBe() {
        Check.due("none", withDay("burn ann oak;hour;").judged(0), NONE);
        Check.due("the first", withDay("burn ann ash;hour;").judged(0), 0);
        Check.due("the last", withDay("hour;hour;burn ann ash;").judged(0), 2);
        Check.due("of two the first", withDay("hour;burn ann ash;hour;burn ann ash;").judged(0), 1);
        Check.due("the 40th", withDay("hour;".repeat(39) + "burn ann ash;").judged(0), 39);
        Check.due("a second fire", withDay("burn ann oak;burn ann oak;").judged(0), 1);
        Check.due("while it burns", withDay("burn ann oak;hour;hour;burn ann oak;").judged(0), 3);
        Check.due("when it is out", withDay("burn ann oak;hour;hour;hour;burn ann oak;").judged(0), NONE);
        Check.due("none is left", withDay("burn ann oak;hour;hour;hour;burn ann oak;hour;hour;hour;burn ann oak;").judged(0), 8);
    }

    // Part 2: LEND in a DAY: "that has so much"; "99 at most then; what is more is lost".
    private static void loansJudged() {
        Check.due("all it has", withDay("lend ann bob oak 2;").judged(0), NONE);
        Check.due("one more", withDay("lend ann bob oak 3;").judged(0), 0);
        Check.due("none of it", withDay("lend ann bob ash 1;").judged(0), 0);
        Check.due("what was lent", withDay("lend ann cat oak 1;burn cat oak;").judged(0), NONE);
        Check.due("lost", withDay("lend cat bob ash 3;lend bob cat ash 99;lend bob cat ash 1;").judged(0), 2);
        Check.due("of one with a fire", withDay("burn ann oak;lend ann bob oak 1;").judged(0), NONE);
    }

    // Part 2: "in how many of its hours, FLUE by FLUE, a SIGN was read": at each hour that goes by.
    private static void signsOfItsHours() {
        Check.due("no hour", withDay("burn ann oak;").judged(1), 0);
        Check.due("one", withDay("burn ann oak;hour;").judged(1), 1);
        Check.due("not behind the last hour", withDay("burn ann oak;hour;burn cat ash;").judged(1), 1);
        Check.due("as long as it burns", withDay("burn ann oak;hour;hour;hour;hour;").judged(1), 3);
        Check.due("two flues", withDay("burn ann oak;burn cat ash;hour;hour;").judged(1), 3);
        Check.due("a fire that comes too late", withDay("hour;burn ann oak;").judged(1), 0);
        OneSmoke x = Check.in("flue a;flue b;flue c;sign s dark 0 to 0 sweet 0 to 0;");
        Check.day(x, "hour;".repeat(40));
        Check.due("each hour of each flue", x.judged(1), 120);
    }

    // Part 2: "soot of all at last": of FLUES without HOUSES, too; 9,999 at most each.
    private static void sootOfAll() {
        Check.due("no hour", withDay("burn ann oak;").judged(2), 0);
        Check.due("of both flues", withDay("burn ann oak;burn cat ash;hour;").judged(2), 27);
        OneSmoke x = Check.in("flue a;flue b;flue c;soots 909;");
        Check.day(x, "hour;".repeat(11));
        Check.due("9,999 of each", x.judged(2), 29997);
        Check.day(x, "hour;".repeat(12));
        Check.due("and no more", x.judged(2), 29997);
        Check.day(x, "hour;".repeat(10));
        Check.due("below it", x.judged(2), 27270);
    }

    // Terms: of a DAY of 40 lines all are played, the last one, too.
    private static void longestDay() {
        OneSmoke x = withDay("hour;".repeat(38) + "burn ann oak;hour;");
        Check.due("the line", x.judged(0), NONE);
        Check.due("signs", x.judged(1), 1);
        Check.due("soot", x.judged(2), 39 * 2 + 20);
    }
}
