/** What README.md shows, with what each call answers there. */
public final class ExampleTest {
    private static final String VALLEY = "fuel oak dark 20 sweet 2 burns 3;\n"
        + "fuel willow dark 50 sweet 9 burns 1;\n"
        + "flue big;\n"
        + "house ann at big; house bob at big;\n"
        + "stock ann oak 3; stock bob oak 1; stock bob willow 2;\n"
        + "sign supper dark 10 to 30 sweet 0 to 5;\n"
        + "sign defiance dark 40 to 999 sweet 5 to 99;\n"
        + "watcher priest sees sweet; watcher spy sees both;\n"
        + "winds 0 2;\n"
        + "gives shade * (1 - smelt) + scent * smelt + wind;\n";

    public static void main(String[] args) {
        OneSmoke x = new OneSmoke();
        Check.due("the tape", Check.feed(x, VALLEY), VALLEY.length());
        Check.due("valley", x.valley(), 0);
        byHand(x);
        asked(x);
        aDay(x);
        aFault(x);
        Check.end("ExampleTest");
    }

    private static void byHand(OneSmoke x) {
        Check.due("ann burns oak", x.burn(0, 0), true);
        Check.due("dark", x.flue(0, 0), 20);
        Check.due("supper", x.flue(0, 2), 0);
        Check.due("lend", x.lend(0, 1, 0, 1), 2);
        Check.due("hour", x.hour(), 0);
        Check.due("soot", x.flue(0, 3), 20);
        Check.due("undo", x.undo(), true);
        Check.due("hour of now", x.count(5), 0);
    }

    private static void asked(OneSmoke x) {
        Check.due("spell", x.spell(0, 1, -2, OneSmoke.NONE), 1);
        Check.due("what bob burns", x.spell(0, 1, -2, 1), 1);
        Check.due("ways", x.ways(OneSmoke.NONE), 3);
        Check.due("whom to ask", x.ask(), 0);
        Check.due("read", x.read(1, 0, 1), true);
        Check.due("ways by what was read", x.ways(OneSmoke.NONE), 1);
        Check.due("bob by all", x.ways(1), 1);
        Check.due("a rest", Check.rests(x, 0, 1, 0, 0, 5, 0), Check.THROWN);
    }

    private static void aDay(OneSmoke x) {
        Check.due("day", Check.day(x, "burn ann oak; hour; burn ann oak; hour;"), 0);
        Check.due("the first line that can't be", x.judged(0), 2);
        Check.due("signs", x.judged(1), 2);
        Check.due("soot", x.judged(2), 42);
    }

    private static void aFault(OneSmoke x) {
        Check.due("fault", Check.valley(x, "flue big; house ann at low;"), 2 + 16 * 23);
        Check.due("all stays", x.count(2), 2);
    }
}
