/**
 * Where nothing is there yet: promise 1, "OneSmoke(): Nothing", and what each promise answers then. Each test goes through
 * the three objects that have nothing: a new one, one that was told a valley of no lines, one whose valley had a fault.
 */
public final class NewObjectEdgesTest {
    private static final int NONE = OneSmoke.NONE;

    public static void main(String[] args) {
        for (int how = 0; how < 3; how++) {
            counts(how);
            feeds(how);
            readsValleys(how);
            readsDays(how);
            housesAndFlues(how);
            byHand(how);
            hoursGoOn(how);
            undone(how);
            judged(how);
            spell(how);
            sureAndHope(how);
            readWaysAsk(how);
            blurShareGiven(how);
            rests(how);
            years(how);
            marks(how);
        }
        constants();
        Check.end("NewObjectEdgesTest");
    }

    private static OneSmoke nothing(int how) {
        OneSmoke x = new OneSmoke();
        if (how == 1) {
            Check.due("a valley of no lines", x.valley(), 0);
        } else if (how == 2) {
            Check.due("a valley with a fault", Check.valley(x, "flue f;flue f;"), 3 + 16 * 12);
        }
        return x;
    }

    // Promise 24: counts of nothing. "winds: .. (one of 0)": the wind of hour 0 without any told is 0.
    private static void counts(int how) {
        OneSmoke x = nothing(how);
        for (int what = 0; what <= 13; what++) {
            Check.due("nothing " + how + ": count " + what, x.count(what), 0);
        }
    }

    // Promise 2: the TAPE is empty at first.
    private static void feeds(int how) {
        Check.due("nothing " + how + ": feed of nothing", nothing(how).feed(0, 0, 0), 0);
        Check.due("nothing " + how + ": feed of one", nothing(how).feed(0, 0, 32), 1);
    }

    // Promise 3: an empty TAPE is a VALLEY of no lines ("any number of").
    private static void readsValleys(int how) {
        OneSmoke x = nothing(how);
        Check.due("nothing " + how + ": valley", x.valley(), 0);
        Check.due("nothing " + how + ": valley again", x.valley(), 0);
    }

    // Promise 4: an empty TAPE is a DAY of no lines; no HOUSE is told, so 2 for the first of burn, of lend.
    private static void readsDays(int how) {
        OneSmoke x = nothing(how);
        Check.due("nothing " + how + ": day", x.day(), 0);
        Check.dayFault(x, 2, "burn ^a b;");
        Check.dayFault(x, 2, "lend ^a b c 1;");
        Check.due("nothing " + how + ": an hour", Check.day(x, "hour;"), 0);
        Check.due("nothing " + how + ": its lines", x.count(10), 1);
    }

    // Promises 5 and 6: "-2: others", no HOUSE and no FLUE is there.
    private static void housesAndFlues(int how) {
        OneSmoke x = nothing(how);
        for (int what = 0; what <= 8; what++) {
            Check.due("nothing " + how + ": house 0 " + what, x.house(0, what), -2);
            Check.due("nothing " + how + ": flue 0 " + what, x.flue(0, what), -2);
        }
        Check.due("nothing " + how + ": house NONE", x.house(NONE, 0), -2);
        Check.due("nothing " + how + ": flue NONE", x.flue(NONE, 0), -2);
    }

    // Promises 7 and 8: "false: others", "NONE: others".
    private static void byHand(int how) {
        OneSmoke x = nothing(how);
        Check.due("nothing " + how + ": burn", x.burn(0, 0), false);
        Check.due("nothing " + how + ": lend", x.lend(0, 1, 0, 1), NONE);
        Check.due("nothing " + how + ": nothing done", x.count(12), 0);
    }

    // Promise 9: an HOUR goes by where nothing is: no FIRE goes out.
    private static void hoursGoOn(int how) {
        OneSmoke x = nothing(how);
        Check.due("nothing " + how + ": hour", x.hour(), 0);
        Check.due("nothing " + how + ": it is the next", x.count(5), 1);
        Check.due("nothing " + how + ": wind of it", x.count(6), 0);
        Check.due("nothing " + how + ": soot of it", x.count(9), 0);
        Check.due("nothing " + how + ": can be undone", x.count(12), 1);
    }

    // Promise 10: "false: nothing can be"; an HOUR can.
    private static void undone(int how) {
        OneSmoke x = nothing(how);
        Check.due("nothing " + how + ": undo", x.undo(), false);
        x.hour();
        Check.due("nothing " + how + ": undo of an hour", x.undo(), true);
        Check.due("nothing " + how + ": hour 0", x.count(5), 0);
        Check.due("nothing " + how + ": undo once more", x.undo(), false);
    }

    // Promise 11: no DAY: NONE, 0, 0.
    private static void judged(int how) {
        OneSmoke x = nothing(how);
        Check.due("nothing " + how + ": judged 0", x.judged(0), NONE);
        Check.due("nothing " + how + ": judged 1", x.judged(1), 0);
        Check.due("nothing " + how + ": judged 2", x.judged(2), 0);
        Check.due("nothing " + how + ": judged 3", x.judged(3), -2);
        Check.due("nothing " + how + ": judged -1", x.judged(-1), -2);
    }

    // Promise 12: "-2: others", there is no FLUE.
    private static void spell(int how) {
        OneSmoke x = nothing(how);
        Check.due("nothing " + how + ": spell none", x.spell(0, NONE, -2, NONE), -2);
        Check.due("nothing " + how + ": spell none twice", x.spell(0, NONE, NONE, 0), -2);
        Check.due("nothing " + how + ": spell", x.spell(0, 0, -2, NONE), -2);
    }

    // Promises 13 and 14: "NONE: others".
    private static void sureAndHope(int how) {
        OneSmoke x = nothing(how);
        Check.due("nothing " + how + ": sure", x.sure(0, 0), NONE);
        Check.due("nothing " + how + ": sure of none", x.sure(0, NONE), NONE);
        Check.due("nothing " + how + ": hope", x.hope(0, 0, 0), NONE);
        Check.due("nothing " + how + ": hope of none", x.hope(0, 0, NONE), NONE);
    }

    // Promise 15: "false: others"; promise 16: no HOUSE: one WAY, in which none burns; promise 17: "NONE: none parts them".
    private static void readWaysAsk(int how) {
        OneSmoke x = nothing(how);
        Check.due("nothing " + how + ": read", x.read(0, 0, NONE), false);
        Check.due("nothing " + how + ": nothing is read", x.count(11), 0);
        Check.due("nothing " + how + ": ways", x.ways(NONE), 1);
        Check.due("nothing " + how + ": ways of 0", x.ways(0), -2);
        Check.due("nothing " + how + ": ask", x.ask(), NONE);
    }

    // Promises 18 to 20: "NONE: others".
    private static void blurShareGiven(int how) {
        OneSmoke x = nothing(how);
        Check.due("nothing " + how + ": blur", x.blur(0, 1), NONE);
        Check.due("nothing " + how + ": blur of the same", x.blur(0, 0), NONE);
        Check.due("nothing " + how + ": share", x.share(0), NONE);
        Check.due("nothing " + how + ": given", x.given(0, 0), NONE);
    }

    // Promise 21: "NoSuchElementException: others", how many, too.
    private static void rests(int how) {
        OneSmoke x = nothing(how);
        Check.due("nothing " + how + ": rests", Check.rests(x, 0, 1, 0, 0, 0, NONE), Check.THROWN);
        Check.due("nothing " + how + ": the first rest", Check.rests(x, 0, 1, 0, 0, 0, 0), Check.THROWN);
    }

    // Promise 22: "if there are FUELS": no DRAW is needed where nothing is.
    private static void years(int how) {
        OneSmoke x = nothing(how);
        for (int what = 0; what <= 2; what++) {
            Check.due("nothing " + how + ": years " + what, x.years(9999, 99, what), 0);
        }
        Check.due("nothing " + how + ": years 3", x.years(9999, 99, 3), NONE);
    }

    // Promise 23: "nothing is on it (back)"; it can be laid, and holds the hour.
    private static void marks(int how) {
        OneSmoke x = nothing(how);
        Check.due("nothing " + how + ": back", x.mark(0, true), false);
        Check.due("nothing " + how + ": laid", x.mark(0, false), true);
        x.hour();
        Check.due("nothing " + how + ": back to it", x.mark(0, true), true);
        Check.due("nothing " + how + ": its hour", x.count(5), 0);
    }

    // "The constants: NONE = -1".
    private static void constants() {
        Check.due("NONE", OneSmoke.NONE, -1);
    }
}
