/** What the tests share: counting wrong answers, and feeding a text to an object. */
final class Check {
    private static int wrong = 0;
    private static int calls = 0;

    private Check() {
    }

    static void due(String what, long got, long want) {
        calls++;
        if (got != want) {
            wrong++;
            if (wrong <= 50) {
                System.out.println(what + " answered " + got + ", due is " + want);
            }
        }
    }

    static void due(String what, boolean got, boolean want) {
        due(what, got ? 1 : 0, want ? 1 : 0);
    }

    static int wrongSoFar() {
        return wrong;
    }

    /** Feeds a text, 24 signs a call; answers what the last call answered. */
    static int feed(OneSmoke x, String text) {
        int answer = x.count(13);
        for (int at = 0; at < text.length(); at += 24) {
            answer = x.feed(eight(text, at), eight(text, at + 8), eight(text, at + 16));
        }
        return answer;
    }

    static long eight(String text, int from) {
        long value = 0;
        for (int i = from; i < from + 8; i++) {
            value = value << 8 | (i < text.length() ? text.charAt(i) & 255 : 0);
        }
        return value;
    }

    static int valley(OneSmoke x, String text) {
        feed(x, text);
        return x.valley();
    }

    static int day(OneSmoke x, String text) {
        feed(x, text);
        return x.day();
    }

    /** A new object with this valley, which has to be one without a fault. */
    static OneSmoke in(String text) {
        OneSmoke x = new OneSmoke();
        due("valley " + text, valley(x, text), 0);
        return x;
    }

    /** The token behind ^ has to be the first fault of a valley, of this kind. */
    static void valleyFault(int kind, String marked) {
        OneSmoke x = new OneSmoke();
        int place = marked.indexOf('^');
        due("valley " + marked, valley(x, marked.replace("^", "")), kind + 16 * place);
        due("tape behind valley " + marked, x.count(13), 0);
    }

    static void dayFault(OneSmoke x, int kind, String marked) {
        int place = marked.indexOf('^');
        due("day " + marked, day(x, marked.replace("^", "")), kind + 16 * place);
        due("tape behind day " + marked, x.count(13), 0);
    }

    /** What stands for a NoSuchElementException among answers. */
    static final int THROWN = -100;

    /** What rests answers, or THROWN if it throws NoSuchElementException. */
    static int rests(OneSmoke x, int one, int other, int oneSign, int otherSign, int gets, int what) {
        try {
            return x.rests(one, other, oneSign, otherSign, gets, what);
        } catch (java.util.NoSuchElementException e) {
            return THROWN;
        }
    }

    static void end(String name) {
        System.out.println(name + ": " + calls + " answers looked at, " + wrong + " wrong");
        if (wrong != 0 || calls == 0) {
            System.exit(1);
        }
    }
}
