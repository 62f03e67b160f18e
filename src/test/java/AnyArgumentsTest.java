import java.util.NoSuchElementException;
import java.util.Random;

/**
 * No call throws by itself, whatever its arguments and whatever came ahead, and what only asks leaves all as it was.
 */
public final class AnyArgumentsTest {
    private static final int[] EDGES = {-1, 0, 1, 2, 3, 4, 5, 6, 7, 9, 99, 100, -2, -3, 9999, 10000, 31, 32, 33, Integer.MAX_VALUE,
        Integer.MAX_VALUE - 2, Integer.MIN_VALUE, Integer.MIN_VALUE + 3};
    private static final String[] TEXTS = {
        "fuel a dark 99 sweet 99 burns 9;fuel b dark 1 sweet 0 burns 1;fuel c dark 0 sweet 9 burns 2;fuel d dark 50 sweet 5 burns 1;"
            + "fuel e dark 9 sweet 9 burns 3;flue f;flue g;flue h;house i at f;house j at f;house k at f;house l at f;stock i a 99;stock i b 3;"
            + "stock i c 1;stock j a 1;stock j e 2;stock k d 9;stock k a 9;stock l a 9;stock l c 3;sign s dark 0 to 0 sweet 0 to 0;"
            + "sign t dark 1 to 99 sweet 0 to 50;sign u dark 0 to 999 sweet 51 to 999;sign v dark 0 to 999 sweet 0 to 999;"
            + "sign w dark 999 to 999 sweet 0 to 999;sign x dark 3 to 7 sweet 3 to 7;watcher p sees dark;watcher q sees sweet;"
            + "watcher r sees both;watcher o sees dark;winds 9 0 3 1 1 1 1 1 1 1 1 9;gives shade*shade*left-wind*9999*9999;"
            + "soots shade*shade*shade-scent;",
        "fuel a dark 1 sweet 1 burns 1;", "flue f;", "watcher w sees both;sign s dark 0 to 9 sweet 0 to 9;", "", "flue f;house h at f;",
        "fuel a dark 1 sweet 1 burns 1;flue f;house h at f;house i at f;stock h a 2;stock i a 1;sign s dark 2 to 2 sweet 0 to 9;", "flue",
        "gives (((((", "burn i a;hour;burn j b;lend i j a 40;lend k l d 9;hour;hour;burn l c;hour;", "hour;", "burn h a;hour;", "lend", "#",
    };

    private final Random random;
    private final OneSmoke x = new OneSmoke();
    private String last = "";

    private AnyArgumentsTest(long seed) {
        random = new Random(seed);
    }

    public static void main(String[] args) {
        for (int seed = 0; seed < 600; seed++) {
            AnyArgumentsTest run = new AnyArgumentsTest(seed);
            for (int i = 0; i < 512; i++) {
                run.look(seed, i);
            }
        }
        Check.end("AnyArgumentsTest");
    }

    private int any() {
        int kind = random.nextInt(20);
        return kind == 0 ? random.nextInt() : kind == 1 ? EDGES[random.nextInt(EDGES.length)] : random.nextInt(6) - (kind < 5 ? 1 : 0);
    }

    private void look(int seed, int i) {
        String thrown = "";
        long asked = 0;
        long before = state();
        boolean asks = false;
        try {
            asks = call();
            asked = state();
        } catch (RuntimeException e) {
            thrown = e.toString();
        }
        Check.due("seed " + seed + " call " + i + " " + last + " threw " + thrown + ", so", thrown.isEmpty(), true);
        if (asks && thrown.isEmpty()) {
            Check.due("seed " + seed + " call " + i + " " + last + " left all as it was", asked, before);
        }
    }

    private long state() {
        long sum = 0;
        for (int what = 0; what < 14; what++) {
            sum = sum * 31 + x.count(what);
        }
        for (int n = 0; n < 4; n++) {
            for (int what = 0; what < 8; what++) {
                sum = sum * 31 + x.house(n, what);
                sum = sum * 31 + x.flue(n, what);
            }
        }
        return sum;
    }

    /** One call; answers whether it is one that only asks. */
    private boolean call() {
        int kind = random.nextInt(26);
        last = "kind " + kind;
        switch (kind) {
            case 0 -> x.feed(random.nextLong(), random.nextLong(), random.nextLong());
            case 1 -> Check.feed(x, TEXTS[random.nextInt(TEXTS.length)]);
            case 2 -> x.valley();
            case 3 -> {
                x.valley();
                Check.feed(x, TEXTS[0]);
                x.valley();
            }
            case 4 -> {
                Check.feed(x, TEXTS[9 + random.nextInt(3)]);
                x.day();
            }
            case 5, 6 -> x.burn(any(), any());
            case 7 -> x.lend(any(), any(), any(), any());
            case 8 -> x.hour();
            case 9 -> x.undo();
            case 10 -> x.read(any(), any(), any());
            case 11 -> x.mark(any(), random.nextBoolean());
            default -> {
                ask(kind);
                return true;
            }
        }
        return false;
    }

    private void ask(int kind) {
        switch (kind) {
            case 12 -> x.judged(any());
            case 13 -> x.spell(any(), any(), random.nextInt(2) == 0 ? -2 : any(), any());
            case 14 -> x.sure(any(), any());
            case 15 -> x.hope(any(), any(), any());
            case 16 -> x.ways(any());
            case 17 -> x.ask();
            case 18 -> x.blur(any(), any());
            case 19 -> x.share(any());
            case 20 -> x.given(any(), any());
            case 21 -> {
                try {
                    x.rests(any(), any(), any(), any(), any(), any());
                } catch (NoSuchElementException e) {
                    last = "rests";
                }
            }
            case 22 -> x.years(any(), random.nextInt(3) == 0 ? any() : random.nextInt(99), any());
            case 23 -> x.house(any(), any());
            case 24 -> x.flue(any(), any());
            default -> x.count(any());
        }
    }
}
