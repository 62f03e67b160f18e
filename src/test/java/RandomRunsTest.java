import java.util.Random;

/** Random valleys, days, faults and calls, each answer compared with the Oracle's; seeds are fixed. */
public final class RandomRunsTest {
    private static final String[] NAMES = {"fa", "fb", "fc", "fd", "fe", "ua", "ub", "uc", "ha", "hb", "hc", "hd", "sa", "sb", "sc", "sd",
        "se", "sf", "wa", "wb", "wc", "wd", "shade", "left"};

    private final Random random;
    private final OneSmoke x = new OneSmoke();
    private final Oracle y = new Oracle();
    private final StringBuilder told = new StringBuilder();
    private int fuels;
    private int flues;
    private int houses;
    private int signs;
    private int watchers;

    private RandomRunsTest(long seed) {
        random = new Random(seed);
    }

    public static void main(String[] args) {
        int runs = args.length > 0 ? Integer.parseInt(args[0]) : 400;
        int from = args.length > 1 ? Integer.parseInt(args[1]) : 0;
        for (int seed = from; seed < from + runs && Check.wrongSoFar() < 20; seed++) {
            new RandomRunsTest(seed).run(seed);
        }
        for (int seed = from; seed < from + 20 * runs && Check.wrongSoFar() < 20; seed++) {
            new RandomRunsTest(1000000L + seed).faults(seed);
        }
        Check.end("RandomRunsTest");
    }

    private int below(int n) {
        return random.nextInt(n);
    }

    private boolean feedBoth(String text) {
        y.feed(text);
        return Check.feed(x, text) == y.count(13);
    }

    private void run(int seed) {
        for (int valleys = 0; valleys < 2; valleys++) {
            String text = valley();
            Check.due("seed " + seed + " fed", feedBoth(text), true);
            int fault = y.valley();
            Check.due("seed " + seed + " valley " + text, x.valley(), fault);
            Check.due("seed " + seed + " is sound", fault, 0);
            int calls = 50 + below(100);
            for (int i = 0; i < calls; i++) {
                call("seed " + seed + " call " + i + " in " + text + " :");
            }
        }
    }

    // ---- texts

    private String valley() {
        told.setLength(0);
        // Small ones most of the time, so that the Oracle ends soon.
        fuels = below(10) == 0 ? 5 : below(4);
        flues = 1 + below(3);
        houses = below(8) == 0 && fuels < 4 ? 4 : below(4);
        if (fuels == 5 && houses > 2) {
            houses = 2;
        }
        signs = below(7);
        watchers = below(5);
        boolean wide = below(4) == 0;
        for (int i = 0; i < fuels; i++) {
            put("fuel " + NAMES[i] + " dark " + below(wide ? 100 : 12) + " sweet " + below(wide ? 100 : 12) + " burns "
                + (below(3) == 0 ? 1 : 1 + below(below(5) == 0 ? 9 : 3)) + ";");
        }
        for (int i = 0; i < flues; i++) {
            put("flue " + NAMES[5 + i] + ";");
        }
        int main = below(flues);
        for (int i = 0; i < houses; i++) {
            put("house " + NAMES[8 + i] + " at " + NAMES[5 + (below(3) == 0 ? below(flues) : main)] + ";");
        }
        for (int i = 0; i < houses; i++) {
            for (int j = 0; j < fuels; j++) {
                if (below(3) > 0) {
                    put("stock " + NAMES[8 + i] + " " + NAMES[j] + " " + (below(6) == 0 ? 99 - below(9) : below(4)) + ";");
                }
            }
        }
        for (int i = 0; i < signs; i++) {
            put("sign " + NAMES[12 + i] + " dark " + range(wide) + " sweet " + range(wide) + ";");
        }
        for (int i = 0; i < watchers; i++) {
            String[] sights = {"dark", "sweet", "both"};
            put("watcher " + NAMES[18 + i] + " sees " + sights[below(3)] + ";");
        }
        if (below(3) > 0) {
            put("winds");
            for (int n = 1 + below(4); n > 0; n--) {
                put(" " + below(10));
            }
            put(";");
        }
        if (below(3) > 0) {
            String[] usual = {"shade*(1-smelt)+scent*smelt-wind+left", "(shade+left)*(smelt=0)+scent*smelt", "(shade+scent)*left-wind*wind",
                "300+(wind<5)*shade*10"};
            put("gives " + (below(2) == 0 ? usual[below(usual.length)] : tests(0, true)) + ";");
        }
        if (below(3) > 0) {
            String[] usual = {"shade*2-scent", "shade*scent", "(shade-wind)*(5<scent)+wind", "shade*shade", "scent*scent-shade"};
            put("soots " + (below(2) == 0 ? usual[below(usual.length)] : tests(0, false)) + ";");
        }
        return told.toString();
    }

    private void put(String line) {
        // A line that would not be on the tape as a whole is not told at all.
        if (told.length() + line.length() < 990) {
            told.append(line);
        }
    }

    private String range(boolean wide) {
        int from = below(3) == 0 ? 0 : below(wide ? 200 : 20);
        return from + " to " + Math.min(999, from + below(wide ? 300 : 15));
    }

    private String tests(int depth, boolean gives) {
        StringBuilder s = new StringBuilder(test(depth, gives));
        while (below(5) == 0) {
            s.append(below(2) == 0 ? " and " : " or ").append(test(depth, gives));
        }
        return s.toString();
    }

    private String test(int depth, boolean gives) {
        String s = sum(depth, gives);
        return below(4) == 0 ? s + (below(2) == 0 ? "<" : "=") + sum(depth, gives) : s;
    }

    private String sum(int depth, boolean gives) {
        StringBuilder s = new StringBuilder(product(depth, gives));
        while (below(3) == 0) {
            s.append(below(2) == 0 ? "+" : "-").append(product(depth, gives));
        }
        return s.toString();
    }

    private String product(int depth, boolean gives) {
        StringBuilder s = new StringBuilder(part(depth, gives));
        while (below(3) == 0) {
            s.append("*").append(part(depth, gives));
        }
        return s.toString();
    }

    private String part(int depth, boolean gives) {
        int kind = below(8);
        if (kind == 0 && depth < 4) {
            return "not " + part(depth + 1, gives);
        }
        if (kind < 3 && depth < 4) {
            return "(" + tests(depth + 1, gives) + ")";
        }
        if (kind < 5) {
            return "" + (below(5) == 0 ? below(10000) : below(20));
        }
        String[] facts = {"shade", "scent", "wind", "left", "smelt"};
        return facts[below(gives ? 5 : 3)];
    }

    private String day() {
        StringBuilder s = new StringBuilder();
        for (int n = below(30); n > 0; n--) {
            int kind = houses < 1 || fuels < 1 ? 2 : below(3);
            String fuel = NAMES[below(Math.max(1, fuels))];
            int house = below(Math.max(1, houses));
            if (kind == 0) {
                s.append("burn ").append(NAMES[8 + house]).append(' ').append(fuel).append(';');
            } else if (kind == 1 && houses > 1) {
                int other = (house + 1 + below(houses - 1)) % houses;
                s.append("lend ").append(NAMES[8 + house]).append(' ').append(NAMES[8 + other]).append(' ').append(fuel).append(' ')
                    .append(1 + below(4)).append(';');
            } else {
                s.append("hour;\n");
            }
        }
        return s.toString();
    }

    // ---- faults: a good text, with tokens taken out, put in, or changed

    private void faults(int seed) {
        String valley = valley();
        if (below(2) == 0) {
            both(seed, spoil(valley), true);
        }
        both(seed, valley, true);
        both(seed, spoil(day()), false);
        both(seed, spoil(valley), true);
        both(seed, spoil(day()), false);
        for (int what = 0; what < 14; what++) {
            Check.due("seed " + seed + " count " + what, x.count(what), y.count(what));
        }
    }

    private void both(int seed, String text, boolean asValley) {
        String fed = text.length() > 1000 ? text.substring(0, 1000) : text;
        feedBoth(fed);
        if (asValley) {
            Check.due("seed " + seed + " spoilt valley " + fed, x.valley(), y.valley());
        } else {
            Check.due("seed " + seed + " spoilt day " + fed, x.day(), y.day());
        }
    }

    private String spoil(String text) {
        String[] strange = {"fuel", "dark", "sweet", "burns", "flue", "house", "at", "stock", "sign", "to", "watcher", "sees", "both", "winds",
            "gives", "soots", "burn", "lend", "hour", "not", "and", "or", "shade", "scent", "wind", "left", "smelt", "(", ")", "<", "=", "+",
            "-", "*", ";", "0", "1", "10", "100", "999", "1000", "12345", "#", "abcdefghi", "abcdefgh", "A", "((", "(((((", "not not not"};
        String[] tokens = text.split("(?<=[;()<=+*-])|(?=[;()<=+*-])| ");
        StringBuilder s = new StringBuilder();
        int changes = 1 + below(2);
        int where = below(Math.max(1, tokens.length));
        for (int i = 0; i < tokens.length; i++) {
            String token = tokens[i];
            if (changes > 0 && (i >= where) && below(3) == 0) {
                changes--;
                int kind = below(5);
                if (kind == 0) {
                    continue;
                }
                String other = below(3) == 0 ? NAMES[below(NAMES.length)] : strange[below(strange.length)];
                if (kind == 1) {
                    token = token + " " + other;
                } else if (kind == 2) {
                    token = token + " " + tokens[below(tokens.length)];
                } else {
                    token = kind == 3 ? other : token + " " + token;
                }
            }
            s.append(token).append(below(20) == 0 ? "\n" : " ");
        }
        if (below(10) == 0) {
            s.setLength(below(s.length() + 1));
        }
        return s.toString();
    }

    // ---- calls

    private int some(int n) {
        return below(25) == 0 ? below(9) - 3 : below(Math.max(1, n));
    }

    private int signOrNone() {
        return below(4) == 0 ? -1 : some(signs);
    }

    private void call(String what) {
        int house = some(houses);
        int other = some(houses);
        int fuel = some(fuels);
        int flue = some(flues);
        int sign = some(signs);
        int kind = below(28);
        String told = what + " kind " + kind;
        switch (kind) {
            case 0, 1, 2 -> Check.due(told, x.burn(house, fuel), y.burn(house, fuel));
            case 3 -> {
                int many = some(6);
                Check.due(told, x.lend(house, other, fuel, many), y.lend(house, other, fuel, many));
            }
            case 4, 5 -> Check.due(told, x.hour(), y.hour());
            case 6 -> Check.due(told, x.undo(), y.undo());
            case 7 -> {
                if (below(3) == 0) {
                    feedBoth(day());
                    Check.due(told, x.day(), y.day());
                }
                int n = some(3);
                Check.due(told, x.judged(n), y.judged(n));
            }
            case 8, 9, 10 -> {
                int first = signOrNone();
                int second = below(3) == 0 ? -2 : signOrNone();
                int whose = below(2) == 0 ? -1 : house;
                Check.due(told + " spell " + flue + " " + first + " " + second + " " + whose, x.spell(flue, first, second, whose),
                    y.spell(flue, first, second, whose));
            }
            case 11 -> Check.due(told, x.sure(house, sign), y.sure(house, sign));
            case 12 -> Check.due(told, x.hope(house, fuel, sign), y.hope(house, fuel, sign));
            case 13, 14 -> {
                int watcher = some(watchers);
                int seen = signOrNone();
                Check.due(told, x.read(watcher, flue, seen), y.read(watcher, flue, seen));
            }
            case 15 -> Check.due(told, x.ways(-1), y.ways(-1));
            case 16, 17 -> Check.due(told, x.ways(house), y.ways(house));
            case 18, 19 -> Check.due(told, x.ask(), y.ask());
            case 20 -> Check.due(told, x.blur(sign, house), y.blur(sign, house));
            case 21 -> Check.due(told, x.share(house), y.share(house));
            case 22 -> Check.due(told, x.given(house, fuel), y.given(house, fuel));
            case 23, 24 -> rests(told, house, other);
            case 25 -> {
                int seed = below(10) == 0 ? below(3) * 5000 : below(10000);
                int hours = below(10) == 0 ? below(3) * 50 : 1 + below(20);
                int n = some(3);
                Check.due(told, x.years(seed, hours, n), y.years(seed, hours, n));
            }
            case 26 -> {
                int mark = some(4);
                boolean back = below(2) == 0;
                Check.due(told, x.mark(mark, back), y.mark(mark, back));
            }
            default -> {
                for (int n = -1; n < 15; n++) {
                    Check.due(told + " count " + n, x.count(n), y.count(n));
                    Check.due(told + " house " + n, x.house(house, n), y.house(house, n));
                    Check.due(told + " flue " + n, x.flue(flue, n), y.flue(flue, n));
                }
            }
        }
    }

    private void rests(String told, int one, int other) {
        int a = some(signs);
        int b = some(signs);
        int gets = below(3) == 0 ? below(3) : some(100);
        int what = below(2) == 0 ? -1 : some(3);
        int want;
        try {
            want = y.rests(one, other, a, b, gets, what);
        } catch (java.util.NoSuchElementException e) {
            want = -100;
        }
        Check.due(told + " rests", Check.rests(x, one, other, a, b, gets, what), want);
    }
}
