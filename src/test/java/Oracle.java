import java.util.ArrayDeque;
import java.util.ArrayList;
import java.util.Deque;
import java.util.HashMap;
import java.util.HashSet;
import java.util.List;
import java.util.Map;
import java.util.NoSuchElementException;
import java.util.Set;
import java.util.regex.Matcher;
import java.util.regex.Pattern;

/**
 * The document once more, in the plainest way and with all of Java's library: each question is answered by going
 * through everything there is, with whole copies of how it is. Random runs compare it with OneSmoke.
 */
final class Oracle {
    interface Expr {
        int of(Map<String, Integer> facts);
    }

    static final class Fault extends Exception {
        private static final long serialVersionUID = 1L;
        final int code;

        Fault(int kind, Token at) {
            this.code = kind + 16 * at.place;
        }
    }

    static final class Token {
        final String text;
        final int place;

        Token(String text, int place) {
            this.text = text;
            this.place = place;
        }

        boolean word() {
            return text.matches("[a-z]{1,8}");
        }

        boolean number() {
            return text.matches("[0-9]{1,4}");
        }

        boolean name() {
            return word() && !KEPT.contains(text);
        }

        boolean is(String other) {
            return text.equals(other);
        }
    }

    private static final Set<String> KEPT = Set.of("fuel", "dark", "sweet", "burns", "flue", "house", "at", "stock", "sign", "to",
        "watcher", "sees", "both", "winds", "gives", "soots", "burn", "lend", "hour", "not", "and", "or");

    /** A valley as told. */
    static final class Told {
        final Map<String, List<String>> names = new HashMap<>();
        final List<int[]> fuels = new ArrayList<>();
        final List<Integer> houses = new ArrayList<>();
        final Map<String, Integer> stocks = new HashMap<>();
        final List<int[]> signs = new ArrayList<>();
        final List<String> watchers = new ArrayList<>();
        final List<Integer> winds = new ArrayList<>();
        Expr gives;
        Expr soots;

        Told() {
            for (String kind : new String[] {"fuel", "flue", "house", "sign", "watcher"}) {
                names.put(kind, new ArrayList<>());
            }
        }

        int flues() {
            return names.get("flue").size();
        }

        boolean known(String name) {
            return names.values().stream().anyMatch(list -> list.contains(name));
        }
    }

    /** How it is. */
    static final class How {
        int hour;
        int[][] stock = new int[4][5];
        int[] fuel = {-1, -1, -1, -1};
        int[] left = new int[4];
        int[] soot = new int[3];

        How copy() {
            How c = new How();
            c.hour = hour;
            for (int h = 0; h < 4; h++) {
                c.stock[h] = stock[h].clone();
            }
            c.fuel = fuel.clone();
            c.left = left.clone();
            c.soot = soot.clone();
            return c;
        }
    }

    static final class Mark {
        How how;
        List<int[]> day;
        List<int[]> reads;
    }

    private final StringBuilder tape = new StringBuilder();
    private Told told = new Told();
    private How now = new How();
    private List<int[]> day = new ArrayList<>();
    private List<int[]> reads = new ArrayList<>();
    private final Deque<How> past = new ArrayDeque<>();
    private final Map<Integer, Mark> marks = new HashMap<>();

    private List<Token> tokens;
    private int at;

    // ---- reading

    void feed(String text) {
        for (char c : text.toCharArray()) {
            if ((c == 10 || c >= 32 && c <= 126) && tape.length() < 1000) {
                tape.append(c);
            }
        }
    }

    private void cut() {
        tokens = new ArrayList<>();
        at = 0;
        Matcher m = Pattern.compile("[ \n]+|[a-z]+|[0-9]+|.", Pattern.DOTALL).matcher(tape);
        while (m.find()) {
            if (!m.group().isBlank()) {
                tokens.add(new Token(m.group(), m.start()));
            }
        }
        tokens.add(new Token("", tape.length()));
        tape.setLength(0);
    }

    private Token here() {
        return tokens.get(at);
    }

    private void need(String text) throws Fault {
        if (!here().is(text)) {
            throw new Fault(1, here());
        }
        at++;
    }

    private int number(int least, int most) throws Fault {
        Token t = here();
        if (!t.number()) {
            throw new Fault(1, t);
        }
        int n = Integer.parseInt(t.text);
        if (n < least || n > most) {
            throw new Fault(4, t);
        }
        at++;
        return n;
    }

    private String fresh(Told v) throws Fault {
        Token t = here();
        if (!t.name()) {
            throw new Fault(1, t);
        }
        if (v.known(t.text)) {
            throw new Fault(3, t);
        }
        at++;
        return t.text;
    }

    private int old(Told v, String kind) throws Fault {
        Token t = here();
        if (!t.name()) {
            throw new Fault(1, t);
        }
        if (!v.names.get(kind).contains(t.text)) {
            throw new Fault(2, t);
        }
        at++;
        return v.names.get(kind).indexOf(t.text);
    }

    int valley() {
        cut();
        Told v = new Told();
        try {
            while (!here().is("")) {
                line(v);
            }
        } catch (Fault f) {
            return f.code;
        }
        told = v;
        now = new How();
        now.stock = begin().stock;
        day = new ArrayList<>();
        reads = new ArrayList<>();
        past.clear();
        marks.clear();
        return 0;
    }

    private How begin() {
        How h = new How();
        for (Map.Entry<String, Integer> e : told.stocks.entrySet()) {
            String[] key = e.getKey().split(" ");
            h.stock[Integer.parseInt(key[0])][Integer.parseInt(key[1])] = e.getValue();
        }
        return h;
    }

    private void line(Told v) throws Fault {
        Token first = here();
        Map<String, Integer> most = Map.of("fuel", 5, "flue", 3, "house", 4, "sign", 6, "watcher", 4);
        if (most.containsKey(first.text)) {
            if (v.names.get(first.text).size() >= most.get(first.text)) {
                throw new Fault(5, first);
            }
            at++;
            String name = fresh(v);
            thing(v, first.text);
            need(";");
            v.names.get(first.text).add(name);
            return;
        }
        switch (first.text) {
            case "stock" -> {
                at++;
                int house = old(v, "house");
                Token which = here();
                int fuel = old(v, "fuel");
                if (v.stocks.containsKey(house + " " + fuel)) {
                    throw new Fault(3, which);
                }
                v.stocks.put(house + " " + fuel, number(0, 99));
            }
            case "winds" -> {
                if (!v.winds.isEmpty()) {
                    throw new Fault(3, first);
                }
                at++;
                do {
                    Token t = here();
                    int wind = number(0, 9);
                    if (v.winds.size() == 12) {
                        throw new Fault(5, t);
                    }
                    v.winds.add(wind);
                } while (!here().is(";"));
            }
            case "gives" -> {
                if (v.gives != null) {
                    throw new Fault(3, first);
                }
                at++;
                v.gives = tests(0, Set.of("shade", "scent", "wind", "left", "smelt"));
            }
            case "soots" -> {
                if (v.soots != null) {
                    throw new Fault(3, first);
                }
                at++;
                v.soots = tests(0, Set.of("shade", "scent", "wind"));
            }
            default -> throw new Fault(1, first);
        }
        need(";");
    }

    private void thing(Told v, String kind) throws Fault {
        switch (kind) {
            case "fuel" -> {
                need("dark");
                int dark = number(0, 99);
                need("sweet");
                int sweet = number(0, 99);
                need("burns");
                v.fuels.add(new int[] {dark, sweet, number(1, 9)});
            }
            case "house" -> {
                need("at");
                v.houses.add(old(v, "flue"));
            }
            case "sign" -> {
                need("dark");
                int a = number(0, 999);
                need("to");
                int b = number(a, 999);
                need("sweet");
                int c = number(0, 999);
                need("to");
                v.signs.add(new int[] {a, b, c, number(c, 999)});
            }
            case "watcher" -> {
                need("sees");
                if (!Set.of("dark", "sweet", "both").contains(here().text)) {
                    throw new Fault(1, here());
                }
                v.watchers.add(here().text);
                at++;
            }
            default -> {
            }
        }
    }

    private Expr tests(int depth, Set<String> facts) throws Fault {
        Expr sum = test(depth, facts);
        while (here().is("and") || here().is("or")) {
            boolean and = here().is("and");
            at++;
            Expr a = sum;
            Expr b = test(depth, facts);
            sum = f -> and ? a.of(f) != 0 & b.of(f) != 0 ? 1 : 0 : a.of(f) != 0 | b.of(f) != 0 ? 1 : 0;
        }
        return sum;
    }

    private Expr test(int depth, Set<String> facts) throws Fault {
        Expr a = sum(depth, facts);
        if (here().is("<")) {
            at++;
            Expr b = sum(depth, facts);
            return f -> a.of(f) < b.of(f) ? 1 : 0;
        }
        if (here().is("=")) {
            at++;
            Expr b = sum(depth, facts);
            return f -> a.of(f) == b.of(f) ? 1 : 0;
        }
        return a;
    }

    private Expr sum(int depth, Set<String> facts) throws Fault {
        Expr sum = product(depth, facts);
        while (here().is("+") || here().is("-")) {
            int by = here().is("+") ? 1 : -1;
            at++;
            Expr a = sum;
            Expr b = product(depth, facts);
            sum = f -> a.of(f) + by * b.of(f);
        }
        return sum;
    }

    private Expr product(int depth, Set<String> facts) throws Fault {
        Expr product = part(depth, facts);
        while (here().is("*")) {
            at++;
            Expr a = product;
            Expr b = part(depth, facts);
            product = f -> a.of(f) * b.of(f);
        }
        return product;
    }

    private Expr part(int depth, Set<String> facts) throws Fault {
        Token t = here();
        if (!t.number() && !facts.contains(t.text) && !t.is("not") && !t.is("(")) {
            throw new Fault(1, t);
        }
        if (depth == 5) {
            throw new Fault(5, t);
        }
        at++;
        if (t.is("not")) {
            Expr a = part(depth + 1, facts);
            return f -> a.of(f) == 0 ? 1 : 0;
        }
        if (t.is("(")) {
            Expr a = tests(depth + 1, facts);
            need(")");
            return a;
        }
        if (t.number()) {
            int n = Integer.parseInt(t.text);
            return f -> n;
        }
        return f -> f.get(t.text);
    }

    int day() {
        cut();
        List<int[]> lines = new ArrayList<>();
        try {
            while (!here().is("")) {
                Token first = here();
                if (!Set.of("burn", "lend", "hour").contains(first.text)) {
                    throw new Fault(1, first);
                }
                if (lines.size() == 40) {
                    throw new Fault(5, first);
                }
                at++;
                lines.add(dayLine(first.text));
                need(";");
            }
        } catch (Fault f) {
            return f.code;
        }
        day = lines;
        return 0;
    }

    private int[] dayLine(String kind) throws Fault {
        if (kind.equals("hour")) {
            return new int[] {2};
        }
        int house = old(told, "house");
        if (kind.equals("burn")) {
            return new int[] {0, house, old(told, "fuel")};
        }
        Token second = here();
        int other = old(told, "house");
        if (other == house) {
            throw new Fault(3, second);
        }
        int fuel = old(told, "fuel");
        return new int[] {1, house, other, fuel, number(1, 99)};
    }

    // ---- how smoke goes

    private int fuels() {
        return told.fuels.size();
    }

    private int wind(int hour) {
        return told.winds.isEmpty() ? 0 : told.winds.get(hour % told.winds.size());
    }

    private static int clamp(int value) {
        return value < 0 ? 0 : value > 999 ? 999 : value;
    }

    private int gives(How h, int house, int smelt) {
        if (h.fuel[house] < 0) {
            return 0;
        }
        int[] fuel = told.fuels.get(h.fuel[house]);
        if (told.gives == null) {
            return fuel[smelt];
        }
        return clamp(told.gives.of(Map.of("shade", fuel[0], "scent", fuel[1], "wind", wind(h.hour), "left", h.left[house],
            "smelt", smelt)));
    }

    private int smoke(How h, int flue, int smelt) {
        int sum = 0;
        for (int house : housesOf(flue)) {
            sum += gives(h, house, smelt);
        }
        return Math.min(999, sum);
    }

    private List<Integer> housesOf(int flue) {
        List<Integer> list = new ArrayList<>();
        for (int house = 0; house < told.houses.size(); house++) {
            if (told.houses.get(house) == flue) {
                list.add(house);
            }
        }
        return list;
    }

    private boolean inside(int sign, int value, int smelt) {
        int[] s = told.signs.get(sign);
        return s[2 * smelt] <= value && value <= s[2 * smelt + 1];
    }

    private int sign(How h, int flue) {
        for (int sign = 0; sign < told.signs.size(); sign++) {
            if (inside(sign, smoke(h, flue, 0), 0) && inside(sign, smoke(h, flue, 1), 1)) {
                return sign;
            }
        }
        return -1;
    }

    private int soots(How h, int flue) {
        int dark = smoke(h, flue, 0);
        if (told.soots == null) {
            return dark;
        }
        return clamp(told.soots.of(Map.of("shade", dark, "scent", smoke(h, flue, 1), "wind", wind(h.hour))));
    }

    private static boolean can(How h, int house, int fuel) {
        return h.fuel[house] < 0 && h.stock[house][fuel] > 0;
    }

    private void light(How h, int house, int fuel) {
        h.stock[house][fuel]--;
        h.fuel[house] = fuel;
        h.left[house] = told.fuels.get(fuel)[2];
    }

    private int pass(How h) {
        int[] more = new int[3];
        for (int flue = 0; flue < told.flues(); flue++) {
            more[flue] = soots(h, flue);
        }
        int out = 0;
        for (int flue = 0; flue < 3; flue++) {
            h.soot[flue] = Math.min(9999, h.soot[flue] + more[flue]);
        }
        for (int house = 0; house < 4; house++) {
            if (h.fuel[house] >= 0 && --h.left[house] == 0) {
                h.fuel[house] = -1;
                out++;
            }
        }
        h.hour++;
        return out;
    }

    private int signsRead(How h) {
        int n = 0;
        for (int flue = 0; flue < told.flues(); flue++) {
            n += sign(h, flue) >= 0 ? 1 : 0;
        }
        return n;
    }

    private static int sum(int[] row) {
        int s = 0;
        for (int v : row) {
            s += v;
        }
        return s;
    }

    private static int fuelsLeft(How h) {
        int s = 0;
        for (int[] row : h.stock) {
            s += sum(row);
        }
        return s;
    }

    private boolean isHouse(int h) {
        return h >= 0 && h < told.houses.size();
    }

    private boolean isFuel(int f) {
        return f >= 0 && f < fuels();
    }

    private boolean isFlue(int f) {
        return f >= 0 && f < told.flues();
    }

    private boolean isSign(int s) {
        return s >= 0 && s < told.signs.size();
    }

    /** All ways in which these houses (those without a fire) may burn now, first ones first. */
    private List<How> waysOf(How h, List<Integer> houses) {
        List<How> all = new ArrayList<>();
        all.add(h.copy());
        for (int house : houses) {
            List<How> next = new ArrayList<>();
            for (How each : all) {
                for (int fuel = 0; fuel < fuels(); fuel++) {
                    if (h.fuel[house] < 0 && h.stock[house][fuel] > 0) {
                        How with = each.copy();
                        light(with, house, fuel);
                        next.add(with);
                    }
                }
                next.add(each.copy());
            }
            all = next;
        }
        return all;
    }

    // ---- the face

    int house(int house, int what) {
        if (!isHouse(house)) {
            return -2;
        }
        if (what == 0) {
            return told.houses.get(house);
        }
        if (what == 1) {
            return now.fuel[house];
        }
        if (what == 2) {
            return now.left[house];
        }
        return what > 2 && isFuel(what - 3) ? now.stock[house][what - 3] : -2;
    }

    int flue(int flue, int what) {
        if (!isFlue(flue)) {
            return -2;
        }
        if (what == 0 || what == 1) {
            return smoke(now, flue, what);
        }
        if (what == 2) {
            return sign(now, flue);
        }
        if (what == 3) {
            return now.soot[flue];
        }
        return what == 4 ? housesOf(flue).stream().mapToInt(h -> 1 << h).sum() : -2;
    }

    private void keep() {
        past.addLast(now.copy());
        if (past.size() > 16) {
            past.removeFirst();
        }
    }

    boolean burn(int house, int fuel) {
        if (!isHouse(house) || !isFuel(fuel) || !can(now, house, fuel)) {
            return false;
        }
        keep();
        light(now, house, fuel);
        return true;
    }

    int lend(int house, int other, int fuel, int many) {
        if (!isHouse(house) || !isHouse(other) || house == other || !isFuel(fuel) || many < 1 || many > now.stock[house][fuel]) {
            return -1;
        }
        keep();
        lend(now, house, other, fuel, many);
        return now.stock[other][fuel];
    }

    private static void lend(How h, int house, int other, int fuel, int many) {
        h.stock[house][fuel] -= many;
        h.stock[other][fuel] = Math.min(99, h.stock[other][fuel] + many);
    }

    int hour() {
        keep();
        reads = new ArrayList<>();
        return pass(now);
    }

    boolean undo() {
        if (past.isEmpty()) {
            return false;
        }
        now = past.removeLast();
        reads = new ArrayList<>();
        return true;
    }

    int judged(int what) {
        How h = begin();
        int first = -1;
        int signs = 0;
        for (int i = 0; i < day.size(); i++) {
            int[] l = day.get(i);
            boolean ok = true;
            if (l[0] == 2) {
                signs += signsRead(h);
                pass(h);
            } else if (l[0] == 0) {
                ok = can(h, l[1], l[2]);
                if (ok) {
                    light(h, l[1], l[2]);
                }
            } else {
                ok = h.stock[l[1]][l[3]] >= l[4];
                if (ok) {
                    lend(h, l[1], l[2], l[3], l[4]);
                }
            }
            if (!ok && first < 0) {
                first = i;
            }
        }
        return what == 0 ? first : what == 1 ? signs : what == 2 ? sum(h.soot) : -2;
    }

    int spell(int flue, int sign, int second, int house) {
        if (!isFlue(flue) || !(sign == -1 || isSign(sign)) || !(second == -2 || second == -1 || isSign(second))) {
            return -2;
        }
        if (house != -1 && !isHouse(house)) {
            return -2;
        }
        int had = fuelsLeft(now);
        int best = 99;
        How bestFirst = null;
        for (How one : waysOf(now, housesOf(flue))) {
            if (sign(one, flue) != sign) {
                continue;
            }
            if (second == -2) {
                if (had - fuelsLeft(one) < best) {
                    best = had - fuelsLeft(one);
                    bestFirst = one;
                }
                continue;
            }
            How then = one.copy();
            pass(then);
            for (How two : waysOf(then, housesOf(flue))) {
                if (sign(two, flue) == second && had - fuelsLeft(two) < best) {
                    best = had - fuelsLeft(two);
                    bestFirst = one;
                }
            }
        }
        if (bestFirst == null) {
            return -2;
        }
        if (house == -1) {
            return best;
        }
        return told.houses.get(house) == flue && now.fuel[house] < 0 ? bestFirst.fuel[house] : -1;
    }

    /** Ways of the others by which it is read, and all of them. */
    private int[] hopes(int house, int fuel, int sign) {
        How with = now.copy();
        light(with, house, fuel);
        int flue = told.houses.get(house);
        int hits = 0;
        List<How> all = waysOf(with, housesOf(flue));
        for (How h : all) {
            hits += sign(h, flue) == sign ? 1 : 0;
        }
        return new int[] {hits, all.size()};
    }

    int sure(int house, int sign) {
        if (!isHouse(house) || !isSign(sign)) {
            return -1;
        }
        for (int fuel = 0; fuel < fuels(); fuel++) {
            if (can(now, house, fuel)) {
                int[] n = hopes(house, fuel, sign);
                if (n[0] == n[1]) {
                    return fuel;
                }
            }
        }
        return -1;
    }

    int hope(int house, int fuel, int sign) {
        if (!isHouse(house) || !isSign(sign) || !isFuel(fuel) || !can(now, house, fuel)) {
            return -1;
        }
        int[] n = hopes(house, fuel, sign);
        return (int) (n[0] * 1000000L / n[1]);
    }

    boolean read(int watcher, int flue, int sign) {
        if (watcher < 0 || watcher >= told.watchers.size() || !isFlue(flue) || !(sign == -1 || isSign(sign)) || reads.size() == 8) {
            return false;
        }
        reads.add(new int[] {watcher, flue, sign});
        return true;
    }

    private boolean so(How h, int[] read) {
        String sight = told.watchers.get(read[0]);
        if (sight.equals("both")) {
            return sign(h, read[1]) == read[2];
        }
        int smelt = sight.equals("dark") ? 0 : 1;
        int value = smoke(h, read[1], smelt);
        if (read[2] >= 0) {
            return inside(read[2], value, smelt);
        }
        for (int sign = 0; sign < told.signs.size(); sign++) {
            if (inside(sign, value, smelt)) {
                return false;
            }
        }
        return true;
    }

    private List<How> waysByRead() {
        List<Integer> houses = new ArrayList<>();
        for (int house = 0; house < told.houses.size(); house++) {
            houses.add(house);
        }
        List<How> good = new ArrayList<>();
        for (How h : waysOf(now, houses)) {
            if (reads.stream().allMatch(r -> so(h, r))) {
                good.add(h);
            }
        }
        return good;
    }

    int ways(int house) {
        if (house != -1 && (!isHouse(house) || now.fuel[house] >= 0)) {
            return -2;
        }
        List<How> all = waysByRead();
        if (house == -1) {
            return all.size();
        }
        Set<Integer> burnt = new HashSet<>();
        for (How h : all) {
            burnt.add(h.fuel[house] < 0 ? fuels() : h.fuel[house]);
        }
        return burnt.size() == 1 ? burnt.iterator().next() : -1;
    }

    int ask() {
        List<How> all = waysByRead();
        int least = all.size();
        int answer = -1;
        for (int watcher = 0; watcher < told.watchers.size(); watcher++) {
            for (int flue = 0; flue < told.flues(); flue++) {
                Map<Integer, Integer> seen = new HashMap<>();
                String sight = told.watchers.get(watcher);
                for (How h : all) {
                    int what = sight.equals("both") ? sign(h, flue) : smoke(h, flue, sight.equals("dark") ? 0 : 1);
                    seen.merge(what, 1, Integer::sum);
                }
                int most = seen.values().stream().mapToInt(n -> n).max().orElse(0);
                if (most < least) {
                    least = most;
                    answer = watcher * 3 + flue;
                }
            }
        }
        return answer;
    }

    int blur(int sign, int other) {
        if (!isSign(sign) || !isSign(other) || sign == other) {
            return -1;
        }
        int bits = 0;
        for (int watcher = 0; watcher < told.watchers.size(); watcher++) {
            boolean[] meet = new boolean[2];
            for (int smelt = 0; smelt < 2; smelt++) {
                for (int value = 0; value <= 999; value++) {
                    meet[smelt] |= inside(sign, value, smelt) && inside(other, value, smelt);
                }
            }
            String sight = told.watchers.get(watcher);
            boolean can = sight.equals("dark") ? meet[0] : sight.equals("sweet") ? meet[1] : meet[0] && meet[1];
            bits += can ? 1 << watcher : 0;
        }
        return bits;
    }

    int share(int house) {
        if (!isHouse(house)) {
            return -1;
        }
        List<List<Integer>> orders = new ArrayList<>();
        orders.add(new ArrayList<>());
        for (int each : housesOf(told.houses.get(house))) {
            List<List<Integer>> longer = new ArrayList<>();
            for (List<Integer> order : orders) {
                for (int place = 0; place <= order.size(); place++) {
                    List<Integer> with = new ArrayList<>(order);
                    with.add(place, each);
                    longer.add(with);
                }
            }
            orders = longer;
        }
        long paid = 0;
        for (List<Integer> order : orders) {
            How h = now.copy();
            for (int each : order) {
                h.fuel[each] = -1;
            }
            for (int each : order) {
                int ahead = soots(h, told.houses.get(house));
                h.fuel[each] = now.fuel[each];
                if (each == house) {
                    paid += soots(h, told.houses.get(house)) - ahead;
                }
            }
        }
        return (int) (paid * 1000 / orders.size());
    }

    int given(int house, int fuel) {
        if (!isHouse(house) || !isFuel(fuel)) {
            return -1;
        }
        List<Integer> houses = housesOf(told.houses.get(house));
        int all = 0;
        for (int each : houses) {
            all += now.stock[each][fuel];
        }
        int[] got = new int[4];
        for (int i = 0; i < all; i++) {
            int poorest = houses.get(0);
            for (int each : houses) {
                if (got[each] < got[poorest]) {
                    poorest = each;
                }
            }
            got[poorest]++;
        }
        return got[house];
    }

    int rests(int one, int other, int oneSign, int otherSign, int gets, int what) {
        boolean ok = isHouse(one) && isHouse(other) && one != other && isSign(oneSign) && isSign(otherSign) && gets >= 0 && gets <= 99;
        if (!ok || !told.houses.get(one).equals(told.houses.get(other)) || now.fuel[one] >= 0 || now.fuel[other] >= 0) {
            throw new NoSuchElementException();
        }
        int n = fuels();
        int[][][] gain = new int[n + 1][n + 1][];
        for (int a = 0; a <= n; a++) {
            for (int b = 0; b <= n; b++) {
                if ((a == n || can(now, one, a)) && (b == n || can(now, other, b))) {
                    How h = now.copy();
                    if (a < n) {
                        light(h, one, a);
                    }
                    if (b < n) {
                        light(h, other, b);
                    }
                    int sign = sign(h, told.houses.get(one));
                    gain[a][b] = new int[] {(sign == oneSign ? gets : 0) - (a < n ? 1 : 0), (sign == otherSign ? gets : 0) - (b < n ? 1 : 0)};
                }
            }
        }
        List<Integer> found = new ArrayList<>();
        for (int a = 0; a <= n; a++) {
            for (int b = 0; b <= n; b++) {
                boolean rest = gain[a][b] != null;
                for (int c = 0; rest && c <= n; c++) {
                    rest = (gain[c][b] == null || gain[c][b][0] <= gain[a][b][0]) && (gain[a][c] == null || gain[a][c][1] <= gain[a][b][1]);
                }
                if (rest) {
                    found.add(10 * a + b);
                }
            }
        }
        if (what == -1) {
            return found.size();
        }
        if (what < 0 || what >= found.size()) {
            throw new NoSuchElementException();
        }
        return found.get(what);
    }

    int years(int seed, int hours, int what) {
        if (seed < 0 || seed > 9999 || hours < 1 || hours > 99 || what < 0 || what > 2) {
            return -1;
        }
        How h = now.copy();
        java.math.BigInteger g = java.math.BigInteger.valueOf(seed);
        int signs = 0;
        for (int i = 0; i < hours; i++) {
            for (int house = 0; house < told.houses.size() && fuels() > 0; house++) {
                g = g.multiply(java.math.BigInteger.valueOf(1103515245)).add(java.math.BigInteger.valueOf(12345))
                    .mod(java.math.BigInteger.valueOf(2147483648L));
                int draw = (int) (g.longValue() / 65536 % (fuels() + 1));
                if (draw < fuels() && can(h, house, draw)) {
                    light(h, house, draw);
                }
            }
            signs += signsRead(h);
            pass(h);
        }
        return what == 0 ? signs : what == 1 ? sum(h.soot) - sum(now.soot) : fuelsLeft(h);
    }

    boolean mark(int mark, boolean back) {
        if (mark < 0 || mark > 3 || back && !marks.containsKey(mark)) {
            return false;
        }
        if (back) {
            Mark m = marks.get(mark);
            now = m.how.copy();
            day = new ArrayList<>(m.day);
            reads = new ArrayList<>(m.reads);
            past.clear();
        } else {
            Mark m = new Mark();
            m.how = now.copy();
            m.day = new ArrayList<>(day);
            m.reads = new ArrayList<>(reads);
            marks.put(mark, m);
        }
        return true;
    }

    int count(int what) {
        int fires = 0;
        for (int house = 0; house < 4; house++) {
            fires += now.fuel[house] >= 0 ? 1 << house : 0;
        }
        int[] all = {fuels(), told.flues(), told.houses.size(), told.signs.size(), told.watchers.size(), now.hour, wind(now.hour), fires,
            fuelsLeft(now), sum(now.soot), day.size(), reads.size(), past.size(), tape.length()};
        return what >= 0 && what < all.length ? all[what] : -1;
    }
}
