import java.util.ArrayList;
import java.util.Arrays;
import java.util.List;
import java.util.Random;
import java.util.TreeMap;

/** Long chance runs of calls, each answer held against a second, slower reading of the document. */
public final class OracleTest {
    private static int wrong = 0;

    public static void main(String[] args) {
        int runs = args.length > 0 ? Integer.parseInt(args[0]) : 1500;
        long seed = args.length > 1 ? Long.parseLong(args[1]) : 7;
        for (int run = 0; run < runs && wrong < 20; run++) {
            new Run(seed * 1_000_003L + run, run % 4).go();
        }
        System.out.println(wrong == 0 ? runs + " runs are as the oracle's" : wrong + " answers are not the oracle's");
        if (wrong != 0) {
            System.exit(1);
        }
    }

    /** One run: at most 512 calls on one object. */
    private static final class Run {
        final Random chance;
        final long seed;
        final int size;
        final FilmPrinter x = new FilmPrinter();
        final Oracle o = new Oracle();
        final StringBuilder told = new StringBuilder();
        int calls = 0;
        int seenLand = 0;

        Run(long seed, int size) {
            this.seed = seed;
            this.size = size;
            this.chance = new Random(seed);
        }

        void check(String call, int got, int want) {
            calls++;
            told.append(call).append(" -> ").append(got).append('\n');
            if (got != want) {
                wrong++;
                System.out.println("seed " + seed + " size " + size + ": " + call + " answered " + got + ", the oracle " + want);
            }
        }

        int pick(int low, int high) {
            return low + chance.nextInt(high - low + 1);
        }

        /** Mostly within bounds, now and then off them by one, or far off. */
        int arg(int low, int high) {
            int kind = chance.nextInt(40);
            if (kind == 0) {
                return low - 1;
            }
            if (kind == 1) {
                return high + 1;
            }
            if (kind == 2) {
                int[] far = {Integer.MIN_VALUE, Integer.MAX_VALUE, -1000, 1000, 1 << 16};
                return far[chance.nextInt(far.length)];
            }
            if (kind == 3) {
                return low;
            }
            if (kind == 4) {
                return high;
            }
            return pick(low, high);
        }

        void go() {
            int first = size == 0 ? 3 : size == 1 ? 6 : 16;
            int early = chance.nextInt(4) == 0 ? pick(0, first - 1) : -1;
            for (int n = 0; n < first; n++) {
                if (n == early) {
                    // BACK to few SHOTS makes room for others in their place
                    check("image(1)", x.image(1), o.image(1));
                }
                shot();
            }
            while (calls < 470 && wrong < 20) {
                change();
                for (int n = 0; n < 12 && calls < 500; n++) {
                    ask();
                }
            }
        }

        void shot() {
            int longest = size == 0 ? 4 : size == 1 ? 6 : 40;
            int l = pick(1, longest);
            int g = chance.nextBoolean() ? arg(0, 255) : pick(100, 120);
            int s = chance.nextBoolean() ? 0 : arg(-9, 9);
            int k = pick(0, 7);
            int so = pick(0, 100);
            int sh = pick(0, 40);
            switch (chance.nextInt(20)) {
                case 0 -> l = arg(1, 40);
                case 1 -> k = arg(0, 7);
                case 2 -> so = arg(0, 100);
                case 3 -> sh = arg(0, 40);
                default -> { }
            }
            check("shot(" + l + "," + g + "," + s + "," + k + "," + so + "," + sh + ")",
                    x.shot(l, g, s, k, so, sh), o.shot(l, g, s, k, so, sh));
            check("status()", x.status(), o.status);
        }

        void change() {
            switch (chance.nextInt(13)) {
                case 0:
                    shot();
                    break;
                case 1: {
                    int what = arg(0, 6);
                    int[] high = {20, 50, 100, 2000, 40, 200, 100};
                    int top = what >= 0 && what < 7 ? high[what] : 50;
                    int v = chance.nextBoolean() ? arg(0, Math.min(top, what == 3 ? 100 : 8)) : arg(0, top);
                    check("terms(" + what + "," + v + ")", x.terms(what, v), o.terms(what, v));
                    break;
                }
                case 2:
                case 3:
                case 4: {
                    feedText(bytesOf(lawText()));
                    check("law()", x.law(), o.law());
                    check("fault()", x.fault(), o.fault);
                    break;
                }
                case 5: {
                    int n = arg(0, 14);
                    int h = arg(0, 2);
                    check("fail(" + n + "," + h + ")", x.fail(n, h), o.fail(n, h));
                    break;
                }
                case 6:
                case 7:
                    feedText(seenRow());
                    check("see()", x.see(), o.see());
                    break;
                case 8:
                case 9: {
                    int c = arg(0, 1);
                    feedText(copyRow());
                    check("copy(" + c + ")", x.copy(c), o.copy(c));
                    break;
                }
                case 10:
                    int most = chance.nextInt(8) == 0 ? 60 : 4;
                    for (int n = 0; n < most && calls < 480; n++) {
                        int s = arg(0, 2);
                        int a = chance.nextBoolean() ? arg(0, 255) : arg(40, 60);
                        int r = arg(0, 255);
                        check("pair(" + s + "," + a + "," + r + ")", x.pair(s, a, r), o.pair(s, a, r));
                    }
                    break;
                case 11: {
                    int k = arg(0, 1);
                    if (chance.nextBoolean()) {
                        check("image(" + k + ")", x.image(k), o.image(k));
                    } else {
                        check("back(" + k + ")", x.back(k), o.back(k));
                    }
                    break;
                }
                default:
                    if (chance.nextInt(3) == 0) {
                        check("clear()", x.clear(), o.clear());
                    }
                    break;
            }
            check("status()", x.status(), o.status);
        }

        void feedText(List<Integer> bytes) {
            if (o.tape.size() > 0 && chance.nextInt(4) != 0) {
                check("end(0)", x.end(0), o.end(0));
            }
            int before = o.tape.size();
            for (int at = 0; at < bytes.size(); at += 20) {
                int[] w = new int[5];
                for (int k = 0; k < 20; k++) {
                    int b = at + k < bytes.size() ? bytes.get(at + k) : 32;
                    w[k / 4] = w[k / 4] << 8 | b;
                }
                check("feed(" + w[0] + "," + w[1] + "," + w[2] + "," + w[3] + "," + w[4] + ")",
                        x.feed(w[0], w[1], w[2], w[3], w[4]), o.feed(w[0], w[1], w[2], w[3], w[4]));
            }
            int n = chance.nextInt(8) == 0 ? arg(0, 400) : before + bytes.size();
            check("end(" + n + ")", x.end(n), o.end(n));
        }

        List<Integer> bytesOf(String text) {
            List<Integer> bytes = new ArrayList<>();
            for (int k = 0; k < text.length(); k++) {
                bytes.add((int) text.charAt(k));
            }
            return bytes;
        }

        List<Integer> seenRow() {
            int land = chance.nextInt(3) == 0 ? pick(0, 7) : seenLand;
            int[] fails = new int[15];
            for (int k = 0; k < 15; k++) {
                fails[k] = chance.nextInt(3) == 0 ? pick(0, 2) : 0;
            }
            List<int[]> places = o.places(land);
            int from = o.seen.size();
            int most = size < 2 ? 40 : 200;
            List<Integer> row = new ArrayList<>();
            for (int p = from; p < places.size() + 2 && row.size() < most; p++) {
                int grey = p < places.size() ? o.printedBy(land, p, fails) : 0;
                if (chance.nextInt(6) == 0) {
                    grey = pick(0, 255);
                } else if (chance.nextInt(3) == 0) {
                    grey = Math.max(0, Math.min(255, grey + pick(-5, 5)));
                }
                row.add(grey);
            }
            return row;
        }

        List<Integer> copyRow() {
            List<Integer> row = new ArrayList<>();
            int most = size == 0 ? 12 : size == 1 ? 30 : 240;
            int f = chance.nextInt(3) == 0 ? pick(0, 5) : 0;
            boolean wild = chance.nextInt(4) == 0;
            while (f < o.frames().size() && row.size() < most) {
                int grey = o.frames().get(f)[0];
                if (wild || chance.nextInt(5) == 0) {
                    grey = chance.nextBoolean() ? pick(100, 120) : pick(0, 255);
                }
                row.add(Math.max(0, Math.min(255, grey + pick(-3, 3))));
                row.add(chance.nextInt(3) == 0 ? 0 : chance.nextInt(3) == 0 ? pick(0, 255) : pick(0, 12));
                f += chance.nextInt(6) == 0 ? pick(0, 4) : 1;
            }
            if (chance.nextInt(5) == 0) {
                row.add(pick(0, 255));
            }
            return row;
        }

        /** A law that gives most SHOTS a LIGHT of its own, so that fails can be told apart. */
        String lights() {
            String[] laws = {"light 5+shot*7", "light 40-shot*3", "light [shot*13]-[shot*13/40*40]", "light grey/6",
                "light 10 if shot/2*2=shot; light 30 if not shot/2*2=shot", "light 8+kind*4;title 2 if kind=land"};
            return laws[chance.nextInt(laws.length)];
        }

        String lawText() {
            if (chance.nextInt(3) == 0) {
                return lights();
            }
            StringBuilder text = new StringBuilder();
            int clauses = chance.nextInt(12) == 0 ? pick(10, 14) : pick(1, 4);
            boolean brief = clauses > 8;
            for (int n = 0; n < clauses; n++) {
                if (n > 0) {
                    text.append(gap()).append(';').append(gap());
                }
                String[] heads = {"light", "title", "cut"};
                int head = chance.nextInt(3);
                text.append(heads[head]).append(gap());
                if (head < 2) {
                    text.append(sum(brief ? 3 : 0));
                }
                if (head == 2 ? chance.nextInt(10) != 0 : chance.nextInt(3) != 0) {
                    text.append(" if ").append(brief ? "land=" + pick(0, 7) : test(0));
                }
            }
            if (chance.nextInt(8) == 0) {
                text.append("   ");
            }
            int spoils = chance.nextInt(4) == 0 ? pick(1, 2) : 0;
            for (int n = 0; n < spoils && text.length() > 0; n++) {
                int at = chance.nextInt(text.length());
                String signs = " ;()[]<>=+-*/0919azgltx,ABC" + (char) 200 + (char) 0;
                switch (chance.nextInt(3)) {
                    case 0:
                        text.deleteCharAt(at);
                        break;
                    case 1:
                        text.setCharAt(at, signs.charAt(chance.nextInt(signs.length())));
                        break;
                    default:
                        text.insert(at, signs.charAt(chance.nextInt(signs.length())));
                        break;
                }
            }
            return text.length() > 400 ? text.substring(0, 400) : text.toString();
        }

        String gap() {
            int kind = chance.nextInt(6);
            return kind == 0 ? "" : kind == 1 ? "  " : " ";
        }

        String test(int depth) {
            StringBuilder text = new StringBuilder(both(depth));
            while (chance.nextInt(4) == 0) {
                text.append(" or ").append(both(depth));
            }
            return text.toString();
        }

        String both(int depth) {
            StringBuilder text = new StringBuilder(plain(depth));
            while (chance.nextInt(4) == 0) {
                text.append(" and ").append(plain(depth));
            }
            return text.toString();
        }

        String plain(int depth) {
            if (depth < 10 && chance.nextInt(6) == 0) {
                return "not " + plain(depth);
            }
            if (depth < 10 && chance.nextInt(depth > 2 ? 2 : 5) == 0) {
                return "(" + test(depth + 1) + ")";
            }
            String[] signs = {"<", ">", "="};
            return sum(depth) + gap() + signs[chance.nextInt(3)] + gap() + sum(depth);
        }

        String sum(int depth) {
            StringBuilder text = new StringBuilder(term(depth));
            while (chance.nextInt(4) == 0) {
                text.append(chance.nextBoolean() ? "+" : " - ").append(term(depth));
            }
            return text.toString();
        }

        String term(int depth) {
            StringBuilder text = new StringBuilder(part(depth));
            while (chance.nextInt(4) == 0) {
                text.append(chance.nextBoolean() ? "*" : " /").append(part(depth));
            }
            return text.toString();
        }

        String part(int depth) {
            if (depth < 10 && chance.nextInt(depth > 2 ? 3 : 7) == 0) {
                return "[" + sum(depth + 1) + "]";
            }
            String[] words = {"grey", "step", "length", "kind", "sound", "shot", "land", "land", "shot"};
            if (chance.nextBoolean()) {
                return words[chance.nextInt(words.length)];
            }
            int kind = chance.nextInt(12);
            if (kind == 0) {
                return "" + pick(99_990, 100_001);
            }
            if (kind == 1) {
                return "000" + pick(0, 30);
            }
            if (kind == 2) {
                return "100000*10000";
            }
            return "" + pick(0, kind < 8 ? 9 : 60);
        }

        void ask() {
            int land = chance.nextInt(3) == 0 ? seenLand : arg(0, 7);
            int most = Math.max(1, land >= 0 && land < 8 ? o.places(land).size() : 5);
            switch (chance.nextInt(19)) {
                case 0: {
                    int s = arg(0, 15);
                    int w = arg(0, 6);
                    check("of(" + s + "," + w + ")", x.of(s, w), o.of(s, w));
                    break;
                }
                case 1: {
                    int s = arg(0, Math.max(0, o.shots.size() - 1));
                    int w = arg(0, 2);
                    check("asks(" + s + "," + land + "," + w + ")", x.asks(s, land, w), o.asks(s, land, w));
                    break;
                }
                case 2: {
                    int w = arg(0, 1);
                    check("edition(" + land + "," + w + ")", x.edition(land, w), o.edition(land, w));
                    break;
                }
                case 3: {
                    int p = arg(0, most - 1);
                    int w = arg(0, 1);
                    check("place(" + land + "," + p + "," + w + ")", x.place(land, p, w), o.place(land, p, w));
                    break;
                }
                case 4:
                case 5: {
                    int p = arg(0, most - 1);
                    check("printed(" + land + "," + p + ")", x.printed(land, p), o.printed(land, p));
                    break;
                }
                case 6: {
                    int p = arg(0, Math.max(0, o.seen.size() - 1));
                    check("seen(" + p + ")", x.seen(p), o.seenAt(p));
                    break;
                }
                case 7:
                case 8: {
                    int w = arg(0, 2);
                    check("explain(" + land + "," + w + ")", x.explain(land, w), o.explain(land, w));
                    break;
                }
                case 9: {
                    int n = arg(0, Math.max(0, o.kept(land).size() - 2));
                    check("failed(" + land + "," + n + ")", x.failed(land, n), o.failed(land, n));
                    break;
                }
                case 10: {
                    int i = arg(-1, 6);
                    check("jump(" + land + "," + i + ")", x.jump(land, i), o.jump(land, i));
                    break;
                }
                case 11: {
                    int p = arg(0, most - 1);
                    check("heard(" + land + "," + p + ")", x.heard(land, p), o.heard(land, p));
                    break;
                }
                case 12: {
                    int w = arg(0, 2);
                    check("sound(" + land + "," + w + ")", x.sound(land, w), o.sound(land, w));
                    break;
                }
                case 13: {
                    int c = arg(0, 1);
                    int w = arg(0, 1);
                    check("match(" + c + "," + w + ")", x.match(c, w), o.match(c, w));
                    break;
                }
                case 14: {
                    int c = arg(0, 1);
                    int k = arg(0, c == 0 || c == 1 ? Math.max(0, o.copies.get(c).size() - 1) : 3);
                    check("matched(" + c + "," + k + ")", x.matched(c, k), o.matched(c, k));
                    break;
                }
                case 15: {
                    int w = arg(0, 4);
                    check("one(" + w + ")", x.one(w), o.one(w));
                    break;
                }
                case 16: {
                    int f = arg(0, Math.max(0, o.frames().size() - 1));
                    check("from(" + f + ")", x.from(f), o.from(f));
                    break;
                }
                case 17: {
                    int s = arg(0, 2);
                    int n = arg(0, 255);
                    check("brought(" + s + "," + n + ")", x.brought(s, n), o.brought(s, n));
                    break;
                }
                default: {
                    int w = arg(0, 6);
                    check("count(" + w + ")", x.count(w), o.count(w));
                    break;
                }
            }
        }
    }

    private static final class Fault extends RuntimeException {
        private static final long serialVersionUID = 1L;
        final int place;

        Fault(int place) {
            this.place = place;
        }
    }

    private static final class Broken extends RuntimeException {
        private static final long serialVersionUID = 1L;
    }

    private interface Num {
        long of(int[] shot, int number, int land);
    }

    private interface Say {
        boolean of(int[] shot, int number, int land);
    }

    private record Clause(String head, Num sum, Say test) { }

    /** Reads a text into trees of functions; a TOKEN that can't go on is thrown as a Fault. */
    private static final class Parser {
        final List<String> tokens = new ArrayList<>();
        final List<Integer> places = new ArrayList<>();
        int at = 0;
        int parts = 0;
        int open = 0;

        Parser(List<Integer> text) {
            int k = 0;
            while (k < text.size()) {
                int from = k;
                int kind = kind(text.get(k));
                k++;
                while (kind != 0 && k < text.size() && kind(text.get(k)) == kind) {
                    k++;
                }
                StringBuilder token = new StringBuilder();
                for (int n = from; n < k; n++) {
                    token.append((char) (int) text.get(n));
                }
                if (!token.toString().equals(" ")) {
                    tokens.add(token.toString());
                    places.add(from);
                }
            }
            tokens.add("");
            places.add(text.size());
        }

        static int kind(int b) {
            return b >= 'a' && b <= 'z' ? 1 : b >= '0' && b <= '9' ? 2 : 0;
        }

        Fault fault() {
            return new Fault(places.get(at));
        }

        boolean is(String token) {
            return tokens.get(at).equals(token);
        }

        boolean takes(String token) {
            if (is(token)) {
                at++;
                return true;
            }
            return false;
        }

        List<Clause> law() {
            List<Clause> clauses = new ArrayList<>();
            do {
                if (clauses.size() == 12) {
                    throw fault();
                }
                clauses.add(clause());
            } while (takes(";"));
            if (!is("")) {
                throw fault();
            }
            return clauses;
        }

        Clause clause() {
            String head = tokens.get(at);
            if (!List.of("light", "title", "cut").contains(head)) {
                throw fault();
            }
            at++;
            Num sum = head.equals("cut") ? null : sum();
            Say test = takes("if") ? test() : null;
            return new Clause(head, sum, test);
        }

        Say test() {
            Say left = both();
            while (takes("or")) {
                Say a = left;
                Say b = both();
                left = (s, n, l) -> a.of(s, n, l) || b.of(s, n, l);
            }
            return left;
        }

        Say both() {
            Say left = plain();
            while (takes("and")) {
                Say a = left;
                Say b = plain();
                left = (s, n, l) -> a.of(s, n, l) && b.of(s, n, l);
            }
            return left;
        }

        void openBracket() {
            if (open == 8) {
                throw fault();
            }
            open++;
            at++;
        }

        void closeBracket(String sign) {
            if (!takes(sign)) {
                throw fault();
            }
            open--;
        }

        Say plain() {
            if (takes("not")) {
                Say a = plain();
                return (s, n, l) -> !a.of(s, n, l);
            }
            if (is("(")) {
                openBracket();
                Say a = test();
                closeBracket(")");
                return a;
            }
            Num a = sum();
            String sign = tokens.get(at);
            if (!List.of("<", ">", "=").contains(sign)) {
                throw fault();
            }
            at++;
            Num b = sum();
            return (s, n, l) -> {
                long p = a.of(s, n, l);
                long q = b.of(s, n, l);
                return sign.equals("<") ? p < q : sign.equals(">") ? p > q : p == q;
            };
        }

        Num sum() {
            Num left = term();
            while (is("+") || is("-")) {
                int sign = is("+") ? 1 : -1;
                at++;
                Num a = left;
                Num b = term();
                left = (s, n, l) -> whole(a.of(s, n, l) + sign * b.of(s, n, l));
            }
            return left;
        }

        Num term() {
            Num left = part();
            while (is("*") || is("/")) {
                boolean times = is("*");
                at++;
                Num a = left;
                Num b = part();
                left = (s, n, l) -> {
                    long p = a.of(s, n, l);
                    long q = b.of(s, n, l);
                    if (!times && q == 0) {
                        throw new Broken();
                    }
                    return whole(times ? p * q : p / q);
                };
            }
            return left;
        }

        static long whole(long number) {
            if (Math.abs(number) > 1_000_000_000L) {
                throw new Broken();
            }
            return number;
        }

        Num part() {
            if (is("[")) {
                openBracket();
                Num a = sum();
                closeBracket("]");
                return a;
            }
            String token = tokens.get(at);
            int word = List.of("length", "grey", "step", "kind", "sound", "shot", "land").indexOf(token);
            boolean digits = !token.isEmpty() && kind(token.charAt(0)) == 2;
            if (word < 0 && !digits || parts == 50) {
                throw fault();
            }
            parts++;
            if (digits) {
                java.math.BigInteger number = new java.math.BigInteger(token);
                if (number.compareTo(java.math.BigInteger.valueOf(100_000)) > 0) {
                    throw fault();
                }
                long value = number.longValue();
                at++;
                return (s, n, l) -> value;
            }
            at++;
            if (word == 5) {
                return (s, n, l) -> n;
            }
            if (word == 6) {
                return (s, n, l) -> l;
            }
            return (s, n, l) -> s[word];
        }
    }

    /** What the document says, as plainly as can be. */
    private static final class Oracle {
        List<int[]> shots = new ArrayList<>();
        int[] terms = {4, 3, 5, 500, 20, 10, 10};
        List<Clause> clauses = new ArrayList<>();
        int[] fails = new int[15];
        List<Integer> seen = new ArrayList<>();
        List<List<int[]>> copies = new ArrayList<>(List.of(new ArrayList<>(), new ArrayList<>()));
        List<TreeMap<Integer, Integer>> strips = new ArrayList<>(List.of(new TreeMap<>(), new TreeMap<>(), new TreeMap<>()));
        List<Integer> tape = new ArrayList<>();
        int fault = -1;
        int status = 0;
        Object[][] images = new Object[2][];

        static boolean in(int n, int low, int high) {
            return low <= n && n <= high;
        }

        static int near(int n, int low, int high) {
            return n < low ? low : n > high ? high : n;
        }

        int said(int answer) {
            status = 0;
            return answer;
        }

        int no(int by) {
            status = by;
            return by;
        }

        int shot(int l, int g, int s, int k, int so, int sh) {
            if (!in(l, 1, 40) || !in(g, 0, 255) || !in(s, -9, 9) || !in(k, 0, 7) || !in(so, 0, 100) || !in(sh, 0, 40)) {
                return no(-1);
            }
            if (shots.size() == 16) {
                return no(-5);
            }
            shots.add(new int[] {l, g, s, k, so, sh});
            return said(shots.size() - 1);
        }

        /** Of each FRAME of the NEGATIVE: GREY, SHOT. */
        List<int[]> frames() {
            List<int[]> all = new ArrayList<>();
            for (int s = 0; s < shots.size(); s++) {
                for (int j = 0; j < shots.get(s)[0]; j++) {
                    all.add(new int[] {near(shots.get(s)[1] + j * shots.get(s)[2], 0, 255), s});
                }
            }
            return all;
        }

        int first(int shot) {
            int sum = 0;
            for (int s = 0; s < shot; s++) {
                sum += shots.get(s)[0];
            }
            return sum;
        }

        int of(int shot, int what) {
            if (!in(shot, 0, shots.size() - 1) || !in(what, 0, 6)) {
                return -1000;
            }
            return what == 6 ? first(shot) : shots.get(shot)[what];
        }

        int terms(int what, int value) {
            int[] low = {0, 0, 1, 1, 0, 0, 0};
            int[] high = {20, 50, 100, 2000, 40, 200, 100};
            if (!in(what, 0, 6) || !in(value, low[what], high[what])) {
                return no(-1);
            }
            int was = terms[what];
            terms[what] = value;
            return said(was);
        }

        int feed(int... numbers) {
            if (tape.size() > 380) {
                return -1;
            }
            for (int n : numbers) {
                for (byte b : java.nio.ByteBuffer.allocate(4).putInt(n).array()) {
                    tape.add(b & 255);
                }
            }
            return tape.size();
        }

        int end(int n) {
            if (!in(n, 0, tape.size())) {
                return -1;
            }
            tape = new ArrayList<>(tape.subList(0, n));
            return n;
        }

        int law() {
            List<Integer> text = tape;
            tape = new ArrayList<>();
            try {
                clauses = new Parser(text).law();
                fault = -1;
                return said(clauses.size());
            } catch (Fault f) {
                fault = f.place;
                return no(-6);
            }
        }

        int[] asked(int shot, int land) {
            int[] told = {20, 0, 0};
            for (Clause c : clauses) {
                try {
                    int[] s = shots.get(shot);
                    if (c.test != null && !c.test.of(s, shot, land)) {
                        continue;
                    }
                    long sum = c.sum == null ? 0 : c.sum.of(s, shot, land);
                    switch (c.head) {
                        case "light" -> told[0] = near((int) sum, 1, 40);
                        case "title" -> told[1] = near((int) sum, 0, 20);
                        default -> told[2] = 1;
                    }
                } catch (Broken b) {
                    // such a CLAUSE does not hold
                }
            }
            return told;
        }

        int asks(int shot, int land, int what) {
            if (!in(shot, 0, shots.size() - 1) || !in(land, 0, 7) || !in(what, 0, 2)) {
                return -1;
            }
            return asked(shot, land)[what];
        }

        List<Integer> kept(int land) {
            List<Integer> all = new ArrayList<>();
            for (int s = 0; s < shots.size() && in(land, 0, 7); s++) {
                if (asked(s, land)[2] == 0) {
                    all.add(s);
                }
            }
            return all;
        }

        /** Of each PLACE: SHOT, FRAME or -1, turn. */
        List<int[]> places(int land) {
            List<int[]> all = new ArrayList<>();
            List<Integer> kept = kept(land);
            for (int turn = 0; turn < kept.size(); turn++) {
                int s = kept.get(turn);
                for (int k = 0; k < asked(s, land)[1]; k++) {
                    all.add(new int[] {s, -1, turn});
                }
                for (int j = 0; j < shots.get(s)[0]; j++) {
                    all.add(new int[] {s, first(s) + j, turn});
                }
            }
            return all;
        }

        int edition(int land, int what) {
            if (!in(land, 0, 7) || !in(what, 0, 1)) {
                return -1;
            }
            return what == 0 ? places(land).size() : kept(land).size();
        }

        int place(int land, int place, int what) {
            if (!in(land, 0, 7) || !in(what, 0, 1) || !in(place, 0, places(land).size() - 1)) {
                return -1;
            }
            return places(land).get(place)[what];
        }

        int fail(int notch, int how) {
            if (!in(notch, 0, 14) || !in(how, 0, 2)) {
                return no(-1);
            }
            int was = fails[notch];
            fails[notch] = how;
            return said(was);
        }

        int printedBy(int land, int place, int[] by) {
            List<Integer> kept = kept(land);
            int[] p = places(land).get(place);
            int turn = 0;
            for (int notch = 0; notch < p[2]; notch++) {
                turn = Math.min(kept.size() - 1, turn + (by[notch] == 0 ? 1 : by[notch] == 1 ? 0 : 2));
            }
            return inked(p, asked(kept.get(turn), land)[0]);
        }

        int inked(int[] place, int light) {
            if (place[1] < 0) {
                return 255;
            }
            int[] s = shots.get(place[0]);
            int grey = near(s[1] + (place[1] - first(place[0])) * s[2], 0, 255);
            return near(grey + terms[0] * (light - 20), 0, 255);
        }

        int printed(int land, int place) {
            if (!in(land, 0, 7) || !in(place, 0, places(land).size() - 1)) {
                return -1;
            }
            return printedBy(land, place, fails);
        }

        int see() {
            List<Integer> row = tape;
            tape = new ArrayList<>();
            if (seen.size() + row.size() > 800) {
                return no(-5);
            }
            if (row.isEmpty()) {
                return no(-6);
            }
            seen.addAll(row);
            return said(seen.size());
        }

        int seenAt(int place) {
            return in(place, 0, seen.size() - 1) ? seen.get(place) : -1;
        }

        /** Cost, fails, apart, then the row of FAILS; null without. */
        int[] explained(int land) {
            if (!in(land, 0, 7) || seen.isEmpty() || kept(land).isEmpty()) {
                return null;
            }
            List<int[]> places = places(land);
            List<Integer> kept = kept(land);
            int k = kept.size();
            int[][] apart = new int[k][k];
            for (int turn = 0; turn < k; turn++) {
                int light = asked(kept.get(turn), land)[0];
                for (int p = 0; p < places.size() && p < seen.size(); p++) {
                    if (Math.abs(inked(places.get(p), light) - seen.get(p)) > terms[1]) {
                        apart[places.get(p)[2]][turn]++;
                    }
                }
            }
            return k <= 7 ? tryAll(apart, k) : forward(apart, k);
        }

        int[] tryAll(int[][] apart, int k) {
            int ways = 1;
            for (int n = 1; n < k; n++) {
                ways *= 3;
            }
            int[] best = null;
            for (int w = 0; w < ways; w++) {
                int[] row = new int[3 + k - 1];
                int rest = w;
                for (int n = k - 2; n >= 0; n--) {
                    row[3 + n] = rest % 3;
                    rest /= 3;
                }
                int turn = 0;
                row[2] = apart[0][0];
                for (int n = 0; n < k - 1; n++) {
                    turn = Math.min(k - 1, turn + (row[3 + n] == 0 ? 1 : row[3 + n] == 1 ? 0 : 2));
                    row[1] += row[3 + n] == 0 ? 0 : 1;
                    row[2] += apart[n + 1][turn];
                }
                row[0] = row[2] + terms[2] * row[1];
                if (best == null || row[0] < best[0] || row[0] == best[0] && row[1] < best[1]) {
                    best = row;
                }
            }
            return best;
        }

        int[] forward(int[][] apart, int k) {
            int[][] best = new int[k][];
            best[0] = new int[3 + k - 1];
            best[0][2] = apart[0][0];
            best[0][0] = apart[0][0];
            for (int n = 0; n < k - 1; n++) {
                int[][] then = new int[k][];
                for (int turn = 0; turn < k; turn++) {
                    for (int how = 0; how < 3 && best[turn] != null; how++) {
                        int to = Math.min(k - 1, turn + (how == 0 ? 1 : how == 1 ? 0 : 2));
                        int[] row = best[turn].clone();
                        row[3 + n] = how;
                        row[1] += how == 0 ? 0 : 1;
                        row[2] += apart[n + 1][to];
                        row[0] += apart[n + 1][to] + (how == 0 ? 0 : terms[2]);
                        if (then[to] == null || ahead(row, then[to])) {
                            then[to] = row;
                        }
                    }
                }
                best = then;
            }
            int[] all = null;
            for (int[] row : best) {
                if (row != null && (all == null || ahead(row, all))) {
                    all = row;
                }
            }
            return all;
        }

        static boolean ahead(int[] a, int[] b) {
            int[] p = a.clone();
            int[] q = b.clone();
            p[2] = 0;
            q[2] = 0;
            return Arrays.compare(p, q) < 0;
        }

        int explain(int land, int what) {
            int[] told = in(what, 0, 2) ? explained(land) : null;
            return told == null ? -1 : told[what];
        }

        int failed(int land, int notch) {
            int[] told = explained(land);
            return told == null || !in(notch, 0, told.length - 4) ? -1 : told[3 + notch];
        }

        int jump(int land, int i) {
            if (!in(land, 0, 7)) {
                return -1;
            }
            List<Integer> jumps = new ArrayList<>();
            int slip = 0;
            int turn = 0;
            List<int[]> places = places(land);
            for (int p = 0; p < places.size(); p++) {
                if (places.get(p)[2] != turn) {
                    turn = places.get(p)[2];
                    slip = slip / 2;
                }
                if (places.get(p)[1] >= 0) {
                    slip += shots.get(places.get(p)[0])[5];
                    if (slip >= terms[3]) {
                        jumps.add(p);
                        slip -= terms[3];
                    }
                }
            }
            return i == -1 ? jumps.size() : in(i, 0, jumps.size() - 1) ? jumps.get(i) : -1;
        }

        int heard(int land, int place) {
            if (!in(land, 0, 7) || !in(place, 0, places(land).size() - 1)) {
                return -1;
            }
            return heardIn(places(land), frames(), place);
        }

        int heardIn(List<int[]> places, List<int[]> frames, int place) {
            int strip = place - terms[4];
            if (strip < 0 || places.get(strip)[1] < 0) {
                return -1;
            }
            int f = places.get(strip)[1] + terms[4];
            return f < frames.size() ? frames.get(f)[1] : -1;
        }

        int sound(int land, int what) {
            if (!in(land, 0, 7) || !in(what, 0, 2)) {
                return -1;
            }
            int[] n = new int[3];
            List<int[]> places = places(land);
            List<int[]> frames = frames();
            for (int p = 0; p < places.size(); p++) {
                int h = heardIn(places, frames, p);
                n[0] += h != places.get(p)[0] ? 1 : 0;
                if (p > 0) {
                    int b = heardIn(places, frames, p - 1);
                    n[1] += h != b ? 1 : 0;
                    int one = h < 0 ? 0 : shots.get(h)[4];
                    int two = b < 0 ? 0 : shots.get(b)[4];
                    n[2] += h != b && Math.abs(one - two) > terms[6] ? 1 : 0;
                }
            }
            return n[what];
        }

        int copy(int c) {
            List<Integer> row = tape;
            tape = new ArrayList<>();
            if (!in(c, 0, 1)) {
                return no(-1);
            }
            if (copies.get(c).size() + row.size() / 2 > 640) {
                return no(-5);
            }
            if (row.isEmpty()) {
                return no(-6);
            }
            for (int k = 0; k + 1 < row.size(); k += 2) {
                copies.get(c).add(new int[] {row.get(k), row.get(k + 1)});
            }
            return said(copies.get(c).size());
        }

        int[] matching(int c) {
            List<int[]> rows = copies.get(c);
            List<int[]> frames = frames();
            int n = rows.size();
            int m = frames.size();
            int[] row = new int[n];
            if (n <= 7 && m <= 10) {
                int[] best = new int[n + 1];
                Arrays.fill(best, -1);
                every(rows, frames, 0, 0, row, best);
                return Arrays.copyOf(best, n);
            }
            int[][] most = new int[n + 1][m + 1];
            for (int k = n - 1; k >= 0; k--) {
                for (int f = m - 1; f >= 0; f--) {
                    most[k][f] = Math.max(most[k + 1][f], most[k][f + 1]);
                    if (Math.abs(rows.get(k)[0] - frames.get(f)[0]) <= terms[1]) {
                        most[k][f] = Math.max(most[k][f], 1 + most[k + 1][f + 1]);
                    }
                }
            }
            int from = 0;
            for (int k = 0; k < n; k++) {
                row[k] = -1;
                for (int f = from; f < m && row[k] < 0; f++) {
                    if (Math.abs(rows.get(k)[0] - frames.get(f)[0]) <= terms[1]
                            && 1 + most[k + 1][f + 1] == most[k][from]) {
                        row[k] = f;
                    }
                }
                from = row[k] < 0 ? from : row[k] + 1;
            }
            return row;
        }

        /** All ways, the better of alike ones first; best[n] is how many are MATCHED in the best, or -1. */
        void every(List<int[]> rows, List<int[]> frames, int k, int from, int[] row, int[] best) {
            int n = rows.size();
            if (k == n) {
                int count = (int) Arrays.stream(row).filter(f -> f >= 0).count();
                if (count > best[n]) {
                    System.arraycopy(row, 0, best, 0, n);
                    best[n] = count;
                }
                return;
            }
            for (int f = from; f < frames.size(); f++) {
                if (Math.abs(rows.get(k)[0] - frames.get(f)[0]) <= terms[1]) {
                    row[k] = f;
                    every(rows, frames, k + 1, f + 1, row, best);
                }
            }
            row[k] = -1;
            every(rows, frames, k + 1, from, row, best);
        }

        int match(int c, int what) {
            if (!in(c, 0, 1) || !in(what, 0, 1)) {
                return -1;
            }
            int count = (int) Arrays.stream(matching(c)).filter(f -> f >= 0).count();
            return what == 0 ? count : copies.get(c).size() - count;
        }

        int matched(int c, int k) {
            return in(c, 0, 1) && in(k, 0, copies.get(c).size() - 1) ? matching(c)[k] : -1;
        }

        int[][] had() {
            int m = frames().size();
            int[][] had = new int[2][m];
            for (int c = 0; c < 2; c++) {
                Arrays.fill(had[c], -1);
                int[] row = matching(c);
                for (int k = 0; k < row.length; k++) {
                    if (row[k] >= 0) {
                        had[c][row[k]] = copies.get(c).get(k)[1];
                    }
                }
            }
            return had;
        }

        /** The row of ONE as a text of 0, 1 and - (MISSING), behind its cost in six digits. */
        String made() {
            int[][] had = had();
            String[] best = {"000000", null, null};
            for (int f = 0; f < had[0].length; f++) {
                String[] then = new String[3];
                for (int last = 0; last < 3; last++) {
                    if (best[last] == null) {
                        continue;
                    }
                    if (had[0][f] < 0 && had[1][f] < 0) {
                        then[last] = best[last] + "-";
                        continue;
                    }
                    for (int c = 0; c < 2; c++) {
                        if (had[c][f] < 0) {
                            continue;
                        }
                        int cost = Integer.parseInt(best[last].substring(0, 6)) + had[c][f]
                                + (last != 0 && last != c + 1 ? terms[5] : 0);
                        String row = String.format("%06d", cost) + best[last].substring(6) + c;
                        if (then[c + 1] == null || row.compareTo(then[c + 1]) < 0) {
                            then[c + 1] = row;
                        }
                    }
                }
                best = then;
            }
            String all = null;
            for (String row : best) {
                if (row != null && (all == null || row.compareTo(all) < 0)) {
                    all = row;
                }
            }
            return all;
        }

        int one(int what) {
            if (!in(what, 0, 4)) {
                return -1;
            }
            String made = made();
            String row = made.substring(6);
            switch (what) {
                case 0:
                    return Integer.parseInt(made.substring(0, 6));
                case 1: {
                    String taken = row.replace("-", "");
                    int seams = 0;
                    for (int k = 1; k < taken.length(); k++) {
                        seams += taken.charAt(k) != taken.charAt(k - 1) ? 1 : 0;
                    }
                    return seams;
                }
                case 2:
                    return row.length() - row.replace("-", "").length();
                case 3: {
                    int longest = 0;
                    for (String gap : row.split("[01]")) {
                        longest = Math.max(longest, gap.length());
                    }
                    return longest;
                }
                default: {
                    int older = 0;
                    int[][] had = had();
                    for (int f = 0; f < had[0].length; f++) {
                        older += had[0][f] > 0 && had[1][f] > 0 ? 1 : 0;
                    }
                    return older;
                }
            }
        }

        int from(int frame) {
            if (!in(frame, 0, frames().size() - 1)) {
                return -1;
            }
            char c = made().charAt(6 + frame);
            return c == '-' ? -1 : c - '0';
        }

        int pair(int strip, int s, int r) {
            if (!in(strip, 0, 2) || !in(s, 0, 255) || !in(r, 0, 255)) {
                return no(-1);
            }
            TreeMap<Integer, Integer> pairs = strips.get(strip);
            if (pairs.size() == 20 && !pairs.containsKey(s)) {
                return no(-5);
            }
            pairs.put(s, r);
            return said(pairs.size());
        }

        int brought(int strip, int s) {
            if (!in(strip, 0, 2) || !in(s, 0, 255)) {
                return -1;
            }
            TreeMap<Integer, Integer> pairs = strips.get(strip);
            var low = pairs.floorEntry(s);
            var high = pairs.ceilingEntry(s);
            if (low == null && high == null) {
                return s;
            }
            if (low == null) {
                return near(high.getValue() - (high.getKey() - s), 0, 255);
            }
            if (high == null) {
                return near(low.getValue() + (s - low.getKey()), 0, 255);
            }
            if (low.getKey() == s) {
                return low.getValue();
            }
            return low.getValue()
                    + (high.getValue() - low.getValue()) * (s - low.getKey()) / (high.getKey() - low.getKey());
        }

        int clear() {
            int gone = seen.size() + copies.get(0).size() + copies.get(1).size();
            seen = new ArrayList<>();
            copies = new ArrayList<>(List.of(new ArrayList<>(), new ArrayList<>()));
            fails = new int[15];
            return gone;
        }

        Object[] all() {
            List<List<int[]>> c = new ArrayList<>();
            for (List<int[]> one : copies) {
                c.add(new ArrayList<>(one));
            }
            List<TreeMap<Integer, Integer>> s = new ArrayList<>();
            for (TreeMap<Integer, Integer> one : strips) {
                s.add(new TreeMap<>(one));
            }
            return new Object[] {new ArrayList<>(shots), terms.clone(), clauses, fails.clone(), new ArrayList<>(seen), c, s};
        }

        int image(int k) {
            if (!in(k, 0, 1)) {
                return no(-1);
            }
            images[k] = all();
            return said(0);
        }

        @SuppressWarnings("unchecked")
        int back(int k) {
            if (!in(k, 0, 1)) {
                return no(-1);
            }
            if (images[k] == null) {
                return no(-2);
            }
            Object[] was = images[k];
            shots = (List<int[]>) was[0];
            terms = (int[]) was[1];
            clauses = (List<Clause>) was[2];
            fails = (int[]) was[3];
            seen = (List<Integer>) was[4];
            copies = (List<List<int[]>>) was[5];
            strips = (List<TreeMap<Integer, Integer>>) was[6];
            images[k] = all();
            return said(0);
        }

        int count(int what) {
            switch (what) {
                case 0:
                    return shots.size();
                case 1:
                    return frames().size();
                case 2:
                    return clauses.size();
                case 3:
                    return seen.size();
                case 4:
                    return copies.get(0).size();
                case 5:
                    return copies.get(1).size();
                case 6:
                    return tape.size();
                default:
                    return -1;
            }
        }
    }
}
