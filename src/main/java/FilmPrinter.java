import java.util.Arrays;

/** A printer of films that runs by lights; ../shared/DOC.md tells what each call promises. */
public final class FilmPrinter {
    public static final int NONE = -1;

    private static final int NOTHING = -1000;

    private static final int BAD_NUMBER = -1;
    private static final int NOT_THERE = -2;
    private static final int NO_ROOM = -5;
    private static final int BAD_TEXT = -6;

    private static final int MOST_SHOTS = 16;
    private static final int MOST_FRAMES = 640;
    private static final int MOST_PLACES = 960;
    private static final int MOST_NOTCHES = 15;
    private static final int MOST_SEEN = 800;
    private static final int MOST_BYTES = 400;
    private static final int MOST_PAIRS = 20;
    private static final int MOST_CLAUSES = 12;
    private static final int MOST_PARTS = 50;
    private static final int MOST_BRACKETS = 8;
    private static final int LANDS = 8;
    private static final int COPIES = 2;
    private static final int STRIPS = 3;
    private static final int IMAGES = 2;
    private static final int TERMS = 7;
    private static final int GREYS = 256;
    private static final int WHITE = 255;

    /* What is told of a SHOT, numbered as of() numbers it. */
    private static final int LENGTH = 0;
    private static final int GREY = 1;
    private static final int STEP = 2;
    private static final int KIND = 3;
    private static final int SOUND = 4;
    private static final int SHRINK = 5;
    private static final int FIRST_FRAME = 6;
    private static final int TRAITS = 7;
    /* What a LAW can ask beyond the SHOT's own traits. */
    private static final int SHOT_NUMBER = 7;
    private static final int LAND_NUMBER = 8;
    private static final int ASKABLE = 9;

    /* The TERMS, numbered as terms() numbers them. */
    private static final int GAIN = 0;
    private static final int WITHIN = 1;
    private static final int FAULTY = 2;
    private static final int SLACK = 3;
    private static final int AHEAD = 4;
    private static final int SEAM = 5;
    private static final int LOUD = 6;
    private static final int[] LOWEST_TERM = {0, 0, 1, 1, 0, 0, 0};
    private static final int[] HIGHEST_TERM = {20, 50, 100, 2000, 40, 200, 100};
    private static final int[] FIRST_TERM = {4, 3, 5, 500, 20, 10, 10};

    /* TOKENS: a single byte stands for itself, all others lie above 255. */
    private static final int END = 256;
    private static final int NUMBER = 257;
    private static final int STRANGE_WORD = 258;
    private static final int LIGHT = 259;
    private static final int TITLE = 260;
    private static final int CUT = 261;
    private static final int IF = 262;
    private static final int OR = 263;
    private static final int AND = 264;
    private static final int NOT = 265;
    private static final int TRAIT = 266;
    private static final int LARGEST_NUMBER = 100_000;

    /* Steps of a LAW's code; + - * / < > = stand for themselves, by their bytes. */
    private static final int PUSH = 1;
    private static final int PUSH_TRAIT = 2;
    private static final int TURN = 3;
    private static final int DEMAND = 4;
    private static final int PASS_IF_SO = 5;
    private static final int PASS_IF_NOT = 6;
    private static final int CODE_ROOM = 256;
    private static final int STACK_ROOM = 64;
    private static final long BEYOND = 1_000_000_000L;

    private static final int PLAIN_LIGHT = 20;

    private final State now = new State();
    /** null: not kept as yet. */
    private final State[] images = new State[IMAGES];
    private final Tape tape = new Tape();
    private final Reader reader = new Reader();
    private final Asker asker = new Asker();
    private final Edition film = new Edition();
    private final Explainer explainer = new Explainer();
    private final Projector projector = new Projector();
    /** null: no COPY was asked of as yet. Its rows are the largest, and many objects never need them. */
    private Matcher matcher;
    /** null: ONE was not asked of as yet. */
    private Maker maker;
    private int faultPlace = NONE;
    private int refusedBy = 0;

    public FilmPrinter() {
    }

    public int shot(int length, int grey, int step, int kind, int sound, int shrink) {
        boolean canBe = between(length, 1, 40) && between(grey, 0, 255) && between(step, -9, 9)
                && between(kind, 0, 7) && between(sound, 0, 100) && between(shrink, 0, 40);
        if (!canBe) {
            return refuse(BAD_NUMBER);
        }
        if (now.shotCount >= MOST_SHOTS) {
            return refuse(NO_ROOM);
        }
        int base = now.shotCount * TRAITS;
        now.shots[base + LENGTH] = length;
        now.shots[base + GREY] = grey;
        now.shots[base + STEP] = step;
        now.shots[base + KIND] = kind;
        now.shots[base + SOUND] = sound;
        now.shots[base + SHRINK] = shrink;
        now.joinLatestShot();
        return accept(now.shotCount - 1);
    }

    public int of(int shot, int what) {
        if (!hasShot(shot) || !between(what, 0, TRAITS - 1)) {
            return NOTHING;
        }
        return now.trait(shot, what);
    }

    public int terms(int what, int value) {
        if (!between(what, 0, TERMS - 1) || !between(value, LOWEST_TERM[what], HIGHEST_TERM[what])) {
            return refuse(BAD_NUMBER);
        }
        int before = now.terms[what];
        now.terms[what] = value;
        return accept(before);
    }

    public int feed(int a, int b, int c, int d, int e) {
        if (tape.length + 20 > MOST_BYTES) {
            return NONE;
        }
        tape.append(a);
        tape.append(b);
        tape.append(c);
        tape.append(d);
        tape.append(e);
        return tape.length;
    }

    public int end(int n) {
        if (!between(n, 0, tape.length)) {
            return NONE;
        }
        tape.length = n;
        return n;
    }

    public int law() {
        faultPlace = reader.read(tape);
        tape.empty();
        if (faultPlace != NONE) {
            return refuse(BAD_TEXT);
        }
        now.law.take(reader.draft);
        return accept(now.law.clauseCount);
    }

    public int fault() {
        return faultPlace;
    }

    public int asks(int shot, int land, int what) {
        if (!hasShot(shot) || !isLand(land) || !between(what, 0, 2)) {
            return NONE;
        }
        asker.ask(now, shot, land);
        if (what == 0) {
            return asker.light;
        }
        if (what == 1) {
            return asker.title;
        }
        return asker.cut ? 1 : 0;
    }

    public int edition(int land, int what) {
        if (!isLand(land) || !between(what, 0, 1)) {
            return NONE;
        }
        film.build(now, asker, land);
        return what == 0 ? film.placeCount : film.keptCount;
    }

    public int place(int land, int place, int what) {
        if (!hasPlace(land, place) || !between(what, 0, 1)) {
            return NONE;
        }
        return what == 0 ? film.shotAt[place] : film.frameAt[place];
    }

    public int fail(int notch, int how) {
        if (!between(notch, 0, MOST_NOTCHES - 1) || !between(how, 0, 2)) {
            return refuse(BAD_NUMBER);
        }
        int before = now.fails[notch];
        now.fails[notch] = how;
        return accept(before);
    }

    public int printed(int land, int place) {
        if (!hasPlace(land, place)) {
            return NONE;
        }
        return film.greyBy(now, place, film.turnInUse(now, film.partAt[place]));
    }

    public int see() {
        int more = tape.empty();
        if (now.seenCount + more > MOST_SEEN) {
            return refuse(NO_ROOM);
        }
        if (more == 0) {
            return refuse(BAD_TEXT);
        }
        System.arraycopy(tape.bytes, 0, now.seen, now.seenCount, more);
        now.seenCount += more;
        return accept(now.seenCount);
    }

    public int seen(int place) {
        return between(place, 0, now.seenCount - 1) ? now.seen[place] : NONE;
    }

    public int explain(int land, int what) {
        if (!between(what, 0, 2) || !isExplained(land)) {
            return NONE;
        }
        if (what == 0) {
            return explainer.cost;
        }
        return what == 1 ? explainer.failCount : explainer.apartCount;
    }

    public int failed(int land, int notch) {
        if (!between(notch, 0, MOST_NOTCHES - 1) || !isExplained(land) || notch >= film.keptCount - 1) {
            return NONE;
        }
        return explainer.way[notch];
    }

    public int jump(int land, int i) {
        if (!isLand(land)) {
            return NONE;
        }
        film.build(now, asker, land);
        projector.runShrunk(now, film, i);
        return i == NONE ? projector.jumpCount : projector.jumpPlace;
    }

    public int heard(int land, int place) {
        if (!hasPlace(land, place)) {
            return NONE;
        }
        return projector.shotHeard(now, film, place);
    }

    public int sound(int land, int what) {
        if (!isLand(land) || !between(what, 0, 2)) {
            return NONE;
        }
        film.build(now, asker, land);
        projector.listen(now, film);
        if (what == 0) {
            return projector.offCount;
        }
        return what == 1 ? projector.joinCount : projector.loudCount;
    }

    public int copy(int copy) {
        int told = tape.empty();
        if (!isCopy(copy)) {
            return refuse(BAD_NUMBER);
        }
        int more = told / 2;
        if (now.copyCounts[copy] + more > MOST_FRAMES) {
            return refuse(NO_ROOM);
        }
        if (told == 0) {
            return refuse(BAD_TEXT);
        }
        int base = copy * MOST_FRAMES + now.copyCounts[copy];
        for (int k = 0; k < more; k++) {
            now.copyGreys[base + k] = tape.bytes[2 * k];
            now.copyScratches[base + k] = tape.bytes[2 * k + 1];
        }
        now.copyCounts[copy] += more;
        return accept(now.copyCounts[copy]);
    }

    public int match(int copy, int what) {
        if (!isCopy(copy) || !between(what, 0, 1)) {
            return NONE;
        }
        int matched = matching(copy).matchedCounts[copy];
        return what == 0 ? matched : now.copyCounts[copy] - matched;
    }

    public int matched(int copy, int k) {
        if (!isCopy(copy) || !between(k, 0, now.copyCounts[copy] - 1)) {
            return NONE;
        }
        return matching(copy).frameOf[copy * MOST_FRAMES + k];
    }

    public int one(int what) {
        if (!between(what, 0, 4)) {
            return NONE;
        }
        Maker made = makeOne();
        switch (what) {
            case 0:
                return made.cost;
            case 1:
                return made.seamCount;
            case 2:
                return made.missingCount;
            case 3:
                return made.longestMissing;
            default:
                return made.olderCount;
        }
    }

    public int from(int frame) {
        if (!between(frame, 0, now.frameCount - 1)) {
            return NONE;
        }
        return makeOne().taken[frame];
    }

    public int pair(int strip, int seen, int right) {
        if (!between(strip, 0, STRIPS - 1) || !isGrey(seen) || !isGrey(right)) {
            return refuse(BAD_NUMBER);
        }
        int at = strip * GREYS + seen;
        if (now.rights[at] == NONE) {
            if (now.pairCounts[strip] >= MOST_PAIRS) {
                return refuse(NO_ROOM);
            }
            now.pairCounts[strip]++;
        }
        now.rights[at] = right;
        return accept(now.pairCounts[strip]);
    }

    public int brought(int strip, int seen) {
        if (!between(strip, 0, STRIPS - 1) || !isGrey(seen)) {
            return NONE;
        }
        return now.broughtBack(strip * GREYS, seen);
    }

    public int clear() {
        int gone = now.seenCount + now.copyCounts[0] + now.copyCounts[1];
        now.seenCount = 0;
        Arrays.fill(now.copyCounts, 0);
        Arrays.fill(now.fails, 0);
        forgetMatching();
        return gone;
    }

    public int image(int k) {
        if (!between(k, 0, IMAGES - 1)) {
            return refuse(BAD_NUMBER);
        }
        State kept = images[k];
        if (kept == null) {
            kept = new State();
            images[k] = kept;
        }
        kept.take(now);
        return accept(0);
    }

    public int back(int k) {
        if (!between(k, 0, IMAGES - 1)) {
            return refuse(BAD_NUMBER);
        }
        State kept = images[k];
        if (kept == null) {
            return refuse(NOT_THERE);
        }
        now.take(kept);
        return accept(0);
    }

    public int count(int what) {
        switch (what) {
            case 0:
                return now.shotCount;
            case 1:
                return now.frameCount;
            case 2:
                return now.law.clauseCount;
            case 3:
                return now.seenCount;
            case 4:
                return now.copyCounts[0];
            case 5:
                return now.copyCounts[1];
            case 6:
                return tape.length;
            default:
                return NONE;
        }
    }

    public int status() {
        return refusedBy;
    }

    private int refuse(int by) {
        refusedBy = by;
        return by;
    }

    /** Any call that was let through may have changed what the matching rests on. */
    private int accept(int answer) {
        refusedBy = 0;
        forgetMatching();
        return answer;
    }

    private void forgetMatching() {
        if (matcher != null) {
            matcher.forget();
        }
    }

    private boolean hasShot(int shot) {
        return between(shot, 0, now.shotCount - 1);
    }

    /** Leaves the LAND's EDITION in film, if it has the PLACE. */
    private boolean hasPlace(int land, int place) {
        if (!isLand(land) || !between(place, 0, MOST_PLACES - 1)) {
            return false;
        }
        film.build(now, asker, land);
        return place < film.placeCount;
    }

    /** Leaves the LAND's EDITION in film and what EXPLAINED tells in explainer. */
    private boolean isExplained(int land) {
        if (now.seenCount == 0 || !isLand(land)) {
            return false;
        }
        film.build(now, asker, land);
        if (film.placeCount == 0) {
            return false;
        }
        explainer.work(now, film);
        return true;
    }

    /** The matching of a COPY as it is now. */
    private Matcher matching(int copy) {
        if (matcher == null) {
            matcher = new Matcher();
        }
        matcher.refresh(now, copy);
        return matcher;
    }

    private Maker makeOne() {
        if (maker == null) {
            maker = new Maker();
        }
        matching(0);
        maker.make(now, matching(1));
        return maker;
    }

    private static boolean isLand(int land) {
        return between(land, 0, LANDS - 1);
    }

    private static boolean isCopy(int copy) {
        return between(copy, 0, COPIES - 1);
    }

    private static boolean isGrey(int number) {
        return between(number, 0, WHITE);
    }

    private static boolean between(int number, int low, int high) {
        return number >= low && number <= high;
    }

    private static int nearest(int number, int low, int high) {
        return Math.max(low, Math.min(high, number));
    }

    /** The turn that a NOTCH leads to: never beyond the last KEPT SHOT's. */
    private static int turnAfter(int turn, int how, int keptCount) {
        int moves = how == 0 ? 1 : how == 1 ? 0 : 2;
        return Math.min(turn + moves, keptCount - 1);
    }

    /** All that an IMAGE keeps: its rows are made once and copied over, since room is scarce. */
    static final class State {
        int shotCount;
        int frameCount;
        int seenCount;
        final int[] shots = new int[MOST_SHOTS * TRAITS];
        final int[] frameGreys = new int[MOST_FRAMES];
        final int[] frameShots = new int[MOST_FRAMES];
        final int[] terms = FIRST_TERM.clone();
        final Law law = new Law();
        final int[] fails = new int[MOST_NOTCHES];
        final int[] seen = new int[MOST_SEEN];
        final int[] copyCounts = new int[COPIES];
        final int[] copyGreys = new int[COPIES * MOST_FRAMES];
        final int[] copyScratches = new int[COPIES * MOST_FRAMES];
        final int[] pairCounts = new int[STRIPS];
        /** For each STRIP and number SEEN the right one; NONE without a PAIR. */
        final int[] rights = new int[STRIPS * GREYS];

        State() {
            Arrays.fill(rights, NONE);
        }

        void take(State other) {
            shotCount = other.shotCount;
            frameCount = other.frameCount;
            seenCount = other.seenCount;
            refill(shots, other.shots);
            refill(frameGreys, other.frameGreys);
            refill(frameShots, other.frameShots);
            refill(terms, other.terms);
            law.take(other.law);
            refill(fails, other.fails);
            refill(seen, other.seen);
            refill(copyCounts, other.copyCounts);
            refill(copyGreys, other.copyGreys);
            refill(copyScratches, other.copyScratches);
            refill(pairCounts, other.pairCounts);
            refill(rights, other.rights);
        }

        static void refill(int[] row, int[] by) {
            System.arraycopy(by, 0, row, 0, Math.min(row.length, by.length));
        }

        int trait(int shot, int what) {
            return shots[shot * TRAITS + what];
        }

        /** The SHOT whose traits stand behind the last one becomes one of the NEGATIVE. */
        void joinLatestShot() {
            int shot = shotCount;
            int length = Math.min(trait(shot, LENGTH), MOST_FRAMES - frameCount);
            shots[shot * TRAITS + FIRST_FRAME] = frameCount;
            for (int j = 0; j < length; j++) {
                frameGreys[frameCount + j] = nearest(trait(shot, GREY) + j * trait(shot, STEP), 0, WHITE);
                frameShots[frameCount + j] = shot;
            }
            frameCount += length;
            shotCount++;
        }

        int broughtBack(int base, int number) {
            int low = number;
            while (low >= 0 && rights[base + low] == NONE) {
                low--;
            }
            int high = number;
            while (high < GREYS && rights[base + high] == NONE) {
                high++;
            }
            if (low < 0 && high >= GREYS) {
                return number;
            }
            if (low < 0) {
                return nearest(rights[base + high] + number - high, 0, WHITE);
            }
            if (high >= GREYS) {
                return nearest(rights[base + low] + number - low, 0, WHITE);
            }
            if (low >= high) {
                return rights[base + low];
            }
            int rise = rights[base + high] - rights[base + low];
            return rights[base + low] + rise * (number - low) / (high - low);
        }
    }

    /** The bytes that wait to become a LAW, a ROW that is SEEN, or one of a COPY. */
    static final class Tape {
        final int[] bytes = new int[MOST_BYTES];
        int length;

        void append(int number) {
            for (int shift = 24; shift >= 0; shift -= 8) {
                if (length < MOST_BYTES) {
                    bytes[length] = number >>> shift & 255;
                    length++;
                }
            }
        }

        /** How many bytes there were: they can still be read, until others come over them. */
        int empty() {
            int before = length;
            length = 0;
            return before;
        }
    }

    /** A LAW as code for a stack: all jumps lead on, so that a run of it has an end. */
    static final class Law {
        int clauseCount;
        int codeLength;
        final int[] heads = new int[MOST_CLAUSES];
        final int[] starts = new int[MOST_CLAUSES + 1];
        final int[] steps = new int[CODE_ROOM];
        final int[] values = new int[CODE_ROOM];

        void take(Law other) {
            clauseCount = other.clauseCount;
            codeLength = other.codeLength;
            State.refill(heads, other.heads);
            State.refill(starts, other.starts);
            State.refill(steps, other.steps);
            State.refill(values, other.values);
        }

        void empty() {
            clauseCount = 0;
            codeLength = 0;
        }

        void emit(int step, int value) {
            if (codeLength < CODE_ROOM) {
                steps[codeLength] = step;
                values[codeLength] = value;
                codeLength++;
            }
        }

        /** The step at this place passes over all that has come since. */
        void passToHere(int place) {
            if (place >= 0 && place < codeLength) {
                values[place] = codeLength;
            }
        }

        void closeClause(int head) {
            if (clauseCount < MOST_CLAUSES) {
                heads[clauseCount] = head;
                clauseCount++;
                starts[clauseCount] = codeLength;
            }
        }
    }

    /**
     * Reads a TAPE as a LAW. Each reading method answers whether all went well; if not, the TOKEN
     * that can't go on is the one that is next, as none is passed before it has been looked at.
     */
    static final class Reader {
        final Law draft = new Law();
        final int[] kinds = new int[MOST_BYTES + 1];
        final int[] values = new int[MOST_BYTES + 1];
        final int[] places = new int[MOST_BYTES + 1];
        int tokenCount;
        int next;
        int partCount;

        /** The FAULT's place; NONE, if there is none: then draft is the LAW. */
        int read(Tape tape) {
            split(tape);
            draft.empty();
            next = 0;
            partCount = 0;
            for (int n = 0; n < MOST_CLAUSES; n++) {
                if (!readClause()) {
                    return places[next];
                }
                if (kinds[next] == END) {
                    return NONE;
                }
                if (kinds[next] != ';') {
                    return places[next];
                }
                pass();
            }
            return places[next];
        }

        private void split(Tape tape) {
            tokenCount = 0;
            int at = 0;
            while (at < tape.length) {
                int first = tape.bytes[at];
                int end = at + 1;
                if (isLetter(first)) {
                    while (end < tape.length && isLetter(tape.bytes[end])) {
                        end++;
                    }
                    addWord(tape, at, end);
                } else if (isDigit(first)) {
                    while (end < tape.length && isDigit(tape.bytes[end])) {
                        end++;
                    }
                    addToken(NUMBER, numberIn(tape, at, end), at);
                } else if (first != ' ') {
                    addToken(first, 0, at);
                }
                at = end;
            }
            addToken(END, 0, tape.length);
        }

        private void addToken(int kind, int value, int place) {
            if (tokenCount < kinds.length) {
                kinds[tokenCount] = kind;
                values[tokenCount] = value;
                places[tokenCount] = place;
                tokenCount++;
            }
        }

        private static boolean isLetter(int sign) {
            return sign >= 'a' && sign <= 'z';
        }

        private static boolean isDigit(int sign) {
            return sign >= '0' && sign <= '9';
        }

        /** Any number above the largest is as good as another: it stops growing there. */
        private static int numberIn(Tape tape, int from, int to) {
            int number = 0;
            for (int at = from; at < to; at++) {
                number = Math.min(number * 10 + tape.bytes[at] - '0', LARGEST_NUMBER + 1);
            }
            return number;
        }

        private void addWord(Tape tape, int from, int to) {
            int trait = traitNamed(tape, from, to);
            if (trait != NONE) {
                addToken(TRAIT, trait, from);
            } else {
                addToken(wordNamed(tape, from, to), 0, from);
            }
        }

        private static int traitNamed(Tape tape, int from, int to) {
            if (says(tape, from, to, "grey")) {
                return GREY;
            }
            if (says(tape, from, to, "step")) {
                return STEP;
            }
            if (says(tape, from, to, "length")) {
                return LENGTH;
            }
            if (says(tape, from, to, "kind")) {
                return KIND;
            }
            if (says(tape, from, to, "sound")) {
                return SOUND;
            }
            if (says(tape, from, to, "shot")) {
                return SHOT_NUMBER;
            }
            return says(tape, from, to, "land") ? LAND_NUMBER : NONE;
        }

        private static int wordNamed(Tape tape, int from, int to) {
            if (says(tape, from, to, "light")) {
                return LIGHT;
            }
            if (says(tape, from, to, "title")) {
                return TITLE;
            }
            if (says(tape, from, to, "cut")) {
                return CUT;
            }
            if (says(tape, from, to, "if")) {
                return IF;
            }
            if (says(tape, from, to, "or")) {
                return OR;
            }
            if (says(tape, from, to, "and")) {
                return AND;
            }
            return says(tape, from, to, "not") ? NOT : STRANGE_WORD;
        }

        private static boolean says(Tape tape, int from, int to, String word) {
            if (to - from != word.length()) {
                return false;
            }
            for (int k = 0; k < word.length(); k++) {
                if (tape.bytes[from + k] != word.charAt(k)) {
                    return false;
                }
            }
            return true;
        }

        /** The last TOKEN is the end, which nothing passes. */
        private void pass() {
            if (next < tokenCount - 1) {
                next++;
            }
        }

        private boolean readClause() {
            int head = kinds[next];
            if (head != LIGHT && head != TITLE && head != CUT) {
                return false;
            }
            pass();
            if (head != CUT && !readSum(0)) {
                return false;
            }
            if (kinds[next] == IF) {
                pass();
                if (!readTest(0)) {
                    return false;
                }
                draft.emit(DEMAND, 0);
            }
            draft.closeClause(head);
            return true;
        }

        private boolean readTest(int depth) {
            if (!readBoth(depth)) {
                return false;
            }
            for (int n = 0; n < MOST_BYTES && kinds[next] == OR; n++) {
                pass();
                int passing = draft.codeLength;
                draft.emit(PASS_IF_SO, 0);
                if (!readBoth(depth)) {
                    return false;
                }
                draft.passToHere(passing);
            }
            return true;
        }

        private boolean readBoth(int depth) {
            if (!readPlain(depth)) {
                return false;
            }
            for (int n = 0; n < MOST_BYTES && kinds[next] == AND; n++) {
                pass();
                int passing = draft.codeLength;
                draft.emit(PASS_IF_NOT, 0);
                if (!readPlain(depth)) {
                    return false;
                }
                draft.passToHere(passing);
            }
            return true;
        }

        /** A row of "not" is counted, not gone into: it can be far longer than brackets are deep. */
        private boolean readPlain(int depth) {
            boolean turned = false;
            for (int n = 0; n < MOST_BYTES && kinds[next] == NOT; n++) {
                turned = !turned;
                pass();
            }
            if (kinds[next] == '(') {
                if (depth >= MOST_BRACKETS) {
                    return false;
                }
                pass();
                if (!readTest(depth + 1) || kinds[next] != ')') {
                    return false;
                }
                pass();
            } else if (!readComparison(depth)) {
                return false;
            }
            if (turned) {
                draft.emit(TURN, 0);
            }
            return true;
        }

        private boolean readComparison(int depth) {
            if (!readSum(depth)) {
                return false;
            }
            int sign = kinds[next];
            if (sign != '<' && sign != '>' && sign != '=') {
                return false;
            }
            pass();
            if (!readSum(depth)) {
                return false;
            }
            draft.emit(sign, 0);
            return true;
        }

        private boolean readSum(int depth) {
            if (!readTerm(depth)) {
                return false;
            }
            for (int n = 0; n < MOST_BYTES && (kinds[next] == '+' || kinds[next] == '-'); n++) {
                int sign = kinds[next];
                pass();
                if (!readTerm(depth)) {
                    return false;
                }
                draft.emit(sign, 0);
            }
            return true;
        }

        private boolean readTerm(int depth) {
            if (!readPart(depth)) {
                return false;
            }
            for (int n = 0; n < MOST_BYTES && (kinds[next] == '*' || kinds[next] == '/'); n++) {
                int sign = kinds[next];
                pass();
                if (!readPart(depth)) {
                    return false;
                }
                draft.emit(sign, 0);
            }
            return true;
        }

        private boolean readPart(int depth) {
            if (kinds[next] == '[') {
                if (depth >= MOST_BRACKETS) {
                    return false;
                }
                pass();
                if (!readSum(depth + 1) || kinds[next] != ']') {
                    return false;
                }
                pass();
                return true;
            }
            boolean number = kinds[next] == NUMBER && values[next] <= LARGEST_NUMBER;
            if (!number && kinds[next] != TRAIT || partCount >= MOST_PARTS) {
                return false;
            }
            partCount++;
            draft.emit(number ? PUSH : PUSH_TRAIT, values[next]);
            pass();
            return true;
        }
    }

    /** Asks a LAW of a SHOT for a LAND. */
    static final class Asker {
        final int[] stack = new int[STACK_ROOM];
        final int[] traits = new int[ASKABLE];
        int top;
        int light;
        int title;
        boolean cut;

        void ask(State state, int shot, int land) {
            for (int what = 0; what < TRAITS; what++) {
                traits[what] = state.trait(shot, what);
            }
            traits[SHOT_NUMBER] = shot;
            traits[LAND_NUMBER] = land;
            light = PLAIN_LIGHT;
            title = 0;
            cut = false;
            Law law = state.law;
            for (int n = 0; n < law.clauseCount; n++) {
                if (!holds(law, law.starts[n], law.starts[n + 1])) {
                    continue;
                }
                if (law.heads[n] == LIGHT) {
                    light = nearest(stack[0], 1, 40);
                } else if (law.heads[n] == TITLE) {
                    title = nearest(stack[0], 0, 20);
                } else {
                    cut = true;
                }
            }
        }

        /** What is BROKEN ends the CLAUSE at once; if it HOLDS, its SUM is left at the stack's bottom. */
        private boolean holds(Law law, int start, int end) {
            top = 0;
            int at = start;
            for (int n = 0; n < CODE_ROOM && at >= 0 && at < end; n++) {
                int step = law.steps[at];
                if (step == PASS_IF_SO || step == PASS_IF_NOT) {
                    if (top < 1) {
                        return false;
                    }
                    boolean so = stack[top - 1] != 0;
                    if (so == (step == PASS_IF_SO)) {
                        at = law.values[at];
                    } else {
                        top--;
                        at++;
                    }
                } else {
                    if (!run(step, law.values[at])) {
                        return false;
                    }
                    at++;
                }
            }
            return true;
        }

        private boolean run(int step, int value) {
            if (step == PUSH) {
                return push(value);
            }
            if (step == PUSH_TRAIT) {
                return value >= 0 && value < ASKABLE && push(traits[value]);
            }
            if (top < 1) {
                return false;
            }
            if (step == TURN) {
                stack[top - 1] = stack[top - 1] == 0 ? 1 : 0;
                return true;
            }
            if (step == DEMAND) {
                top--;
                return stack[top] != 0;
            }
            if (top < 2) {
                return false;
            }
            top--;
            return reckon(step, stack[top - 1], stack[top]);
        }

        private boolean push(int value) {
            if (top >= STACK_ROOM) {
                return false;
            }
            stack[top] = value;
            top++;
            return true;
        }

        /** The result takes the place of the left number; false if it is BROKEN. */
        private boolean reckon(int sign, long left, long right) {
            long result;
            switch (sign) {
                case '+':
                    result = left + right;
                    break;
                case '-':
                    result = left - right;
                    break;
                case '*':
                    result = left * right;
                    break;
                case '/':
                    if (right == 0) {
                        return false;
                    }
                    result = left / right;
                    break;
                case '<':
                    result = left < right ? 1 : 0;
                    break;
                case '>':
                    result = left > right ? 1 : 0;
                    break;
                default:
                    result = left == right ? 1 : 0;
                    break;
            }
            if (result > BEYOND || result < -BEYOND) {
                return false;
            }
            stack[top - 1] = (int) result;
            return true;
        }
    }

    /** The EDITION of one LAND, PLACE by PLACE; built anew for each call that asks for it. */
    static final class Edition {
        int placeCount;
        int keptCount;
        final int[] shotAt = new int[MOST_PLACES];
        /** The FRAME in the NEGATIVE; NONE: a TITLE. */
        final int[] frameAt = new int[MOST_PLACES];
        /** The turn of the KEPT SHOT to whose part the PLACE belongs. */
        final int[] partAt = new int[MOST_PLACES];
        final int[] lights = new int[MOST_SHOTS];

        void build(State state, Asker asker, int land) {
            placeCount = 0;
            keptCount = 0;
            for (int shot = 0; shot < state.shotCount; shot++) {
                asker.ask(state, shot, land);
                if (asker.cut) {
                    continue;
                }
                for (int k = 0; k < asker.title; k++) {
                    addPlace(shot, NONE);
                }
                int first = state.trait(shot, FIRST_FRAME);
                int length = state.trait(shot, LENGTH);
                for (int j = 0; j < length; j++) {
                    addPlace(shot, first + j);
                }
                lights[keptCount] = asker.light;
                keptCount++;
            }
        }

        private void addPlace(int shot, int frame) {
            if (placeCount < MOST_PLACES) {
                shotAt[placeCount] = shot;
                frameAt[placeCount] = frame;
                partAt[placeCount] = keptCount;
                placeCount++;
            }
        }

        boolean startsLaterPart(int place) {
            return place > 0 && partAt[place] != partAt[place - 1];
        }

        /** The turn whose LIGHT is in use in a part, by the FAILS that are set. */
        int turnInUse(State state, int part) {
            int turn = 0;
            for (int notch = 0; notch < part && notch < MOST_NOTCHES; notch++) {
                turn = turnAfter(turn, state.fails[notch], keptCount);
            }
            return turn;
        }

        /** What is PRINTED in a PLACE with the LIGHT of the KEPT SHOT of that turn. */
        int greyBy(State state, int place, int turn) {
            int frame = frameAt[place];
            if (frame == NONE) {
                return WHITE;
            }
            int more = state.terms[GAIN] * (lights[turn] - PLAIN_LIGHT);
            return nearest(state.frameGreys[frame] + more, 0, WHITE);
        }
    }

    /**
     * Finds the way that costs least from the last part back. Costs and fails go together in one
     * number (a cost weighs more than all fails there can be), so that one comparison tells both.
     */
    static final class Explainer {
        static final int COST = 32;

        /** For each part and turn in use: how many of the part's PLACES are apart. */
        final int[] apart = new int[MOST_SHOTS * MOST_SHOTS];
        /** For each part and turn in use: the least from that part on. */
        final int[] least = new int[MOST_SHOTS * MOST_SHOTS];
        final int[] way = new int[MOST_NOTCHES];
        int cost;
        int failCount;
        int apartCount;

        void work(State state, Edition film) {
            countApart(state, film);
            int failing = state.terms[FAULTY] * COST + 1;
            for (int part = film.keptCount - 1; part >= 0; part--) {
                for (int turn = 0; turn < film.keptCount; turn++) {
                    int at = part * MOST_SHOTS + turn;
                    least[at] = apart[at] * COST;
                    if (part < film.keptCount - 1) {
                        least[at] += leastBy(film, part, turn, bestFail(film, part, turn, failing), failing);
                    }
                }
            }
            follow(film, failing);
        }

        private void countApart(State state, Edition film) {
            Arrays.fill(apart, 0);
            int within = state.terms[WITHIN];
            int places = Math.min(film.placeCount, state.seenCount);
            for (int place = 0; place < places; place++) {
                int base = film.partAt[place] * MOST_SHOTS;
                for (int turn = 0; turn < film.keptCount; turn++) {
                    if (Math.abs(state.seen[place] - film.greyBy(state, place, turn)) > within) {
                        apart[base + turn]++;
                    }
                }
            }
        }

        /** What the NOTCH behind a part costs, if it fails so, with all that comes behind. */
        private int leastBy(Edition film, int part, int turn, int how, int failing) {
            int after = turnAfter(turn, how, film.keptCount);
            return (how == 0 ? 0 : failing) + least[(part + 1) * MOST_SHOTS + after];
        }

        private int bestFail(Edition film, int part, int turn, int failing) {
            int best = 0;
            for (int how = 1; how <= 2; how++) {
                if (leastBy(film, part, turn, how, failing) < leastBy(film, part, turn, best, failing)) {
                    best = how;
                }
            }
            return best;
        }

        /** Goes the best way from the first part on: the first of alike ones, NOTCH by NOTCH. */
        private void follow(Edition film, int failing) {
            cost = least[0] / COST;
            failCount = least[0] % COST;
            apartCount = 0;
            int turn = 0;
            for (int part = 0; part < film.keptCount; part++) {
                apartCount += apart[part * MOST_SHOTS + turn];
                if (part < film.keptCount - 1) {
                    way[part] = bestFail(film, part, turn, failing);
                    turn = turnAfter(turn, way[part], film.keptCount);
                }
            }
        }
    }

    /** Runs an EDITION over its teeth and past the sound. */
    static final class Projector {
        int jumpCount;
        /** The PLACE of the jump that was asked for; NONE without. */
        int jumpPlace;
        int offCount;
        int joinCount;
        int loudCount;

        void runShrunk(State state, Edition film, int asked) {
            jumpCount = 0;
            jumpPlace = NONE;
            int slack = state.terms[SLACK];
            int slip = 0;
            for (int place = 0; place < film.placeCount; place++) {
                if (film.startsLaterPart(place)) {
                    slip /= 2;
                }
                if (film.frameAt[place] == NONE) {
                    continue;
                }
                slip += state.trait(film.shotAt[place], SHRINK);
                if (slip >= slack) {
                    slip -= slack;
                    if (jumpCount == asked) {
                        jumpPlace = place;
                    }
                    jumpCount++;
                }
            }
        }

        int shotHeard(State state, Edition film, int place) {
            int ahead = state.terms[AHEAD];
            int strip = place - ahead;
            if (strip < 0 || film.frameAt[strip] == NONE) {
                return NONE;
            }
            int frame = film.frameAt[strip] + ahead;
            return frame < state.frameCount ? state.frameShots[frame] : NONE;
        }

        void listen(State state, Edition film) {
            offCount = 0;
            joinCount = 0;
            loudCount = 0;
            int before = NONE;
            for (int place = 0; place < film.placeCount; place++) {
                int here = shotHeard(state, film, place);
                if (here != film.shotAt[place]) {
                    offCount++;
                }
                if (place > 0 && here != before) {
                    joinCount++;
                    if (Math.abs(soundOf(state, here) - soundOf(state, before)) > state.terms[LOUD]) {
                        loudCount++;
                    }
                }
                before = here;
            }
        }

        private static int soundOf(State state, int shot) {
            return shot == NONE ? 0 : state.trait(shot, SOUND);
        }
    }

    /** Matches COPIES with the NEGATIVE; kept until something changes, as it is the dearest work. */
    static final class Matcher {
        static final int BITS = 64;
        static final int WORDS = MOST_FRAMES / BITS;

        /** For each COPY and frame of it the FRAME; NONE: STRAY. */
        final int[] frameOf = new int[COPIES * MOST_FRAMES];
        /** For each COPY and FRAME the SCRATCH that it has there; NONE: it has not the FRAME. */
        final int[] scratchOf = new int[COPIES * MOST_FRAMES];
        final int[] matchedCounts = new int[COPIES];
        final boolean[] fresh = new boolean[COPIES];
        /** How many can be MATCHED from a frame of the COPY and a FRAME on, for the latest frame. */
        final int[] most = new int[MOST_FRAMES + 1];
        /** A bit for each frame and FRAME: from there on as many can be with the frame MATCHED. */
        final long[] worthwhile = new long[MOST_FRAMES * WORDS];

        void forget() {
            for (int copy = 0; copy < COPIES; copy++) {
                fresh[copy] = false;
            }
        }

        void refresh(State state, int copy) {
            if (fresh[copy]) {
                return;
            }
            Arrays.fill(most, 0);
            Arrays.fill(worthwhile, 0);
            int base = copy * MOST_FRAMES;
            int within = state.terms[WITHIN];
            for (int k = state.copyCounts[copy] - 1; k >= 0; k--) {
                weigh(state, k, state.copyGreys[base + k], within);
            }
            choose(state, copy, within);
            fresh[copy] = true;
        }

        /** Brings most from the frame behind the k-th to the k-th, whose GREY is given. */
        private void weigh(State state, int k, int grey, int within) {
            int both = 0;
            boolean worth = false;
            for (int f = state.frameCount - 1; f >= 0; f--) {
                int without = most[f];
                if (Math.abs(grey - state.frameGreys[f]) <= within) {
                    most[f] = both + 1;
                    worth = true;
                } else {
                    worth = worth && most[f + 1] >= without;
                    most[f] = Math.max(without, most[f + 1]);
                }
                both = without;
                if (worth) {
                    worthwhile[k * WORDS + f / BITS] |= 1L << f % BITS;
                }
            }
        }

        /** The lowest FRAME that fits leaves the most behind it: no other need be looked at. */
        private void choose(State state, int copy, int within) {
            int base = copy * MOST_FRAMES;
            for (int frame = 0; frame < MOST_FRAMES; frame++) {
                scratchOf[base + frame] = NONE;
            }
            matchedCounts[copy] = 0;
            int f = 0;
            for (int k = 0; k < state.copyCounts[copy]; k++) {
                frameOf[base + k] = NONE;
                if (f >= state.frameCount || (worthwhile[k * WORDS + f / BITS] >>> f % BITS & 1) == 0) {
                    continue;
                }
                while (f < state.frameCount
                        && Math.abs(state.copyGreys[base + k] - state.frameGreys[f]) > within) {
                    f++;
                }
                if (f < state.frameCount) {
                    frameOf[base + k] = f;
                    scratchOf[base + f] = state.copyScratches[base + k];
                    matchedCounts[copy]++;
                    f++;
                }
            }
        }
    }

    /** Makes ONE of both COPIES: the least from each FRAME on, then the way from the first on. */
    static final class Maker {
        /** The least that all from a FRAME on costs, if COPY 0, 1 was the one taken latest. */
        final int[] leastBehind0 = new int[MOST_FRAMES + 1];
        final int[] leastBehind1 = new int[MOST_FRAMES + 1];
        final int[] taken = new int[MOST_FRAMES];
        int cost;
        int seamCount;
        int missingCount;
        int longestMissing;
        int olderCount;

        void make(State state, Matcher matcher) {
            int seam = state.terms[SEAM];
            leastBehind0[state.frameCount] = 0;
            leastBehind1[state.frameCount] = 0;
            for (int f = state.frameCount - 1; f >= 0; f--) {
                int from0 = costFrom(matcher, 0, f, leastBehind0);
                int from1 = costFrom(matcher, 1, f, leastBehind1);
                if (from0 == NONE && from1 == NONE) {
                    leastBehind0[f] = leastBehind0[f + 1];
                    leastBehind1[f] = leastBehind1[f + 1];
                } else {
                    leastBehind0[f] = lesser(from0, from1 == NONE ? NONE : from1 + seam);
                    leastBehind1[f] = lesser(from0 == NONE ? NONE : from0 + seam, from1);
                }
            }
            follow(state, matcher, seam);
            countMissing(state);
            countOlder(state, matcher);
        }

        /** What it costs to take a FRAME from a COPY, with all behind it; NONE: it has it not. */
        private static int costFrom(Matcher matcher, int copy, int f, int[] leastBehind) {
            int scratch = matcher.scratchOf[copy * MOST_FRAMES + f];
            return scratch == NONE ? NONE : scratch + leastBehind[f + 1];
        }

        private static int lesser(int one, int other) {
            if (one == NONE) {
                return other;
            }
            return other == NONE ? one : Math.min(one, other);
        }

        private void follow(State state, Matcher matcher, int seam) {
            cost = 0;
            seamCount = 0;
            int latest = NONE;
            for (int f = 0; f < state.frameCount; f++) {
                taken[f] = better(matcher, f, latest, seam);
                if (taken[f] == NONE) {
                    continue;
                }
                cost += matcher.scratchOf[taken[f] * MOST_FRAMES + f];
                if (latest != NONE && latest != taken[f]) {
                    cost += seam;
                    seamCount++;
                }
                latest = taken[f];
            }
        }

        /** The COPY to take a FRAME from, 0 of alike ones. */
        private int better(Matcher matcher, int f, int latest, int seam) {
            int from0 = costFrom(matcher, 0, f, leastBehind0);
            int from1 = costFrom(matcher, 1, f, leastBehind1);
            if (from0 == NONE || from1 == NONE) {
                return from0 != NONE ? 0 : from1 != NONE ? 1 : NONE;
            }
            int with0 = from0 + (latest == 1 ? seam : 0);
            int with1 = from1 + (latest == 0 ? seam : 0);
            return with0 <= with1 ? 0 : 1;
        }

        private void countMissing(State state) {
            missingCount = 0;
            longestMissing = 0;
            int row = 0;
            for (int f = 0; f < state.frameCount; f++) {
                if (taken[f] == NONE) {
                    missingCount++;
                    row++;
                    longestMissing = Math.max(longestMissing, row);
                } else {
                    row = 0;
                }
            }
        }

        private void countOlder(State state, Matcher matcher) {
            olderCount = 0;
            for (int f = 0; f < state.frameCount; f++) {
                if (matcher.scratchOf[f] > 0 && matcher.scratchOf[MOST_FRAMES + f] > 0) {
                    olderCount++;
                }
            }
        }
    }
}
