/** Families in a row under one roof, each of whom bears a pillar; the promises stand in shared/DOC.md. */
public final class EachBearsPillar {
    private static final int MOST_BEARERS = 7;
    private static final int MOST_SPANS = 6;
    private static final int PLACES = 16;
    private static final int ALL_LEVELS = 28;
    private static final int MOST_LETTERS = 96;
    private static final int MOST_WEIGHT = 99;
    private static final int MOST_HEIGHT = 9;
    private static final int MOST_BLOCK = 9;
    private static final int MOST_IN_ROW = 7;
    private static final int MOST_LOAD_TOLD = 400;
    private static final int MOST_MINUTES = 40;
    private static final int MOST_HAIL = 30;

    private static final int NOBODY = -1;
    private static final int OTHER = -2;
    private static final int STATE = -3;
    private static final int BELOW = -4;
    private static final int ROOM = -6;
    private static final int NONE = -9;

    private static final int CHILD = 1;
    private static final int TWINS = 2;
    private static final int SICK = 3;
    private static final int LAZY = 4;
    private static final int HELPER = 5;
    private static final String KIND_LETTERS = "bctslh";

    private final Roof now;
    private final Roof draft;
    private final Roof kept;
    private boolean hasImage;
    private final Mind mind;
    private final Text text;
    private final Walk walk;
    private final Orders standing;
    private final int[] told;
    private int toldLength;
    private final int[] refused;

    public EachBearsPillar() {
        now = new Roof();
        draft = new Roof();
        kept = new Roof();
        hasImage = false;
        mind = new Mind(now);
        text = new Text();
        walk = new Walk(mind);
        standing = new Orders(mind);
        told = new int[MOST_IN_ROW];
        toldLength = 0;
        refused = new int[7];
    }

    // ---- what is told ----

    public int letter(int c) {
        if (c < 0) {
            return refuse(BELOW);
        }
        if (c > 255 || text.length >= MOST_LETTERS) {
            return refuse(ROOM);
        }
        return text.append(c);
    }

    public int roof() {
        int answer = text.faultOfForm();
        if (answer == 0) {
            answer = enterStatements();
        }
        text.length = 0;
        return answer;
    }

    public int span(int span, int v) {
        if (!isSpan(span)) {
            return refuse(NOBODY);
        }
        if (v < 0) {
            return refuse(BELOW);
        }
        if (v > MOST_WEIGHT) {
            return refuse(ROOM);
        }
        return exchange(now.weight, span, v);
    }

    public int ground(int place, int v) {
        if (place < 0 || place >= PLACES) {
            return refuse(NOBODY);
        }
        if (v < 0) {
            return refuse(BELOW);
        }
        if (v > MOST_HEIGHT) {
            return refuse(ROOM);
        }
        return exchange(now.ground, place, v);
    }

    public int level(int v) {
        if (v < 0) {
            return refuse(BELOW);
        }
        if (v >= ALL_LEVELS) {
            return refuse(ROOM);
        }
        int before = now.level;
        now.level = v;
        return before;
    }

    public int block(int bearer, int v) {
        if (!now.hasBearer(bearer)) {
            return refuse(NOBODY);
        }
        if (v < 0) {
            return refuse(BELOW);
        }
        if (v > MOST_BLOCK) {
            return refuse(ROOM);
        }
        return exchange(now.block, bearer, v);
    }

    public int at(int v) {
        if (v < 0) {
            return refuse(BELOW);
        }
        if (v > now.lastAt()) {
            return refuse(ROOM);
        }
        int before = now.at;
        now.at = v;
        return before;
    }

    // ---- how it stands ----

    public int bearer(int bearer, int what) {
        if (!now.hasBearer(bearer)) {
            return refuse(NOBODY);
        }
        mind.asTold();
        int top = mind.topOf(bearer, bearer);
        switch (what) {
            case 0:
                return cell(now.kind, bearer);
            case 1:
                return cell(now.strength, bearer);
            case 2:
                return cell(now.height, bearer);
            case 3:
                return cell(now.block, bearer);
            case 4:
                return top;
            case 5:
                return mind.canBear(bearer, top) ? 1 : 0;
            case 6:
                return mind.canBear(bearer, top) && top > now.level ? 1 : 0;
            case 7:
                return mind.mightOf(bearer, top);
            default:
                return refuse(OTHER);
        }
    }

    public int load(int bearer) {
        if (!now.hasBearer(bearer)) {
            return refuse(NOBODY);
        }
        mind.asTold();
        mind.standAndWeigh();
        return cell(mind.load, bearer);
    }

    public int holds() {
        mind.asTold();
        return mind.isFirm() ? 1 : 0;
    }

    public int sag() {
        mind.asTold();
        mind.standAndWeigh();
        int pillar = mind.firstOverloaded();
        if (pillar >= 0) {
            return pillar;
        }
        int span = mind.firstFalling();
        return span >= 0 ? 10 + span : NONE;
    }

    public int count(int what) {
        switch (what) {
            case 0:
                return now.bearers;
            case 1:
                return now.at;
            case 2:
                return now.level;
            case 3:
                return sumOf(now.weight, MOST_SPANS);
            case 4:
                mind.asTold();
                mind.standAndWeigh();
                return sumOf(mind.load, now.bearers);
            case 5:
                mind.asTold();
                mind.standAndWeigh();
                return sumOf(mind.bearing, now.bearers);
            case 6:
                return toldLength;
            case 7:
                return text.length;
            default:
                return what >= 11 && what <= 16 ? cell(refused, what - 10) : NONE;
        }
    }

    // ---- how it might stand ----

    public int levels() {
        mind.asTold();
        int bits = 0;
        for (int level = 0; level < ALL_LEVELS; level++) {
            mind.level = level;
            if (mind.isFirm()) {
                bits |= 1 << level;
            }
        }
        return bits;
    }

    public int blocks() {
        mind.asTold();
        if (mind.isFirm()) {
            return 0;
        }
        int least = NONE;
        for (int one = 0; one < now.bearers; one++) {
            for (int other = one; other < now.bearers; other++) {
                int sum = raiseBoth(one, other);
                if (sum > 0 && (least < 0 || sum < least)) {
                    least = sum;
                }
            }
        }
        return least;
    }

    public int swap() {
        for (int lesser = 0; lesser < now.bearers; lesser++) {
            for (int other = lesser + 1; other < now.bearers; other++) {
                mind.asTold();
                setCell(mind.who, lesser, other);
                setCell(mind.who, other, lesser);
                if (mind.isFirm()) {
                    return 10 * lesser + other;
                }
            }
        }
        return NONE;
    }

    public int orders(int pillar) {
        if (pillar < -1 || pillar >= now.bearers) {
            return refuse(NOBODY);
        }
        mind.asTold();
        standing.fill();
        return pillar == -1 ? standing.total() : standing.firstUnder(pillar);
    }

    public int needed() {
        mind.asTold();
        if (!mind.isFirm()) {
            return 0;
        }
        int bits = 0;
        for (int bearer = 0; bearer < now.bearers; bearer++) {
            mind.idle = 1 << bearer;
            if (!mind.isFirm()) {
                bits |= 1 << bearer;
            }
        }
        return bits;
    }

    public int more(int span) {
        if (!isSpan(span)) {
            return refuse(NOBODY);
        }
        mind.asTold();
        if (!mind.isFirm()) {
            return NONE;
        }
        int most = 0;
        for (int extra = 1; extra <= MOST_WEIGHT; extra++) {
            setCell(mind.weight, span, cell(now.weight, span) + extra);
            mind.weigh();
            if (!mind.isBorne()) {
                return most;
            }
            most = extra;
        }
        return most;
    }

    public int seeds(int n, int z) {
        if (n < 1) {
            return refuse(BELOW);
        }
        if (n > MOST_HAIL) {
            return refuse(ROOM);
        }
        mind.asTold();
        mind.stand();
        int held = 0;
        int seed = z;
        for (int time = 0; time < n; time++) {
            for (int span = 0; span < MOST_SPANS; span++) {
                seed = seed * 1664525 + 1013904223;
                setCell(mind.weight, span, (seed & 0x7fffffff) / 256 % 100);
            }
            mind.weigh();
            if (mind.isBorne()) {
                held++;
            }
        }
        return held;
    }

    // ---- told loads ----

    public int row(int v) {
        if (v < 0) {
            return refuse(BELOW);
        }
        if (v > MOST_LOAD_TOLD || toldLength >= MOST_IN_ROW) {
            return refuse(ROOM);
        }
        setCell(told, toldLength, v);
        toldLength++;
        return toldLength;
    }

    public int slacked() {
        if (toldLength != now.bearers) {
            return refuse(STATE);
        }
        mind.asTold();
        int bits = firstUntrue() < 0 ? 128 : 0;
        for (int bearer = 0; bearer < now.bearers; bearer++) {
            mind.idle = 1 << bearer;
            if (firstUntrue() < 0) {
                bits |= 1 << bearer;
            }
        }
        return bits;
    }

    public int judge() {
        mind.asTold();
        int untrue = firstUntrue();
        int answer = NONE;
        if (untrue >= 0) {
            answer = untrue;
        } else if (toldLength != now.bearers) {
            answer = Math.min(toldLength, now.bearers);
        }
        toldLength = 0;
        return answer;
    }

    // ---- the roof goes on ----

    public int way(int to) {
        if (to < 0) {
            return refuse(BELOW);
        }
        if (to > now.lastAt()) {
            return refuse(ROOM);
        }
        mind.asTold();
        walk.explore();
        return walk.fewestTo(to);
    }

    public int reach(int n) {
        if (n < 0) {
            return refuse(BELOW);
        }
        if (n > MOST_MINUTES) {
            return refuse(ROOM);
        }
        mind.asTold();
        walk.explore();
        return walk.reachedWithin(n);
    }

    public int lowest(int to, int n) {
        if (to < 0 || n < 0) {
            return refuse(BELOW);
        }
        if (to > now.lastAt() || n > MOST_MINUTES) {
            return refuse(ROOM);
        }
        mind.asTold();
        walk.explore();
        return walk.lowestAt(to, n);
    }

    // ---- the image ----

    public int image() {
        kept.become(now);
        hasImage = true;
        return now.bearers;
    }

    public int on() {
        if (!hasImage) {
            return refuse(STATE);
        }
        now.become(kept);
        return now.bearers;
    }

    // ---- helpers ----

    private int refuse(int number) {
        setCell(refused, -number, cell(refused, -number) + 1);
        return number;
    }

    private static boolean isSpan(int span) {
        return span >= 0 && span < MOST_SPANS;
    }

    /** All statements enter the draft first, so that a fault leaves the roof as it was. */
    private int enterStatements() {
        draft.become(now);
        text.rewind();
        int statements = 0;
        for (int i = 0; i < MOST_LETTERS && text.place < text.length; i++) {
            int start = text.place;
            if (!text.readStatement() || !enterStatement()) {
                return -2000 - start;
            }
            statements++;
        }
        now.become(draft);
        return statements;
    }

    private boolean enterStatement() {
        int one = cell(text.numbers, 0);
        int two = cell(text.numbers, 1);
        switch (text.opener) {
            case 'b':
                return draft.addBearer(one, two, cell(text.numbers, 2));
            case 's':
                return isSpan(one) && setCell(draft.weight, one, two);
            case 'g':
                return one < PLACES && setCell(draft.ground, one, two);
            case 'l':
                draft.level = one < ALL_LEVELS ? one : draft.level;
                return one < ALL_LEVELS;
            case 'k':
                return draft.hasBearer(one) && setCell(draft.block, one, two);
            default:
                return false;
        }
    }

    /** The sum of the blocks under one or two bearers that lets it hold, or 0. */
    private int raiseBoth(int one, int other) {
        mind.asTold();
        int sum = raise(one);
        if (other != one) {
            int second = raise(other);
            sum = sum > 0 && second > 0 ? sum + second : 0;
        }
        return sum > 0 && mind.isFirm() ? sum : 0;
    }

    /**
     * Only the block that brings a bearer just to the level is worth a trial: with less of it
     * he bears no more than without, with more of it he is not mightier.
     */
    private int raise(int bearer) {
        int lack = mind.level - mind.topOf(bearer, bearer);
        if (lack <= 0 || cell(now.block, bearer) + lack > MOST_BLOCK) {
            return 0;
        }
        setCell(mind.raised, bearer, lack);
        return lack;
    }

    /** The first number of the row that is not the load there in mind, as far as both go, or -1. */
    private int firstUntrue() {
        mind.standAndWeigh();
        for (int i = 0; i < toldLength && i < now.bearers; i++) {
            if (cell(told, i) != cell(mind.load, i)) {
                return i;
            }
        }
        return -1;
    }

    private static int cell(int[] row, int i) {
        return row != null && i >= 0 && i < row.length ? row[i] : 0;
    }

    private static boolean setCell(int[] row, int i, int v) {
        if (row == null || i < 0 || i >= row.length) {
            return false;
        }
        row[i] = v;
        return true;
    }

    private static int exchange(int[] row, int i, int v) {
        int before = cell(row, i);
        setCell(row, i, v);
        return before;
    }

    private static void copyCells(int[] from, int[] to) {
        if (from == null || to == null) {
            return;
        }
        for (int i = 0; i < from.length && i < to.length; i++) {
            to[i] = from[i];
        }
    }

    private static int sumOf(int[] row, int length) {
        int sum = 0;
        for (int i = 0; i < length; i++) {
            sum += cell(row, i);
        }
        return sum;
    }

    /** All that is told of a roof: what an image keeps. */
    private static final class Roof {
        private int bearers;
        private int at;
        private int level;
        private final int[] kind;
        private final int[] strength;
        private final int[] height;
        private final int[] block;
        private final int[] weight;
        private final int[] ground;

        private Roof() {
            bearers = 0;
            at = 0;
            level = 0;
            kind = new int[MOST_BEARERS];
            strength = new int[MOST_BEARERS];
            height = new int[MOST_BEARERS];
            block = new int[MOST_BEARERS];
            weight = new int[MOST_SPANS];
            ground = new int[PLACES];
        }

        private void become(Roof other) {
            if (other == null) {
                return;
            }
            bearers = other.bearers;
            at = other.at;
            level = other.level;
            copyCells(other.kind, kind);
            copyCells(other.strength, strength);
            copyCells(other.height, height);
            copyCells(other.block, block);
            copyCells(other.weight, weight);
            copyCells(other.ground, ground);
        }

        private boolean hasBearer(int bearer) {
            return bearer >= 0 && bearer < bearers;
        }

        /** The greatest place of pillar 0 at which no bearer's pillar is beyond the ground. */
        private int lastAt() {
            return bearers > 1 ? PLACES - bearers : PLACES - 1;
        }

        private boolean addBearer(int kindToAdd, int strengthToAdd, int heightToAdd) {
            if (strengthToAdd < 1 || bearers >= MOST_BEARERS || at + bearers >= PLACES) {
                return false;
            }
            setCell(kind, bearers, kindToAdd);
            setCell(strength, bearers, strengthToAdd);
            setCell(height, bearers, heightToAdd);
            setCell(block, bearers, 0);
            bearers++;
            return true;
        }
    }

    /** The letters told so far, and the reading of them statement by statement. */
    private static final class Text {
        private final int[] letters;
        private int length;
        private int place;
        private int opener;
        private final int[] numbers;
        private int numbersRead;

        private Text() {
            letters = new int[MOST_LETTERS];
            length = 0;
            place = 0;
            opener = 0;
            numbers = new int[3];
            numbersRead = 0;
        }

        private int append(int c) {
            if (setCell(letters, length, c)) {
                length++;
            }
            return length;
        }

        private void rewind() {
            place = 0;
        }

        private int faultOfForm() {
            rewind();
            if (length == 0) {
                return -1000;
            }
            for (int i = 0; i < MOST_LETTERS && place < length; i++) {
                if (!readStatement()) {
                    return -1000 - place;
                }
            }
            return 0;
        }

        /** If it is not one, the place stays at the first letter that does not fit. */
        private boolean readStatement() {
            numbersRead = 0;
            opener = here();
            String form = formOf(opener);
            if (form.isEmpty()) {
                return false;
            }
            place++;
            for (int i = 0; i < form.length(); i++) {
                if (!readPart(form.charAt(i))) {
                    return false;
                }
            }
            return true;
        }

        /** What stands behind the first letter: K a kind, D a digit, N one or two digits. */
        private static String formOf(int first) {
            switch (first) {
                case 'b':
                    return "KN,D;";
                case 's':
                    return "D,N;";
                case 'g':
                    return "N,D;";
                case 'l':
                    return "N;";
                case 'k':
                    return "D,D;";
                default:
                    return "";
            }
        }

        private boolean readPart(char part) {
            switch (part) {
                case 'K':
                    return readKind();
                case 'D':
                    return readNumber(1);
                case 'N':
                    return readNumber(2);
                default:
                    if (here() != part) {
                        return false;
                    }
                    place++;
                    return true;
            }
        }

        private boolean readKind() {
            int sign = here();
            for (int kind = 0; kind < KIND_LETTERS.length(); kind++) {
                if (KIND_LETTERS.charAt(kind) == sign) {
                    place++;
                    keepNumber(kind);
                    return true;
                }
            }
            return false;
        }

        private boolean readNumber(int mostDigits) {
            int number = 0;
            int digits = 0;
            while (digits < mostDigits && here() >= '0' && here() <= '9') {
                number = 10 * number + here() - '0';
                place++;
                digits++;
            }
            keepNumber(number);
            return digits > 0;
        }

        private void keepNumber(int number) {
            setCell(numbers, numbersRead, number);
            numbersRead++;
        }

        private int here() {
            return place < length ? cell(letters, place) : -1;
        }
    }

    /** A roof as it stands in mind: as told, but for what is changed here. */
    private static final class Mind {
        private final Roof roof;
        private int at;
        private int level;
        /** Bits of the pillars whose bearers do not bear, though they might. */
        private int idle;
        private final int[] who;
        private final int[] raised;
        private final int[] weight;
        private final int[] bearing;
        private final int[] might;
        private final int[] load;

        private Mind(Roof told) {
            roof = told;
            at = 0;
            level = 0;
            idle = 0;
            who = new int[MOST_BEARERS];
            raised = new int[MOST_BEARERS];
            weight = new int[MOST_SPANS];
            bearing = new int[MOST_BEARERS];
            might = new int[MOST_BEARERS];
            load = new int[MOST_BEARERS];
        }

        private void asTold() {
            at = roof.at;
            level = roof.level;
            idle = 0;
            for (int pillar = 0; pillar < MOST_BEARERS; pillar++) {
                setCell(who, pillar, pillar);
                setCell(raised, pillar, 0);
            }
            copyCells(roof.weight, weight);
        }

        private int topOf(int bearer, int pillar) {
            return cell(roof.ground, at + pillar) + cell(roof.height, bearer)
                + cell(roof.block, bearer) + cell(raised, bearer);
        }

        private boolean canBear(int bearer, int top) {
            return cell(roof.kind, bearer) != SICK && top >= level;
        }

        private int mightOf(int bearer, int top) {
            int strength = cell(roof.strength, bearer);
            int plain = top > level ? strength / 2 : strength;
            switch (cell(roof.kind, bearer)) {
                case CHILD:
                    return plain / 2;
                case TWINS:
                    return 2 * plain;
                case LAZY:
                    return Math.max(0, plain - 3);
                case HELPER:
                    return 2 * strength;
                default:
                    return plain;
            }
        }

        private void stand() {
            for (int pillar = 0; pillar < roof.bearers; pillar++) {
                int bearer = cell(who, pillar);
                int top = topOf(bearer, pillar);
                boolean bears = canBear(bearer, top) && (idle >> pillar & 1) == 0;
                setCell(bearing, pillar, bears ? 1 : 0);
                setCell(might, pillar, mightOf(bearer, top));
            }
        }

        private void weigh() {
            for (int pillar = 0; pillar < roof.bearers; pillar++) {
                setCell(load, pillar, shareOf(pillar, pillar - 1) + shareOf(pillar, pillar + 1));
            }
        }

        private void standAndWeigh() {
            stand();
            weigh();
        }

        /** What a pillar bears of the span between it and its neighbour, in halves. */
        private int shareOf(int pillar, int neighbour) {
            if (!roof.hasBearer(neighbour) || cell(bearing, pillar) == 0) {
                return 0;
            }
            int w = cell(weight, Math.min(pillar, neighbour));
            return cell(bearing, neighbour) == 1 ? w : 2 * w;
        }

        private int firstOverloaded() {
            for (int pillar = 0; pillar < roof.bearers; pillar++) {
                if (cell(load, pillar) > 2 * cell(might, pillar)) {
                    return pillar;
                }
            }
            return -1;
        }

        private int firstFalling() {
            for (int span = 0; span + 1 < roof.bearers; span++) {
                if (cell(weight, span) > 0 && cell(bearing, span) == 0 && cell(bearing, span + 1) == 0) {
                    return span;
                }
            }
            return -1;
        }

        private boolean isBorne() {
            return firstOverloaded() < 0 && firstFalling() < 0;
        }

        private boolean isFirm() {
            stand();
            weigh();
            return isBorne();
        }
    }

    /** The way of the roof, by place and level, from where it is told to be. */
    private static final class Walk {
        private final Mind mind;
        private final int[] minutes;
        private final int[] queue;
        private int queued;

        private Walk(Mind inMind) {
            mind = inMind;
            minutes = new int[PLACES * ALL_LEVELS];
            queue = new int[PLACES * ALL_LEVELS];
            queued = 0;
        }

        private void explore() {
            for (int spot = 0; spot < minutes.length; spot++) {
                setCell(minutes, spot, NONE);
            }
            queued = 0;
            visit(mind.roof.at, mind.roof.level, 0);
            for (int next = 0; next < queued && next < queue.length; next++) {
                int spot = cell(queue, next);
                int at = spot / ALL_LEVELS;
                int level = spot % ALL_LEVELS;
                int minute = cell(minutes, spot) + 1;
                visit(at - 1, level, minute);
                visit(at + 1, level, minute);
                visit(at, level - 1, minute);
                visit(at, level + 1, minute);
            }
        }

        private void visit(int at, int level, int minute) {
            if (at < 0 || at > mind.roof.lastAt() || level < 0 || level >= ALL_LEVELS) {
                return;
            }
            int spot = at * ALL_LEVELS + level;
            if (cell(minutes, spot) >= 0) {
                return;
            }
            mind.at = at;
            mind.level = level;
            if (mind.isFirm() && setCell(queue, queued, spot)) {
                setCell(minutes, spot, minute);
                queued++;
            }
        }

        private int minutesTo(int at, int level) {
            return cell(minutes, at * ALL_LEVELS + level);
        }

        private int fewestTo(int at) {
            int fewest = NONE;
            for (int level = 0; level < ALL_LEVELS; level++) {
                int found = minutesTo(at, level);
                if (found >= 0 && (fewest < 0 || found < fewest)) {
                    fewest = found;
                }
            }
            return fewest;
        }

        private int reachedWithin(int most) {
            int bits = 0;
            for (int at = 0; at < PLACES; at++) {
                int fewest = fewestTo(at);
                if (fewest >= 0 && fewest <= most) {
                    bits |= 1 << at;
                }
            }
            return bits;
        }

        private int lowestAt(int at, int most) {
            for (int level = 0; level < ALL_LEVELS; level++) {
                int found = minutesTo(at, level);
                if (found >= 0 && found <= most) {
                    return level;
                }
            }
            return NONE;
        }
    }

    /**
     * The orders of the bearers, counted from the last pillar back: how the rest can stand depends
     * only on who stands already, on the last of them, and on whether the one before him bears.
     */
    private static final class Orders {
        private static final int SETS = 1 << MOST_BEARERS;

        private final Mind mind;
        /** By bearer and pillar: the greatest load he bears there, or -1 if he does not bear. */
        private final int[] most;
        private final int[] ways;

        private Orders(Mind inMind) {
            mind = inMind;
            most = new int[MOST_BEARERS * MOST_BEARERS];
            ways = new int[SETS * MOST_BEARERS * 2];
        }

        private void fill() {
            int bearers = mind.roof.bearers;
            for (int bearer = 0; bearer < bearers; bearer++) {
                for (int pillar = 0; pillar < bearers; pillar++) {
                    int top = mind.topOf(bearer, pillar);
                    int load = mind.canBear(bearer, top) ? 2 * mind.mightOf(bearer, top) : -1;
                    setCell(most, bearer * MOST_BEARERS + pillar, load);
                }
            }
            for (int set = (1 << bearers) - 1; set > 0; set--) {
                for (int last = 0; last < bearers; last++) {
                    if ((set >> last & 1) == 1) {
                        setCell(ways, spotOf(set, last, 0), waysOn(set, last, 0));
                        setCell(ways, spotOf(set, last, 1), waysOn(set, last, 1));
                    }
                }
            }
        }

        private static int spotOf(int set, int last, int before) {
            return (set * MOST_BEARERS + last) * 2 + before;
        }

        private int mostOf(int bearer, int pillar) {
            return cell(most, bearer * MOST_BEARERS + pillar);
        }

        private int waysOn(int set, int last, int before) {
            int pillar = Integer.bitCount(set) - 1;
            if (pillar + 1 >= mind.roof.bearers) {
                return bearsLeft(pillar, last, before, 0) ? 1 : 0;
            }
            int sum = 0;
            for (int next = 0; next < mind.roof.bearers; next++) {
                sum += waysWith(set, last, before, next);
            }
            return sum;
        }

        /** In how many ways the rest can stand, if the next pillar is this one's. */
        private int waysWith(int set, int last, int before, int next) {
            if ((set >> next & 1) == 1) {
                return 0;
            }
            int pillar = Integer.bitCount(set) - 1;
            int w = cell(mind.weight, pillar);
            boolean lastBears = mostOf(last, pillar) >= 0;
            boolean nextBears = mostOf(next, pillar + 1) >= 0;
            if (!lastBears && !nextBears && w > 0) {
                return 0;
            }
            if (!bearsLeft(pillar, last, before, nextBears ? w : 2 * w)) {
                return 0;
            }
            return cell(ways, spotOf(set | 1 << next, next, lastBears ? 1 : 0));
        }

        /** Whether the one under this pillar bears what comes from the left and a load from the right. */
        private boolean bearsLeft(int pillar, int bearer, int before, int right) {
            int can = mostOf(bearer, pillar);
            int w = cell(mind.weight, pillar - 1);
            int left = before == 1 ? w : 2 * w;
            return can < 0 || left + right <= can;
        }

        private int total() {
            if (mind.roof.bearers == 0) {
                return 1;
            }
            int sum = 0;
            for (int first = 0; first < mind.roof.bearers; first++) {
                sum += cell(ways, spotOf(1 << first, first, 0));
            }
            return sum;
        }

        private int firstUnder(int pillar) {
            int set = 0;
            int last = -1;
            int before = 0;
            for (int p = 0; p <= pillar && p < mind.roof.bearers; p++) {
                int next = leastNext(set, last, before);
                if (next < 0) {
                    return NONE;
                }
                before = p > 0 && mostOf(last, p - 1) >= 0 ? 1 : 0;
                set |= 1 << next;
                last = next;
            }
            return last;
        }

        private int leastNext(int set, int last, int before) {
            for (int next = 0; next < mind.roof.bearers; next++) {
                int found = set == 0 ? cell(ways, spotOf(1 << next, next, 0)) : waysWith(set, last, before, next);
                if (found > 0) {
                    return next;
                }
            }
            return -1;
        }
    }
}
