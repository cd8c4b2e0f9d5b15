import java.util.Arrays;

/** The town's sampler: a canvas in cross stitch, its laws, and what can be got out of it. */
public final class SamplerLaw {
    public static final int BAD = -1, STATE = -2, FULL = -3, NONE = -4;

    private static final int SIDE = 6;
    private static final int CELLS = SIDE * SIDE;
    private static final int BARE = 0;
    private static final int RED = 1;
    private static final int COLOURS = 3;
    private static final int HOLE = 4;
    private static final int SHADES = 5;

    private static final int KIND_BESIDE = 0;
    private static final int KIND_MIRROR = 1;
    private static final int KIND_ABOVE = 2;
    private static final int KIND_CROSS = 3;

    private static final int LAW_FIRST = 1;
    private static final int LAW_SECOND = 2;
    private static final int LAW_WORTH = 3;
    private static final int LAW_PARTS = 4;

    private static final int MOST_LAWS = 5;
    private static final int MOST_WORTH = 9;
    private static final int MOST_READS = 60;
    private static final int MOST_THREAD = 99;
    private static final int FIRST_THREAD = 20;
    private static final int MOST_PLANNED = 8;
    private static final int MOST_SEEN = 6;
    private static final int MOST_FILLED = 4;
    private static final int MOST_RUNNING = 8;
    private static final int MOST_DRIFTS = 60;
    private static final int MOST_BYTES = 160;
    private static final int MOST_SHEETS = 4;
    private static final int MOST_LAID = 40;
    private static final int MOST_READ = 13;

    private static final int LANE_BYTES = 0;
    private static final int LANE_SHORTS = 1;
    private static final int LANE_INTS = 2;

    private static final int NULL_FAULT = 1;
    private static final int INDEX_FAULT = 2;
    private static final int CAST_FAULT = 3;
    private static final int SIZE_FAULT = 4;

    private static final int ODDS = 10;

    private final Charter now = new Charter();
    /** Where a thing is tried out, so that what is refused or only asked changes nothing. */
    private final Charter trial = new Charter();
    private final Image firstImage = new Image();
    private final Image secondImage = new Image();
    private final Tape tape = new Tape();
    private final Choice choice = new Choice();
    private final Sheet[] sheets = new Sheet[MOST_SHEETS];
    private final int[] needed = new int[2];
    private final int[] seenLaws = new int[MOST_SEEN];
    private final int[] seenReads = new int[MOST_SEEN];
    private final int[] holes = new int[MOST_FILLED];
    private final int[] groups = new int[MOST_LAWS * (MOST_READS + 1)];
    private final int[] runners = new int[MOST_RUNNING];
    private int seenCount;
    private int holeCount;
    private int runnerCount;
    private int tornFault;

    public SamplerLaw() {
        for (int k = 0; k < MOST_SHEETS; k++) {
            sheets[k] = new Sheet();
        }
    }

    // ---- the text, what there is

    public int feed(int c) {
        if (c < 0 || c > 127) {
            return BAD;
        }
        if (tape.length >= MOST_BYTES) {
            return FULL;
        }
        tape.bytes[tape.length] = c;
        tape.length++;
        return tape.length;
    }

    public int end(int n) {
        if (n < 0 || n > tape.length) {
            return BAD;
        }
        int had = tape.length;
        tape.length = n;
        return had;
    }

    public int text() {
        int lines = tape.tell(trial);
        tape.length = 0;
        if (tape.faultKind != 0) {
            return -10 - tape.faultPlace;
        }
        now.copyFrom(trial);
        seenCount = 0;
        firstImage.kept = false;
        secondImage.kept = false;
        return lines;
    }

    public int fault() {
        return tape.faultKind;
    }

    public int rule(int what) {
        switch (what) {
            case 0:
                return now.lawCount;
            case 1:
                return CELLS - now.cellsOf(BARE) - now.cellsOf(HOLE);
            case 2:
                return now.cellsOf(HOLE);
            case 3:
                return now.planCount;
            case 4:
                return now.heldBits();
            case 5:
                return now.worth();
            default:
                return BAD;
        }
    }

    public int cell(int x, int y) {
        return isCell(x, y) ? now.cells[place(x, y)] : BAD;
    }

    public int thread(int c) {
        return isColour(c) ? now.spools[c] : BAD;
    }

    public int law(int l, int what) {
        if (!isLaw(l) || what < 0 || what > 5) {
            return BAD;
        }
        if (what < LAW_PARTS) {
            return now.laws[l * LAW_PARTS + what];
        }
        return what == 4 ? now.reads(l) : now.readsByBack(l);
    }

    public int stitch(int i, int what) {
        if (i < 0 || i >= now.planCount) {
            return BAD;
        }
        switch (what) {
            case 0:
                return now.planCells[i] / SIDE;
            case 1:
                return now.planCells[i] % SIDE;
            case 2:
                return now.planColours[i];
            default:
                return BAD;
        }
    }

    // ---- what is changed

    public int amend(int l, int what, int v) {
        if (!isLaw(l) || !isLawPart(what, v)) {
            return BAD;
        }
        int was = now.laws[l * LAW_PARTS + what];
        now.laws[l * LAW_PARTS + what] = v;
        return was;
    }

    public int spool(int c, int v) {
        if (!isColour(c) || v < 0 || v > MOST_THREAD) {
            return BAD;
        }
        int was = now.spools[c];
        now.spools[c] = v;
        return was;
    }

    public int plan(int x, int y, int c) {
        if (!isCell(x, y) || !isColour(c)) {
            return BAD;
        }
        if (now.planCount >= MOST_PLANNED) {
            return FULL;
        }
        now.planCells[now.planCount] = place(x, y);
        now.planColours[now.planCount] = c;
        now.planCount++;
        return now.planCount;
    }

    public int cut(int n) {
        if (n < 0 || n > now.planCount) {
            return BAD;
        }
        int had = now.planCount;
        now.planCount = n;
        return had;
    }

    public int enact(int kind, int first, int second, int worth) {
        if (!isLawPart(0, kind) || !isLawPart(LAW_FIRST, first)
                || !isLawPart(LAW_SECOND, second) || !isLawPart(LAW_WORTH, worth)) {
            return BAD;
        }
        if (now.lawCount >= MOST_LAWS) {
            return FULL;
        }
        now.addLaw(kind, first, second, worth);
        return now.lawCount;
    }

    // ---- stitches

    public int work(int x, int y, int c) {
        if (!isCell(x, y) || !isColour(c)) {
            return BAD;
        }
        int at = place(x, y);
        if (!now.canTake(at, c)) {
            return STATE;
        }
        now.take(at, c);
        return now.worth();
    }

    public int unpick(int x, int y) {
        if (!isCell(x, y)) {
            return BAD;
        }
        int at = place(x, y);
        int colour = now.cells[at];
        if (!isColour(colour)) {
            return STATE;
        }
        now.put(at, BARE);
        return colour;
    }

    public int moth(int x, int y) {
        if (!isCell(x, y)) {
            return BAD;
        }
        int at = place(x, y);
        int colour = now.cells[at];
        if (colour == HOLE) {
            return STATE;
        }
        now.put(at, HOLE);
        return colour;
    }

    public int mend(int x, int y) {
        if (!isCell(x, y)) {
            return BAD;
        }
        int at = place(x, y);
        if (now.cells[at] != HOLE) {
            return STATE;
        }
        now.put(at, BARE);
        return now.cellsOf(HOLE);
    }

    public int runs(int what) {
        if (what < 0 || what > 3) {
            return BAD;
        }
        followPlan(NONE);
        switch (what) {
            case 0:
                return trial.worth();
            case 1:
                return trial.heldBits();
            case 2:
                return trial.planCame;
            default:
                return trial.planPassed;
        }
    }

    public int ahead(int x, int y) {
        if (!isCell(x, y)) {
            return BAD;
        }
        followPlan(NONE);
        return trial.cells[place(x, y)];
    }

    // ---- what is best

    public int best(int what) {
        if (!isPart(what)) {
            return BAD;
        }
        trial.copyFrom(now);
        choice.begin(trial.worth());
        for (int at = 0; at < CELLS; at++) {
            for (int c = 1; c <= COLOURS; c++) {
                if (trial.canTake(at, c)) {
                    trial.put(at, c);
                    choice.offer(stitchCode(at, c), trial.worth());
                    trial.put(at, BARE);
                }
            }
        }
        return choice.told(what);
    }

    public int need(int l, int what) {
        if (!isLaw(l) || (what != 0 && what != 10 && what != 11)) {
            return BAD;
        }
        int many = fewestToHold(l);
        if (many == NONE || what == 0) {
            return many;
        }
        int i = what - 10;
        return i < many ? needed[i] : NONE;
    }

    public int loose(int l, int what) {
        if (!isLaw(l) || !isPart(what)) {
            return BAD;
        }
        trial.copyFrom(now);
        choice.begin(-trial.reads(l));
        for (int at = 0; at < CELLS; at++) {
            int colour = trial.cells[at];
            if (isColour(colour)) {
                trial.put(at, BARE);
                choice.offer(10 * (at / SIDE) + at % SIDE, -trial.reads(l));
                trial.put(at, colour);
            }
        }
        if (choice.code == NONE || what == 0) {
            return choice.code;
        }
        return -choice.score;
    }

    public int dye(int what) {
        if (!isPart(what)) {
            return BAD;
        }
        trial.copyFrom(now);
        choice.begin(trial.worth());
        for (int lesser = 1; lesser < COLOURS; lesser++) {
            for (int greater = lesser + 1; greater <= COLOURS; greater++) {
                trial.exchange(lesser, greater);
                choice.offer(10 * lesser + greater, trial.worth());
                trial.exchange(lesser, greater);
            }
        }
        return choice.told(what);
    }

    public int turn(int what) {
        if (!isPart(what)) {
            return BAD;
        }
        trial.copyFrom(now);
        choice.begin(trial.worth());
        for (int y = 0; y < SIDE; y++) {
            trial.turnRow(y);
            choice.offer(y, trial.worth());
            trial.turnRow(y);
        }
        return choice.told(what);
    }

    public int leave(int what) {
        if (!isPart(what)) {
            return BAD;
        }
        followPlan(NONE);
        choice.begin(trial.worth());
        for (int i = 0; i < now.planCount; i++) {
            followPlan(i);
            choice.offer(i, trial.worth());
        }
        return choice.told(what);
    }

    // ---- red that runs

    public long luck(int v, int l, int what) {
        if (v < 0 || v > ODDS || !isLaw(l) || !isPart(what)) {
            return BAD;
        }
        if (!gatherRunners()) {
            return STATE;
        }
        long sum = 0;
        int all = 1 << runnerCount;
        for (int ran = 0; ran < all; ran++) {
            letRun(ran);
            if (trial.reads(l) > 0) {
                sum += weight(ran, v);
            }
        }
        return fractionPart(sum, what);
    }

    public long mean(int v, int what) {
        if (v < 0 || v > ODDS || !isPart(what)) {
            return BAD;
        }
        if (!gatherRunners()) {
            return STATE;
        }
        long sum = 0;
        int all = 1 << runnerCount;
        for (int ran = 0; ran < all; ran++) {
            letRun(ran);
            sum += weight(ran, v) * trial.worth();
        }
        return fractionPart(sum, what);
    }

    // ---- what was in the holes

    public int see(int l, int n) {
        if (!isLaw(l) || n < 0 || n > MOST_READS) {
            return BAD;
        }
        if (seenCount >= MOST_SEEN) {
            return FULL;
        }
        seenLaws[seenCount] = l;
        seenReads[seenCount] = n;
        seenCount++;
        return seenCount;
    }

    public int forget(int n) {
        if (n < 0 || n > seenCount) {
            return BAD;
        }
        int had = seenCount;
        seenCount = n;
        return had;
    }

    public int fills() {
        if (!gatherHoles()) {
            return STATE;
        }
        int fitting = 0;
        int all = fillCount();
        for (int fill = 0; fill < all; fill++) {
            if (fits(fill)) {
                fitting++;
            }
        }
        return fitting;
    }

    public int shades(int x, int y) {
        if (!isCell(x, y)) {
            return BAD;
        }
        int at = place(x, y);
        if (now.cells[at] != HOLE || !gatherHoles()) {
            return STATE;
        }
        int bits = 0;
        int all = fillCount();
        for (int fill = 0; fill < all; fill++) {
            if (fits(fill)) {
                bits |= 1 << trial.cells[at];
            }
        }
        return bits;
    }

    public int span(int what) {
        if (!isPart(what)) {
            return BAD;
        }
        if (!gatherHoles()) {
            return STATE;
        }
        int found = NONE;
        int all = fillCount();
        for (int fill = 0; fill < all; fill++) {
            if (fits(fill)) {
                int worth = trial.worth();
                if (found == NONE) {
                    found = worth;
                }
                found = what == 0 ? Math.min(found, worth) : Math.max(found, worth);
            }
        }
        return found;
    }

    public int ask(int what) {
        if (!isPart(what)) {
            return BAD;
        }
        if (!gatherHoles()) {
            return STATE;
        }
        int fitting = groupByReads();
        choice.begin(-fitting);
        for (int l = 0; l < now.lawCount; l++) {
            choice.offer(l, -largestGroup(l));
        }
        if (choice.code == NONE || what == 0) {
            return choice.code;
        }
        return -choice.score;
    }

    // ---- by a seed

    public int drift(int seed, int n, int what) {
        if (n < 1 || n > MOST_DRIFTS || !isPart(what)) {
            return BAD;
        }
        trial.copyFrom(now);
        int s = seed;
        for (int i = 0; i < n; i++) {
            s = s * 1103515245 + 12345;
            driftOnce((s >>> 16) & 0x7fff);
        }
        return what == 0 ? trial.worth() : trial.cellsOf(HOLE);
    }

    // ---- images, sheets

    public int keep(int k) {
        if (k != 0 && k != 1) {
            return BAD;
        }
        Image image = k == 0 ? firstImage : secondImage;
        int was = image.kept ? 1 : 0;
        image.charter.copyFrom(now);
        image.kept = true;
        return was;
    }

    public int back(int k) {
        if (k != 0 && k != 1) {
            return BAD;
        }
        Image image = k == 0 ? firstImage : secondImage;
        if (!image.kept) {
            return STATE;
        }
        now.copyFrom(image.charter);
        return now.worth();
    }

    public int sheet(int k, int lane, int n) {
        if (!isSheet(k) || !isLane(lane) || n > MOST_LAID) {
            return BAD;
        }
        if (n < 0) {
            return -10 - SIZE_FAULT;
        }
        sheets[k].renew(lane, n);
        return 1;
    }

    public int lay(int k, int i, int v) {
        if (!isSheet(k)) {
            return BAD;
        }
        Sheet sheet = sheets[k];
        int found = sheet.faultAt(i, 1);
        if (found != 0) {
            return -10 - found;
        }
        sheet.set(i, v);
        return 1;
    }

    public int read(int k, int lane, int f, int n) {
        if (!isSheet(k) || !isLane(lane) || n < 0 || n > MOST_READ) {
            return BAD;
        }
        Sheet sheet = sheets[k];
        trial.copyFrom(now);
        int came = 0;
        int found = 0;
        for (int i = 0; i < n && found == 0; i++) {
            int from = f + 3 * i;
            found = sheet.faultAsOf(lane, from, 3);
            if (found == 0) {
                if (!workFrom(sheet, from)) {
                    return -20 - i;
                }
                came++;
            }
        }
        now.copyFrom(trial);
        tornFault = found;
        return came;
    }

    public int torn() {
        return tornFault;
    }

    public int count(int what) {
        switch (what) {
            case 0:
                return seenCount;
            case 1:
                return (firstImage.kept ? 1 : 0) + (secondImage.kept ? 1 : 0);
            case 2:
                return tape.length;
            case 3:
                return sheets[0].length < 0 ? NONE : sheets[0].length;
            case 4:
                return now.spools[1] + now.spools[2] + now.spools[3];
            case 5:
                return now.runningCells();
            default:
                return BAD;
        }
    }

    // ---- what numbers are as told

    private static boolean isCell(int x, int y) {
        return x >= 0 && x < SIDE && y >= 0 && y < SIDE;
    }

    private static boolean isColour(int c) {
        return c >= 1 && c <= COLOURS;
    }

    private static boolean isPart(int what) {
        return what == 0 || what == 1;
    }

    private static boolean isSheet(int k) {
        return k >= 0 && k < MOST_SHEETS;
    }

    private static boolean isLane(int lane) {
        return lane >= LANE_BYTES && lane <= LANE_INTS;
    }

    private boolean isLaw(int l) {
        return l >= 0 && l < now.lawCount;
    }

    private static boolean isLawPart(int what, int v) {
        switch (what) {
            case 0:
                return v >= KIND_BESIDE && v <= KIND_CROSS;
            case LAW_FIRST:
            case LAW_SECOND:
                return isColour(v);
            case LAW_WORTH:
                return v >= 1 && v <= MOST_WORTH;
            default:
                return false;
        }
    }

    /** Column by column, so that rising places are rising numbers of best(), loose() and drift(). */
    private static int place(int x, int y) {
        return x * SIDE + y;
    }

    private static int stitchCode(int at, int c) {
        return 100 * (at / SIDE) + 10 * (at % SIDE) + c;
    }

    // ---- what is tried out

    private void followPlan(int leftOut) {
        trial.copyFrom(now);
        trial.planCame = 0;
        trial.planPassed = NONE;
        for (int i = 0; i < trial.planCount; i++) {
            if (i != leftOut) {
                trial.takePlanned(i);
            }
        }
    }

    private int fewestToHold(int l) {
        if (now.reads(l) > 0) {
            return 0;
        }
        trial.copyFrom(now);
        if (holdsByOne(l)) {
            return 1;
        }
        return holdsByTwo(l) ? 2 : NONE;
    }

    private boolean holdsByOne(int l) {
        for (int i = 0; i < CELLS; i++) {
            if (holdsByStitchAt(l, placeByRows(i), 0)) {
                return true;
            }
        }
        return false;
    }

    /** Where one stitch is not enough, both must lie in one place that is read: side by side. */
    private boolean holdsByTwo(int l) {
        for (int i = 0; i < CELLS; i++) {
            int at = placeByRows(i);
            for (int c = 1; c <= COLOURS; c++) {
                if (trial.canTake(at, c)) {
                    trial.take(at, c);
                    needed[0] = stitchCode(at, c);
                    boolean right = at / SIDE < SIDE - 1 && holdsByStitchAt(l, at + SIDE, 1);
                    if (right || (at % SIDE < SIDE - 1 && holdsByStitchAt(l, at + 1, 1))) {
                        return true;
                    }
                    trial.takeBack(at);
                }
            }
        }
        return false;
    }

    private boolean holdsByStitchAt(int l, int at, int i) {
        for (int c = 1; c <= COLOURS; c++) {
            if (trial.canTake(at, c)) {
                trial.put(at, c);
                boolean held = trial.reads(l) > 0;
                trial.put(at, BARE);
                if (held) {
                    needed[i] = stitchCode(at, c);
                    return true;
                }
            }
        }
        return false;
    }

    private static int placeByRows(int i) {
        return place(i % SIDE, i / SIDE);
    }

    private boolean workFrom(Sheet sheet, int from) {
        int x = sheet.laid[from];
        int y = sheet.laid[from + 1];
        int c = sheet.laid[from + 2];
        if (!isCell(x, y) || !isColour(c) || !trial.canTake(place(x, y), c)) {
            return false;
        }
        trial.take(place(x, y), c);
        return true;
    }

    private void driftOnce(int got) {
        int at = got % CELLS;
        int shade = trial.cells[at];
        if (shade == HOLE) {
            trial.put(at, BARE);
        } else if (shade != BARE) {
            trial.put(at, HOLE);
        } else {
            int c = 1 + got / 64 % COLOURS;
            if (trial.canTake(at, c)) {
                trial.take(at, c);
            }
        }
    }

    // ---- odds

    private boolean gatherRunners() {
        if (now.runningCells() > MOST_RUNNING) {
            return false;
        }
        trial.copyFrom(now);
        runnerCount = 0;
        for (int at = 0; at < CELLS; at++) {
            if (now.canRun(at) && runnerCount < MOST_RUNNING) {
                runners[runnerCount] = at;
                runnerCount++;
            }
        }
        return true;
    }

    private void letRun(int ran) {
        for (int i = 0; i < runnerCount; i++) {
            trial.put(runners[i] + SIDE, (ran >> i & 1) == 1 ? RED : BARE);
        }
    }

    private long weight(int ran, int v) {
        long product = 1;
        for (int i = 0; i < runnerCount; i++) {
            product *= (ran >> i & 1) == 1 ? v : ODDS - v;
        }
        return product;
    }

    private long fractionPart(long above, int what) {
        long below = 1;
        for (int i = 0; i < runnerCount; i++) {
            below *= ODDS;
        }
        long divisor = greatestDivisor(above, below);
        return (what == 0 ? above : below) / divisor;
    }

    /** Of a above or equal to 0 and b above 0, so it is above 0 itself. */
    private static long greatestDivisor(long a, long b) {
        long greater = b;
        long lesser = a;
        for (int i = 0; i < 200 && lesser > 0; i++) {
            long rest = greater % lesser;
            greater = lesser;
            lesser = rest;
        }
        return Math.max(greater, 1);
    }

    // ---- fills

    private boolean gatherHoles() {
        if (now.cellsOf(HOLE) > MOST_FILLED) {
            return false;
        }
        trial.copyFrom(now);
        holeCount = 0;
        for (int at = 0; at < CELLS; at++) {
            if (now.cells[at] == HOLE && holeCount < MOST_FILLED) {
                holes[holeCount] = at;
                holeCount++;
            }
        }
        return true;
    }

    /** Two bits of a fill's number for each hole, as a colour is 0 to 3. */
    private int fillCount() {
        return 1 << 2 * holeCount;
    }

    private boolean fits(int fill) {
        for (int i = 0; i < holeCount; i++) {
            trial.put(holes[i], fill >> 2 * i & 3);
        }
        for (int i = 0; i < seenCount; i++) {
            if (seenLaws[i] >= trial.lawCount || trial.reads(seenLaws[i]) != seenReads[i]) {
                return false;
            }
        }
        return true;
    }

    private int groupByReads() {
        Arrays.fill(groups, 0);
        int fitting = 0;
        int all = fillCount();
        for (int fill = 0; fill < all; fill++) {
            if (fits(fill)) {
                fitting++;
                for (int l = 0; l < trial.lawCount; l++) {
                    groups[l * (MOST_READS + 1) + trial.reads(l)]++;
                }
            }
        }
        return fitting;
    }

    private int largestGroup(int l) {
        int largest = 0;
        for (int n = 0; n <= MOST_READS; n++) {
            largest = Math.max(largest, groups[l * (MOST_READS + 1) + n]);
        }
        return largest;
    }

    /** The first offer of the highest score, if it is above the one it began with. */
    private static final class Choice {
        int code;
        int score;

        void begin(int scoreAsItIs) {
            code = NONE;
            score = scoreAsItIs;
        }

        void offer(int offered, int offeredScore) {
            if (offeredScore > score) {
                code = offered;
                score = offeredScore;
            }
        }

        int told(int what) {
            return code == NONE || what == 0 ? code : score;
        }
    }

    private static final class Image {
        final Charter charter = new Charter();
        boolean kept;
    }

    /** A row of one lane; its length is below 0 while there is nothing. */
    private static final class Sheet {
        final int[] laid = new int[MOST_LAID];
        int lane;
        int length = -1;

        void renew(int newLane, int newLength) {
            Arrays.fill(laid, 0);
            lane = newLane;
            length = newLength;
        }

        void set(int i, int v) {
            if (lane == LANE_BYTES) {
                laid[i] = (byte) v;
            } else if (lane == LANE_SHORTS) {
                laid[i] = (short) v;
            } else {
                laid[i] = v;
            }
        }

        /** Nothing can be taken as of any lane, as the machine casts null: then it is no CAST. */
        int faultAsOf(int wanted, int from, int many) {
            return length >= 0 && lane != wanted ? CAST_FAULT : faultAt(from, many);
        }

        int faultAt(int from, int many) {
            if (length < 0) {
                return NULL_FAULT;
            }
            return from < 0 || from > length - many ? INDEX_FAULT : 0;
        }
    }

    /** The canvas with its threads, laws and plan: all that an image has. */
    private static final class Charter {
        final int[] cells = new int[CELLS];
        final int[] spools = new int[COLOURS + 1];
        final int[] laws = new int[MOST_LAWS * LAW_PARTS];
        final int[] planCells = new int[MOST_PLANNED];
        final int[] planColours = new int[MOST_PLANNED];
        int lawCount;
        int planCount;
        int planCame;
        int planPassed;
        /** How often one shade lies left of another, and above it: kept by put(), so that reading is cheap. */
        final int[] besides = new int[SHADES * SHADES];
        final int[] aboves = new int[SHADES * SHADES];

        Charter() {
            clear();
        }

        void clear() {
            Arrays.fill(cells, BARE);
            Arrays.fill(besides, 0);
            Arrays.fill(aboves, 0);
            besides[BARE * SHADES + BARE] = SIDE * (SIDE - 1);
            aboves[BARE * SHADES + BARE] = SIDE * (SIDE - 1);
            Arrays.fill(spools, FIRST_THREAD);
            lawCount = 0;
            planCount = 0;
        }

        void copyFrom(Charter other) {
            System.arraycopy(other.cells, 0, cells, 0, CELLS);
            System.arraycopy(other.besides, 0, besides, 0, SHADES * SHADES);
            System.arraycopy(other.aboves, 0, aboves, 0, SHADES * SHADES);
            System.arraycopy(other.spools, 0, spools, 0, COLOURS + 1);
            System.arraycopy(other.laws, 0, laws, 0, MOST_LAWS * LAW_PARTS);
            System.arraycopy(other.planCells, 0, planCells, 0, MOST_PLANNED);
            System.arraycopy(other.planColours, 0, planColours, 0, MOST_PLANNED);
            lawCount = other.lawCount;
            planCount = other.planCount;
        }

        void put(int at, int shade) {
            if (cells[at] != shade) {
                tallyAround(at, -1);
                cells[at] = shade;
                tallyAround(at, 1);
            }
        }

        private void tallyAround(int at, int by) {
            int here = cells[at];
            int x = at / SIDE;
            int y = at % SIDE;
            if (x > 0) {
                besides[cells[at - SIDE] * SHADES + here] += by;
            }
            if (x < SIDE - 1) {
                besides[here * SHADES + cells[at + SIDE]] += by;
            }
            if (y > 0) {
                aboves[cells[at - 1] * SHADES + here] += by;
            }
            if (y < SIDE - 1) {
                aboves[here * SHADES + cells[at + 1]] += by;
            }
        }

        boolean canTake(int at, int c) {
            return cells[at] == BARE && spools[c] > 0;
        }

        void take(int at, int c) {
            put(at, c);
            spools[c]--;
        }

        void takeBack(int at) {
            spools[cells[at]]++;
            put(at, BARE);
        }

        void takePlanned(int i) {
            if (canTake(planCells[i], planColours[i])) {
                take(planCells[i], planColours[i]);
                planCame++;
            } else if (planPassed == NONE) {
                planPassed = i;
            }
        }

        void addLaw(int kind, int first, int second, int worth) {
            int from = lawCount * LAW_PARTS;
            laws[from] = kind;
            laws[from + LAW_FIRST] = first;
            laws[from + LAW_SECOND] = second;
            laws[from + LAW_WORTH] = worth;
            lawCount++;
        }

        int reads(int l) {
            int first = laws[l * LAW_PARTS + LAW_FIRST];
            int second = laws[l * LAW_PARTS + LAW_SECOND];
            return readsAs(laws[l * LAW_PARTS], besides[first * SHADES + second],
                    besides[second * SHADES + first], aboves[first * SHADES + second]);
        }

        /** A row turned round has what was beside in the other order; columns stay whole. */
        int readsByBack(int l) {
            int first = laws[l * LAW_PARTS + LAW_FIRST];
            int second = laws[l * LAW_PARTS + LAW_SECOND];
            return readsAs(laws[l * LAW_PARTS], besides[second * SHADES + first],
                    besides[first * SHADES + second], aboves[first * SHADES + second]);
        }

        private static int readsAs(int kind, int beside, int mirrored, int above) {
            switch (kind) {
                case KIND_BESIDE:
                    return beside;
                case KIND_MIRROR:
                    return mirrored;
                case KIND_ABOVE:
                    return above;
                default:
                    return beside + above;
            }
        }

        int worth() {
            int sum = 0;
            for (int l = 0; l < lawCount; l++) {
                sum += laws[l * LAW_PARTS + LAW_WORTH] * reads(l);
            }
            return sum;
        }

        int heldBits() {
            int bits = 0;
            for (int l = 0; l < lawCount; l++) {
                if (reads(l) > 0) {
                    bits |= 1 << l;
                }
            }
            return bits;
        }

        int cellsOf(int shade) {
            int many = 0;
            for (int at = 0; at < CELLS; at++) {
                if (cells[at] == shade) {
                    many++;
                }
            }
            return many;
        }

        boolean canRun(int at) {
            return cells[at] == RED && at / SIDE < SIDE - 1 && cells[at + SIDE] == BARE;
        }

        int runningCells() {
            return besides[RED * SHADES + BARE];
        }

        void exchange(int one, int other) {
            for (int at = 0; at < CELLS; at++) {
                if (cells[at] == one) {
                    put(at, other);
                } else if (cells[at] == other) {
                    put(at, one);
                }
            }
        }

        void turnRow(int y) {
            for (int x = 0; x < SIDE / 2; x++) {
                int left = x * SIDE + y;
                int right = (SIDE - 1 - x) * SIDE + y;
                int shade = cells[left];
                put(left, cells[right]);
                put(right, shade);
            }
        }
    }

    /** The bytes that were fed, and the reading of them. */
    private static final class Tape {
        private static final int TOKEN_END = 0;
        private static final int TOKEN_NAME = 1;
        private static final int TOKEN_NUMBER = 2;
        private static final int TOKEN_STOP = 3;

        private static final int NO_TOKEN = 1;
        private static final int MISPLACED = 2;
        private static final int OUT_OF_BOUNDS = 3;
        private static final int TOLD_ALREADY = 4;
        private static final int TOO_MANY = 5;

        final int[] bytes = new int[MOST_BYTES];
        int length;
        int faultKind;
        int faultPlace;
        private int next;
        private int token;
        private int start;
        private int value;
        private int rowsTold;
        private int threadsTold;

        /** How many lines; what it told to the charter counts only if there was no fault. */
        int tell(Charter charter) {
            charter.clear();
            faultKind = 0;
            faultPlace = 0;
            next = 0;
            rowsTold = 0;
            threadsTold = 0;
            int lines = 0;
            for (int i = 0; i <= MOST_BYTES; i++) {
                readToken();
                if (faultKind != 0 || token == TOKEN_END) {
                    break;
                }
                readLine(charter);
                lines++;
            }
            return lines;
        }

        private void fail(int kind) {
            if (faultKind == 0) {
                faultKind = kind;
                faultPlace = start;
            }
        }

        private void readToken() {
            if (faultKind != 0) {
                return;
            }
            while (next < length && bytes[next] == ' ') {
                next++;
            }
            start = next;
            if (next >= length) {
                token = TOKEN_END;
            } else if (isLetter(bytes[next])) {
                token = TOKEN_NAME;
                while (next < length && isLetter(bytes[next])) {
                    next++;
                }
            } else if (isFigure(bytes[next])) {
                token = TOKEN_NUMBER;
                value = 0;
                while (next < length && isFigure(bytes[next])) {
                    value = 10 * value + bytes[next] - '0';
                    next++;
                }
                if (next - start > 2) {
                    fail(NO_TOKEN);
                }
            } else if (bytes[next] == ';') {
                token = TOKEN_STOP;
                next++;
            } else {
                fail(NO_TOKEN);
            }
        }

        private static boolean isLetter(int c) {
            return c >= 'a' && c <= 'z';
        }

        private static boolean isFigure(int c) {
            return c >= '0' && c <= '9';
        }

        private void readLine(Charter charter) {
            if (token != TOKEN_NAME) {
                fail(MISPLACED);
            } else if (isName("row")) {
                readRow(charter);
            } else if (isName("thread")) {
                readThread(charter);
            } else if (isName("beside")) {
                readLaw(charter, KIND_BESIDE);
            } else if (isName("mirror")) {
                readLaw(charter, KIND_MIRROR);
            } else if (isName("above")) {
                readLaw(charter, KIND_ABOVE);
            } else if (isName("cross")) {
                readLaw(charter, KIND_CROSS);
            } else {
                fail(MISPLACED);
            }
        }

        private boolean isName(String name) {
            if (next - start != name.length()) {
                return false;
            }
            for (int i = 0; i < name.length(); i++) {
                if (bytes[start + i] != name.charAt(i)) {
                    return false;
                }
            }
            return true;
        }

        private void readRow(Charter charter) {
            int y = takeNumber(0, SIDE - 1);
            if ((rowsTold >> y & 1) == 1) {
                fail(TOLD_ALREADY);
            }
            rowsTold |= 1 << y;
            for (int x = 0; x <= SIDE && faultKind == 0; x++) {
                readToken();
                if (faultKind == 0 && token == TOKEN_STOP) {
                    return;
                }
                takeCell(charter, x, y);
            }
        }

        /** A seventh cell is told by a number, and is one too many whether that is a colour or not. */
        private void takeCell(Charter charter, int x, int y) {
            if (faultKind != 0) {
                return;
            }
            if (token != TOKEN_NUMBER) {
                fail(MISPLACED);
            } else if (x >= SIDE) {
                fail(TOO_MANY);
            } else if (value > HOLE) {
                fail(OUT_OF_BOUNDS);
            } else {
                charter.put(x * SIDE + y, value);
            }
        }

        private void readThread(Charter charter) {
            int c = takeNumber(1, COLOURS);
            if ((threadsTold >> c & 1) == 1) {
                fail(TOLD_ALREADY);
            }
            threadsTold |= 1 << c;
            charter.spools[c] = takeNumber(0, MOST_THREAD);
            takeStop();
        }

        private void readLaw(Charter charter, int kind) {
            if (charter.lawCount >= MOST_LAWS) {
                fail(TOO_MANY);
                return;
            }
            int first = takeNumber(1, COLOURS);
            int second = takeNumber(1, COLOURS);
            int worth = takeNumber(1, MOST_WORTH);
            takeStop();
            if (faultKind == 0) {
                charter.addLaw(kind, first, second, worth);
            }
        }

        /** The lowest one, if there is a fault: what is told then is not used. */
        private int takeNumber(int lowest, int highest) {
            readToken();
            if (faultKind == 0) {
                if (token != TOKEN_NUMBER) {
                    fail(MISPLACED);
                } else if (value < lowest || value > highest) {
                    fail(OUT_OF_BOUNDS);
                }
            }
            return faultKind == 0 ? value : lowest;
        }

        private void takeStop() {
            readToken();
            if (faultKind == 0 && token != TOKEN_STOP) {
                fail(MISPLACED);
            }
        }
    }
}
