import java.util.Arrays;

/** A troupe of puppets that hold each other's strings; the document is ../shared/DOC.md. */
public final class StringHands {
    public static final int NONE = -1;

    private static final int NO_SUCH = -2;
    private static final int CANT_BE = -3;
    private static final int TOO_MANY = -4;
    private static final int NOT_NOW = -5;
    private static final int NO_ROW = -6;
    private static final int NO_NUMBER = -7;
    private static final int BAD_TEXT = -30;

    private static final int MOST_BYTES = 900;
    private static final int FED_BYTES = 20;
    private static final int MOST_LIMBS = 10;
    private static final int MOST_STRINGS = 16;
    private static final int MOST_TIMES = 3;
    private static final int MOST_POSES = 1 << MOST_LIMBS;
    private static final int MOST_UNDONE = 10;
    private static final int MOST_BEATS = 200;
    private static final int MOST_LATER = 9999;
    private static final int MOST_POWER = 99;
    private static final int MOST_DRAWN = 60;
    private static final int ROWS = 4;
    private static final int MOST_NUMBERS = 40;
    private static final int IMAGES = 2;
    private static final int NOT_NEEDED = 100;

    private final Reader reader = new Reader();
    private final Mover mover = new Mover();
    private final Follow follow = new Follow();
    private final Wishes wishes = new Wishes();
    private final Web web = new Web();
    private final Tangler tangler = new Tangler();
    private final Scenes scenes = new Scenes();
    private final Guesses guesses = new Guesses();

    private final Troupe told = new Troupe();
    private final Stage stage = new Stage();
    /** Deeds are tried here first, so that a judged row leaves the stage alone. */
    private final Stage trial = new Stage();
    private final Stage[] past = new Stage[MOST_UNDONE];
    private int pastCount;
    private final NumberRow[] rows = new NumberRow[ROWS];
    private final Troupe[] imageTold = new Troupe[IMAGES];
    private final Stage[] imageStage = new Stage[IMAGES];
    private int imagesMade;

    public StringHands() {
        for (int i = 0; i < MOST_UNDONE; i++) {
            past[i] = new Stage();
        }
        for (int i = 0; i < ROWS; i++) {
            rows[i] = new NumberRow();
        }
        for (int i = 0; i < IMAGES; i++) {
            imageTold[i] = new Troupe();
            imageStage[i] = new Stage();
        }
    }

    // ---- the troupe

    public int feed(int a, int b, int c, int d, int e) {
        if (reader.taped + FED_BYTES > MOST_BYTES) {
            return NOT_NOW;
        }
        reader.putWord(a);
        reader.putWord(b);
        reader.putWord(c);
        reader.putWord(d);
        reader.putWord(e);
        return reader.taped;
    }

    public int troupe(int n) {
        if (n < 0 || n > reader.taped) {
            return CANT_BE;
        }
        reader.cutText(n);
        if (!reader.readLines()) {
            return BAD_TEXT - reader.fault;
        }
        told.takeAll(reader.out);
        stage.setUp(told);
        follow.forget();
        pastCount = 0;
        return told.lines;
    }

    public int fault(int what) {
        switch (what) {
            case 0:
                return reader.fault;
            case 1:
                return reader.place;
            default:
                return NONE;
        }
    }

    public int limb(int l, int what) {
        if (!hasLimb(l)) {
            return NO_SUCH;
        }
        switch (what) {
            case 0:
                return bitAt(stage.pose, l);
            case 1:
                return told.puppetOf[l];
            case 2:
                return wholeAt(told.second, l);
            case 3:
                return wholeAt(stage.from, l);
            case 4:
                return told.need[l];
            case 5:
                mover.pullAll(told, stage, stage.pose);
                return mover.pulls[l];
            case 6:
                return bitAt(told.ruled, l);
            case 7:
                return bitAt(mover.behind(told, stage, stage.pose), l);
            case 8:
                return stage.place[l];
            default:
                return NO_SUCH;
        }
    }

    public int string(int k, int what) {
        if (!hasString(k)) {
            return NO_SUCH;
        }
        switch (what) {
            case 0:
                return stage.from[k];
            case 1:
                return told.second[k];
            case 2:
                return told.times[k];
            case 3:
                return bitAt(told.turned, k);
            case 4:
                return bitAt(stage.whole, k);
            case 5:
                return stage.wear[k];
            default:
                return NO_SUCH;
        }
    }

    // ---- deeds

    public int nudge(int l) {
        if (!hasLimb(l)) {
            return NO_SUCH;
        }
        remember();
        stage.pose ^= 1 << l;
        return stage.pose;
    }

    public int strike(int pose) {
        if (!hasPose(pose)) {
            return CANT_BE;
        }
        int otherwise = Integer.bitCount(stage.pose ^ pose);
        if (otherwise > 0) {
            remember();
            stage.pose = pose;
        }
        return otherwise;
    }

    public int beat(int n) {
        if (n < 1 || n > MOST_BEATS) {
            return CANT_BE;
        }
        remember();
        int moved = 0;
        for (int i = 0; i < n; i++) {
            moved += Integer.bitCount(mover.beatOnce(told, stage));
        }
        return moved;
    }

    public int cut(int k) {
        if (!hasString(k)) {
            return NO_SUCH;
        }
        if (bitAt(stage.whole, k) == 0) {
            return NOT_NOW;
        }
        remember();
        stage.cutOne(k);
        return Integer.bitCount(stage.whole);
    }

    public int tie(int k) {
        if (!hasString(k)) {
            return NO_SUCH;
        }
        if (bitAt(stage.whole, k) == 1) {
            return NOT_NOW;
        }
        remember();
        stage.tieOne(k);
        return Integer.bitCount(stage.whole);
    }

    public int moves(int k, int from) {
        if (!hasString(k) || !hasLimb(from)) {
            return NO_SUCH;
        }
        int ahead = stage.from[k];
        if (from == ahead || from == told.second[k]) {
            return NOT_NOW;
        }
        remember();
        stage.from[k] = from;
        return ahead;
    }

    public int swap(int place) {
        if (place < 0 || place >= told.limbs - 1) {
            return CANT_BE;
        }
        remember();
        stage.swapAt(place, told.limbs);
        return tangler.tangled(told, stage);
    }

    public int undo(int n) {
        if (n < 1 || n > pastCount || n > MOST_UNDONE) {
            return CANT_BE;
        }
        pastCount -= n;
        stage.takeAll(past[pastCount]);
        return pastCount;
    }

    public int judge(int row, int what) {
        if (!isRow(row) || what < 0 || what > 3) {
            return NO_SUCH;
        }
        if (rows[row].isMissing()) {
            return NO_ROW;
        }
        trial.takeAll(stage);
        int done = mover.doDeeds(told, trial, rows[row]);
        switch (what) {
            case 0:
                return mover.why == 0 ? NONE : done;
            case 1:
                return mover.why;
            case 2:
                return trial.pose;
            default:
                return Integer.bitCount(trial.whole);
        }
    }

    public int perform(int row) {
        if (!isRow(row)) {
            return NO_SUCH;
        }
        if (rows[row].isMissing()) {
            return NO_ROW;
        }
        trial.takeAll(stage);
        int done = mover.doDeeds(told, trial, rows[row]);
        if (done > 0) {
            remember();
            stage.takeAll(trial);
        }
        return done;
    }

    public int season(int seed, int times) {
        if (times < 1 || times > MOST_DRAWN) {
            return CANT_BE;
        }
        if (told.limbs == 0) {
            return NOT_NOW;
        }
        remember();
        mover.drawDeeds(told, stage, seed, times);
        return stage.pose;
    }

    // ---- what follows

    public int next(int pose) {
        if (!hasPose(pose)) {
            return CANT_BE;
        }
        return mover.behind(told, stage, pose);
    }

    public int later(int pose, int n) {
        if (!hasPose(pose) || n < 0 || n > MOST_LATER) {
            return CANT_BE;
        }
        int[] after = readyNext();
        int at = pose;
        for (int i = 0; i < n; i++) {
            at = after[at];
        }
        return at;
    }

    public int round(int pose, int what) {
        if (what < 0 || what > 2) {
            return NO_SUCH;
        }
        if (!hasPose(pose)) {
            return CANT_BE;
        }
        readyRings();
        switch (what) {
            case 0:
                return follow.length[pose];
            case 1:
                return follow.lead[pose];
            default:
                return follow.least[pose];
        }
    }

    public int rests(int k) {
        int[] after = readyNext();
        follow.clearPicked();
        for (int p = 0; p < follow.poses; p++) {
            if (after[p] == p) {
                follow.pick(p);
            }
        }
        return follow.pickedAt(k);
    }

    public int rings(int k) {
        readyRings();
        follow.clearPicked();
        for (int p = 0; p < follow.poses; p++) {
            if (follow.least[p] == p) {
                follow.pick(p);
            }
        }
        return follow.pickedAt(k);
    }

    public int basin(int pose) {
        if (!hasPose(pose)) {
            return CANT_BE;
        }
        readyRings();
        int found = 0;
        for (int p = 0; p < follow.poses; p++) {
            if (follow.least[p] == follow.least[pose]) {
                found++;
            }
        }
        return found;
    }

    public int gardens() {
        readyNext();
        return follow.fromNone();
    }

    public int farthest() {
        readyRings();
        int far = 0;
        for (int p = 1; p < follow.poses; p++) {
            if (follow.lead[p] > follow.lead[far]) {
                far = p;
            }
        }
        return far;
    }

    // ---- poses that are wished for

    public int soonest(int pose, int what) {
        boolean asksWay = what >= 10 && what < 10 + Wishes.MOST_WAY;
        if (what != 0 && what != 1 && !asksWay) {
            return NO_SUCH;
        }
        if (!hasPose(pose)) {
            return CANT_BE;
        }
        if (!wishes.findWay(readyNext(), told.limbs, stage.pose, pose)) {
            return NONE;
        }
        if (what == 0) {
            return wishes.beats;
        }
        if (what == 1) {
            return wishes.nudges;
        }
        return what - 10 < wishes.beats ? wishes.way[what - 10] : NONE;
    }

    public int wakes(int pose) {
        if (!hasPose(pose)) {
            return CANT_BE;
        }
        int[] after = readyNext();
        if (wishes.comes(after, stage.pose, pose)) {
            return NOT_NEEDED;
        }
        for (int l = 0; l < told.limbs; l++) {
            if (wishes.comes(after, stage.pose ^ (1 << l), pose)) {
                return l;
            }
        }
        return NONE;
    }

    public int cure(int pose, int what) {
        if (what < 0 || what > 1) {
            return NO_SUCH;
        }
        if (!hasPose(pose)) {
            return CANT_BE;
        }
        int cuts = wishes.fewestToRest(told, stage, mover, pose);
        if (cuts == NONE) {
            return NONE;
        }
        return what == 0 ? Integer.bitCount(cuts) : cuts;
    }

    // ---- who works whom

    public int works(int l) {
        if (!hasLimb(l)) {
            return NO_SUCH;
        }
        web.reachAll(told, stage, stage.whole);
        return web.reach[l];
    }

    public int part(int l) {
        if (!hasLimb(l)) {
            return NO_SUCH;
        }
        web.reachAll(told, stage, stage.whole);
        return web.mutual(l, told.limbs);
    }

    public int parts() {
        web.reachAll(told, stage, stage.whole);
        int found = 0;
        for (int l = 0; l < told.limbs; l++) {
            // A part is counted at its first limb alone.
            if (Integer.numberOfTrailingZeros(web.mutual(l, told.limbs)) == l) {
                found++;
            }
        }
        return found;
    }

    public int free(int l, int other) {
        if (!hasLimb(l) || !hasLimb(other)) {
            return NO_SUCH;
        }
        return l == other ? NONE : web.fewestCuts(told, stage, l, other);
    }

    public int stops(int k) {
        if (!hasString(k)) {
            return NO_SUCH;
        }
        if (bitAt(stage.whole, k) == 0) {
            return NOT_NOW;
        }
        int l = stage.from[k];
        web.reachAll(told, stage, stage.whole);
        int with = web.reach[l];
        web.reachAll(told, stage, stage.whole & ~(1 << k));
        return with & ~web.reach[l];
    }

    // ---- scripts, tangles

    public int begins(int row, int k) {
        int refused = readScript(row);
        if (refused != 0) {
            return refused;
        }
        int[] after = readyNext();
        follow.clearPicked();
        for (int p = 0; p < follow.poses; p++) {
            if (scenes.goSo(after, p)) {
                follow.pick(p);
            }
        }
        return follow.pickedAt(k);
    }

    public int rehearse(int row) {
        int refused = readScript(row);
        if (refused != 0) {
            return refused;
        }
        return scenes.fewestNudges(readyNext(), told.limbs, stage.pose);
    }

    public int tangles() {
        return tangler.tangled(told, stage);
    }

    public int leastTangles() {
        if (told.limbs > Tangler.MOST_PLACED) {
            return TOO_MANY;
        }
        return tangler.leastTangled(told, stage);
    }

    // ---- two, power

    public int two(int l, int scene, int other, int otherScene, int what) {
        if (!hasLimb(l) || !hasLimb(other) || l == other || what < 0 || what > 3) {
            return NO_SUCH;
        }
        scenes.clear();
        int all = told.allLimbs();
        if (!scenes.addScene(scene, all) || !scenes.addScene(otherScene, all)) {
            return CANT_BE;
        }
        scenes.playAll(readyNext(), stage.pose, 1 << l, 1 << other);
        int play = scenes.firstAtRest();
        if (play == NONE) {
            return NONE;
        }
        switch (what) {
            case 0:
                return play / Scenes.CHOICES;
            case 1:
                return play % Scenes.CHOICES;
            case 2:
                return scenes.has[play];
            default:
                return scenes.otherHas[play];
        }
    }

    public int power(int l, int n) {
        if (!hasLimb(l)) {
            return NO_SUCH;
        }
        if (n < 0 || n > MOST_POWER) {
            return CANT_BE;
        }
        readyNext();
        return follow.otherwiseBehind(1 << l, n);
    }

    // ---- films

    public int fits(int row, int l) {
        int refused = readFilm(row, l);
        return refused != 0 ? refused : guesses.total;
    }

    public int fewest(int row, int l, int what) {
        if (what < 0 || what > 1) {
            return NO_SUCH;
        }
        int refused = readFilm(row, l);
        if (refused != 0) {
            return refused;
        }
        int i = guesses.smallest();
        if (i == NONE) {
            return NONE;
        }
        return what == 0 ? guesses.set[i] : guesses.low[i];
    }

    public int sure(int row, int l) {
        int refused = readFilm(row, l);
        if (refused != 0) {
            return refused;
        }
        return guesses.total == 0 ? NONE : guesses.inAll();
    }

    public int telling(int row, int l) {
        int refused = readFilm(row, l);
        if (refused != 0) {
            return refused;
        }
        return guesses.total < 2 ? NONE : guesses.mostTelling(told.allLimbs(), 1 << l);
    }

    public int film(int row) {
        if (!isRow(row)) {
            return NO_SUCH;
        }
        NumberRow into = rows[row];
        if (into.isMissing()) {
            return NO_ROW;
        }
        int[] after = readyNext();
        int pose = stage.pose;
        for (int i = 0; i < into.length; i++) {
            into.put(i, pose);
            pose = after[pose];
        }
        return into.length;
    }

    public int breaks(int what) {
        if (what < 0 || what > 1) {
            return NO_SUCH;
        }
        if (told.life == 0) {
            return NOT_NOW;
        }
        trial.takeAll(stage);
        for (int i = 0; i < MOST_BEATS; i++) {
            mover.beatOnce(told, trial);
            int broken = stage.whole & ~trial.whole;
            if (broken != 0) {
                return what == 0 ? i : Integer.numberOfTrailingZeros(broken);
            }
        }
        return NONE;
    }

    // ---- rows of numbers, images

    public int numbers(int row, int sort, int n) {
        if (!isRow(row) || sort < 0 || sort > 3) {
            return NO_SUCH;
        }
        if (n < 0 || n > MOST_NUMBERS) {
            return CANT_BE;
        }
        rows[row].begin(sort, n);
        return 0;
    }

    public long write(int row, int i, long v) {
        if (!isRow(row)) {
            return NO_SUCH;
        }
        if (rows[row].isMissing()) {
            return NO_ROW;
        }
        if (i < 0 || i >= rows[row].length) {
            return NO_NUMBER;
        }
        return rows[row].put(i, v);
    }

    public int image(int i) {
        if (i < 0 || i >= IMAGES) {
            return NO_SUCH;
        }
        imageTold[i].takeAll(told);
        imageStage[i].takeAll(stage);
        imagesMade |= 1 << i;
        return 0;
    }

    public int restore(int i) {
        if (i < 0 || i >= IMAGES) {
            return NO_SUCH;
        }
        if (bitAt(imagesMade, i) == 0) {
            return NOT_NOW;
        }
        told.takeAll(imageTold[i]);
        stage.takeAll(imageStage[i]);
        follow.forget();
        pastCount = 0;
        return 0;
    }

    public int count(int what) {
        switch (what) {
            case 0:
                return told.puppets;
            case 1:
                return told.limbs;
            case 2:
                return told.strings;
            case 3:
                return Integer.bitCount(stage.whole);
            case 4:
                return stage.pose;
            case 5:
                return pastCount;
            case 6:
                return told.life;
            case 7:
                return Integer.bitCount(told.ruled);
            case 8:
                return reader.taped;
            case 9:
                return told.lines;
            default:
                return NONE;
        }
    }

    // ---- what the calls share

    private static int bitAt(int bits, int i) {
        return (bits >> i) & 1;
    }

    private boolean hasLimb(int l) {
        return l >= 0 && l < told.limbs;
    }

    private boolean hasString(int k) {
        return k >= 0 && k < told.strings;
    }

    private boolean hasPose(int pose) {
        return (pose & ~told.allLimbs()) == 0;
    }

    private static boolean isRow(int row) {
        return row >= 0 && row < ROWS;
    }

    private int wholeAt(int[] ends, int l) {
        int found = 0;
        for (int k = 0; k < told.strings; k++) {
            if (bitAt(stage.whole, k) == 1 && ends[k] == l) {
                found++;
            }
        }
        return found;
    }

    /** Keeps the stage as it is, for undo(); it must stand ahead of every change. */
    private void remember() {
        if (pastCount == MOST_UNDONE) {
            Stage eldest = past[0];
            for (int i = 1; i < MOST_UNDONE; i++) {
                past[i - 1] = past[i];
            }
            past[MOST_UNDONE - 1] = eldest;
            pastCount--;
        }
        past[pastCount].takeAll(stage);
        pastCount++;
    }

    private int[] readyNext() {
        follow.prepare(told, stage, mover);
        return follow.after;
    }

    private void readyRings() {
        follow.prepare(told, stage, mover);
        follow.prepareRings();
    }

    /** 0, or the code by which a call with this script is refused. */
    private int readScript(int row) {
        if (!isRow(row)) {
            return NO_SUCH;
        }
        NumberRow from = rows[row];
        if (from.isMissing()) {
            return NO_ROW;
        }
        if (from.length < 1 || from.length > Scenes.MOST_SCENES) {
            return TOO_MANY;
        }
        scenes.clear();
        for (int i = 0; i < from.length; i++) {
            if (!scenes.addScene(from.number[i], told.allLimbs())) {
                return CANT_BE;
            }
        }
        return 0;
    }

    /** 0 with the guesses that fit gathered, or the code by which the call is refused. */
    private int readFilm(int row, int l) {
        if (!isRow(row) || !hasLimb(l)) {
            return NO_SUCH;
        }
        NumberRow from = rows[row];
        if (from.isMissing()) {
            return NO_ROW;
        }
        if (from.length < 2 || from.length > Guesses.MOST_FILMED) {
            return TOO_MANY;
        }
        if (!guesses.takeFilm(from, told.allLimbs())) {
            return CANT_BE;
        }
        guesses.gather(told.allLimbs(), l);
        return 0;
    }

    /** What a text tells; deeds never change it. */
    private static final class Troupe {
        int puppets;
        int limbs;
        int strings;
        int ups;
        int life;
        int lines;
        final int[] puppetOf = new int[MOST_LIMBS];
        final int[] need = new int[MOST_LIMBS];
        final int[] first = new int[MOST_STRINGS];
        final int[] second = new int[MOST_STRINGS];
        final int[] times = new int[MOST_STRINGS];
        int turned;
        /** Limbs with a rule, and those of them whose rule asks for pulls, as bits. */
        int ruled;
        int ruledByPulls;
        /** Of each limb's rule: the limbs whose up is in it, where its code begins and ends. */
        final int[] ruleUps = new int[MOST_LIMBS];
        final int[] ruleBegin = new int[MOST_LIMBS];
        final int[] ruleEnd = new int[MOST_LIMBS];
        /** Rules with the operators behind what they work on; a token makes one number at most. */
        final int[] code = new int[MOST_BYTES];
        int codeLength;

        int allLimbs() {
            return (1 << limbs) - 1;
        }

        void clear() {
            puppets = 0;
            limbs = 0;
            strings = 0;
            ups = 0;
            life = 0;
            lines = 0;
            turned = 0;
            ruled = 0;
            ruledByPulls = 0;
            codeLength = 0;
        }

        void takeAll(Troupe o) {
            puppets = o.puppets;
            limbs = o.limbs;
            strings = o.strings;
            ups = o.ups;
            life = o.life;
            lines = o.lines;
            turned = o.turned;
            ruled = o.ruled;
            ruledByPulls = o.ruledByPulls;
            codeLength = o.codeLength;
            System.arraycopy(o.puppetOf, 0, puppetOf, 0, MOST_LIMBS);
            System.arraycopy(o.need, 0, need, 0, MOST_LIMBS);
            System.arraycopy(o.first, 0, first, 0, MOST_STRINGS);
            System.arraycopy(o.second, 0, second, 0, MOST_STRINGS);
            System.arraycopy(o.times, 0, times, 0, MOST_STRINGS);
            System.arraycopy(o.ruleUps, 0, ruleUps, 0, MOST_LIMBS);
            System.arraycopy(o.ruleBegin, 0, ruleBegin, 0, MOST_LIMBS);
            System.arraycopy(o.ruleEnd, 0, ruleEnd, 0, MOST_LIMBS);
            System.arraycopy(o.code, 0, code, 0, MOST_BYTES);
        }

        void addPuppet(int size) {
            for (int i = 0; i < size && limbs < MOST_LIMBS; i++) {
                puppetOf[limbs] = puppets;
                need[limbs] = 1;
                limbs++;
            }
            puppets++;
        }

        void emit(int op, int value) {
            if (codeLength < MOST_BYTES) {
                code[codeLength] = op * Reader.OP_STEP + value;
                codeLength++;
            }
        }
    }

    /** All that deeds change, and so all that is undone. */
    private static final class Stage {
        int pose;
        int whole;
        final int[] from = new int[MOST_STRINGS];
        final int[] wear = new int[MOST_STRINGS];
        /** The place of each limb. */
        final int[] place = new int[MOST_LIMBS];

        void setUp(Troupe t) {
            pose = t.ups;
            whole = (1 << t.strings) - 1;
            System.arraycopy(t.first, 0, from, 0, MOST_STRINGS);
            Arrays.fill(wear, 0);
            for (int l = 0; l < MOST_LIMBS; l++) {
                place[l] = l;
            }
        }

        void takeAll(Stage o) {
            pose = o.pose;
            whole = o.whole;
            System.arraycopy(o.from, 0, from, 0, MOST_STRINGS);
            System.arraycopy(o.wear, 0, wear, 0, MOST_STRINGS);
            System.arraycopy(o.place, 0, place, 0, MOST_LIMBS);
        }

        void cutOne(int k) {
            whole &= ~(1 << k);
        }

        void tieOne(int k) {
            if (k >= 0 && k < MOST_STRINGS) {
                whole |= 1 << k;
                wear[k] = 0;
            }
        }

        void swapAt(int at, int limbs) {
            for (int l = 0; l < limbs && l < MOST_LIMBS; l++) {
                if (place[l] == at) {
                    place[l] = at + 1;
                } else if (place[l] == at + 1) {
                    place[l] = at;
                }
            }
        }
    }

    /** Holds the tape, and reads a text from it, token by token, till its first fault. */
    private static final class Reader {
        static final int OP_STEP = 1024;
        static final int OP_VALUE = 0;
        static final int OP_UP = 1;
        static final int OP_ME = 2;
        static final int OP_PULLS = 3;
        static final int OP_NOT = 4;
        static final int OP_AND = 5;
        static final int OP_OR = 6;
        static final int OP_SAME = 7;
        static final int OP_LESS = 8;
        static final int OP_MORE = 9;
        static final int OP_ADD = 10;
        static final int OP_SUBTRACT = 11;
        static final int OP_TIMES = 12;

        static final int NO_TOKEN = 1;
        static final int CANT_STAND = 2;
        static final int OUT_OF_BOUNDS = 3;
        static final int OVER_LIMIT = 4;

        static final int MOST_WITHIN = 6;
        static final int MOST_DIGITS = 3;

        static final String SIGNS = ";:+-*()[]=<>";
        /** In the order of their kinds, a blank behind each. */
        static final String WORDS =
                "puppet string to times turned need rule up life or and not me pulls ";

        /** Kinds of tokens; a sign's kind is its own byte. */
        static final int BAD = -1;
        static final int END = 0;
        static final int NUMBER = 1;
        static final int OTHER_WORD = 200;
        static final int PUPPET = 201;
        static final int STRING = 202;
        static final int TO = 203;
        static final int TIMES = 204;
        static final int TURNED = 205;
        static final int NEED = 206;
        static final int RULE = 207;
        static final int UP = 208;
        static final int LIFE = 209;
        static final int OR = 210;
        static final int AND = 211;
        static final int NOT = 212;
        static final int ME = 213;
        static final int PULLS = 214;

        final byte[] tape = new byte[MOST_BYTES];
        int taped;
        int fault;
        int place = NONE;
        final Troupe out = new Troupe();

        /** Of each token: its kind, where it begins, and the value of a number; the last is the end. */
        private final int[] kinds = new int[MOST_BYTES + 1];
        private final int[] starts = new int[MOST_BYTES + 1];
        private final int[] values = new int[MOST_BYTES + 1];
        private int tokens;
        /** The token that stands now. */
        private int at;
        private int kind;
        private int value;
        /** Of the rule that is being read. */
        private int ups;
        private boolean asksPulls;

        void putWord(int word) {
            for (int shift = 24; shift >= 0 && taped < MOST_BYTES; shift -= 8) {
                tape[taped] = (byte) (word >> shift);
                taped++;
            }
        }

        // tokens

        /** Takes the text off the tape; a bad token is no fault yet, for one ahead of it comes first. */
        void cutText(int n) {
            int length = Math.min(n, taped);
            int i = 0;
            tokens = 0;
            for (int t = 0; t < MOST_BYTES && i < length; t++) {
                i = isBlank(tape[i]) ? i + 1 : cutToken(i, length);
            }
            addToken(END, length, 0);
            taped = 0;
        }

        /** Where the token that begins at a place ends. */
        private int cutToken(int start, int length) {
            int end = start;
            int sum = 0;
            if (isLetter(tape[start])) {
                while (end < length && isLetter(tape[end])) {
                    end++;
                }
                addToken(wordKind(start, end), start, 0);
                return end;
            }
            if (isDigit(tape[start])) {
                while (end < length && isDigit(tape[end])) {
                    sum = sum * 10 + tape[end] - '0';
                    end++;
                }
                addToken(end - start > MOST_DIGITS ? BAD : NUMBER, start, sum);
                return end;
            }
            addToken(isSign(tape[start]) ? tape[start] : BAD, start, 0);
            return start + 1;
        }

        private void addToken(int ofKind, int start, int number) {
            if (tokens <= MOST_BYTES) {
                kinds[tokens] = ofKind;
                starts[tokens] = start;
                values[tokens] = number;
                tokens++;
            }
        }

        private static boolean isBlank(int sign) {
            return sign == 10 || sign == 32;
        }

        private static boolean isDigit(int sign) {
            return sign >= '0' && sign <= '9';
        }

        private static boolean isLetter(int sign) {
            return sign >= 'a' && sign <= 'z';
        }

        private static boolean isSign(int sign) {
            // A byte above 127 is negative here, and no sign at all.
            return sign > 0 && SIGNS.indexOf((char) sign) >= 0;
        }

        /** The kind is told by the word's place among the words. */
        private int wordKind(int start, int end) {
            int kindNow = OTHER_WORD + 1;
            int begin = 0;
            for (int i = 0; i < WORDS.length(); i++) {
                if (WORDS.charAt(i) == ' ') {
                    if (isWord(start, end, begin, i)) {
                        return kindNow;
                    }
                    kindNow++;
                    begin = i + 1;
                }
            }
            return OTHER_WORD;
        }

        private boolean isWord(int start, int end, int begin, int behind) {
            if (end - start != behind - begin) {
                return false;
            }
            for (int i = 0; i < end - start; i++) {
                if (WORDS.charAt(begin + i) != tape[start + i]) {
                    return false;
                }
            }
            return true;
        }

        private boolean goOn() {
            if (at + 1 < tokens) {
                at++;
            }
            kind = kinds[at];
            value = values[at];
            return kind != BAD || refuse(NO_TOKEN);
        }

        private boolean refuse(int why) {
            fault = why;
            place = starts[at];
            return false;
        }

        // Each of these looks at the token that stands now, and refuses it if it is another one.

        private boolean isKind(int wanted) {
            return kind == wanted || refuse(CANT_STAND);
        }

        private boolean isNumber(int least, int most) {
            if (kind != NUMBER) {
                return refuse(CANT_STAND);
            }
            return value >= least && value <= most || refuse(OUT_OF_BOUNDS);
        }

        // Each of these begins at its first token, and leaves the one behind its last.

        /** Reads what cutText() took; false with a fault. */
        boolean readLines() {
            fault = 0;
            place = NONE;
            out.clear();
            at = NONE;
            goOn();
            for (int i = 0; i < MOST_BYTES && fault == 0 && kind != END; i++) {
                boolean isRead;
                switch (kind) {
                    case PUPPET:
                        isRead = readPuppet();
                        break;
                    case STRING:
                        isRead = readString();
                        break;
                    case NEED:
                        isRead = readNeed();
                        break;
                    case RULE:
                        isRead = readRule();
                        break;
                    case UP:
                        isRead = readUp();
                        break;
                    case LIFE:
                        isRead = readLife();
                        break;
                    default:
                        isRead = refuse(CANT_STAND);
                        break;
                }
                if (isRead && isKind(';') && goOn()) {
                    out.lines++;
                }
            }
            return fault == 0;
        }

        private boolean readPuppet() {
            if (!goOn() || !isNumber(1, 6)) {
                return false;
            }
            if (out.limbs + value > MOST_LIMBS) {
                return refuse(OVER_LIMIT);
            }
            out.addPuppet(value);
            return goOn();
        }

        private boolean readString() {
            if (out.strings >= MOST_STRINGS) {
                return refuse(OVER_LIMIT);
            }
            if (!goOn() || !isNumber(0, out.limbs - 1)) {
                return false;
            }
            int from = value;
            if (!goOn() || !isKind(TO) || !goOn() || !isNumber(0, out.limbs - 1)) {
                return false;
            }
            if (value == from) {
                return refuse(OUT_OF_BOUNDS);
            }
            int k = out.strings;
            out.strings++;
            out.first[k] = from;
            out.second[k] = value;
            out.times[k] = 1;
            return goOn() && readTimes(k) && readTurned(k);
        }

        private boolean readTimes(int k) {
            if (kind != TIMES) {
                return true;
            }
            if (!goOn() || !isNumber(1, MOST_TIMES)) {
                return false;
            }
            out.times[k] = value;
            return goOn();
        }

        private boolean readTurned(int k) {
            if (kind != TURNED) {
                return true;
            }
            out.turned |= 1 << k;
            return goOn();
        }

        private boolean readNeed() {
            if (!goOn() || !isNumber(0, out.limbs - 1)) {
                return false;
            }
            int l = value;
            if (!goOn() || !isNumber(1, 9)) {
                return false;
            }
            out.need[l] = value;
            return goOn();
        }

        private boolean readUp() {
            if (!goOn() || !isNumber(0, out.limbs - 1)) {
                return false;
            }
            out.ups |= 1 << value;
            return goOn();
        }

        private boolean readLife() {
            if (!goOn() || !isNumber(1, 99)) {
                return false;
            }
            out.life = value;
            return goOn();
        }

        private boolean readRule() {
            if (!goOn() || !isNumber(0, out.limbs - 1)) {
                return false;
            }
            int l = value;
            int begin = out.codeLength;
            ups = 0;
            asksPulls = false;
            if (!goOn() || !isKind(':') || !goOn() || !readTruth(0)) {
                return false;
            }
            int bit = 1 << l;
            out.ruled |= bit;
            out.ruledByPulls = asksPulls ? out.ruledByPulls | bit : out.ruledByPulls & ~bit;
            out.ruleUps[l] = ups & ~bit;
            out.ruleBegin[l] = begin;
            out.ruleEnd[l] = out.codeLength;
            return true;
        }

        // 'within' is how many of not [ ( stand open: it bounds the recursion.

        private boolean readTruth(int within) {
            if (!readBoth(within)) {
                return false;
            }
            for (int i = 0; i < MOST_BYTES && kind == OR; i++) {
                if (!goOn() || !readBoth(within)) {
                    return false;
                }
                out.emit(OP_OR, 0);
            }
            return true;
        }

        private boolean readBoth(int within) {
            if (!readUnit(within)) {
                return false;
            }
            for (int i = 0; i < MOST_BYTES && kind == AND; i++) {
                if (!goOn() || !readUnit(within)) {
                    return false;
                }
                out.emit(OP_AND, 0);
            }
            return true;
        }

        private boolean readUnit(int within) {
            if (kind != NOT && kind != '[') {
                return readCompared(within);
            }
            if (within >= MOST_WITHIN) {
                return refuse(OVER_LIMIT);
            }
            if (kind == '[') {
                return goOn() && readTruth(within + 1) && isKind(']') && goOn();
            }
            if (!goOn() || !readUnit(within + 1)) {
                return false;
            }
            out.emit(OP_NOT, 0);
            return true;
        }

        private boolean readCompared(int within) {
            if (!readSum(within)) {
                return false;
            }
            int op = kind == '=' ? OP_SAME : kind == '<' ? OP_LESS : OP_MORE;
            if (op == OP_MORE && !isKind('>')) {
                return false;
            }
            if (!goOn() || !readSum(within)) {
                return false;
            }
            out.emit(op, 0);
            return true;
        }

        private boolean readSum(int within) {
            if (!readTerm(within)) {
                return false;
            }
            for (int i = 0; i < MOST_BYTES && (kind == '+' || kind == '-'); i++) {
                int op = kind == '+' ? OP_ADD : OP_SUBTRACT;
                if (!goOn() || !readTerm(within)) {
                    return false;
                }
                out.emit(op, 0);
            }
            return true;
        }

        private boolean readTerm(int within) {
            if (!readAtom(within)) {
                return false;
            }
            for (int i = 0; i < MOST_BYTES && kind == '*'; i++) {
                if (!goOn() || !readAtom(within)) {
                    return false;
                }
                out.emit(OP_TIMES, 0);
            }
            return true;
        }

        private boolean readAtom(int within) {
            switch (kind) {
                case NUMBER:
                    out.emit(OP_VALUE, value);
                    return goOn();
                case ME:
                    out.emit(OP_ME, 0);
                    return goOn();
                case PULLS:
                    asksPulls = true;
                    out.emit(OP_PULLS, 0);
                    return goOn();
                case UP:
                    if (!goOn() || !isNumber(0, out.limbs - 1)) {
                        return false;
                    }
                    ups |= 1 << value;
                    out.emit(OP_UP, value);
                    return goOn();
                case '(':
                    if (within >= MOST_WITHIN) {
                        return refuse(OVER_LIMIT);
                    }
                    return goOn() && readSum(within + 1) && isKind(')') && goOn();
                default:
                    return refuse(CANT_STAND);
            }
        }
    }

    /** Works out beats, and does deeds on a stage. */
    private static final class Mover {
        static final int CUTS_FROM = 100;
        static final int TIES_FROM = 200;
        static final int NONE_SUCH = 1;
        static final int WRONG_STATE = 2;
        static final int BOUND = 1000000;
        /** Six of [ ( within one another leave at most some twenty values open. */
        static final int MOST_OPEN = 64;

        final int[] pulls = new int[MOST_LIMBS];
        /** Why the latest deed could not be; 0 if all could. */
        int why;
        private final int[] open = new int[MOST_OPEN];
        private int drawn;

        /** Fills the pulls, and tells to which limbs whole strings go. */
        int pullAll(Troupe t, Stage s, int pose) {
            Arrays.fill(pulls, 0);
            int pulled = 0;
            for (int k = 0; k < t.strings; k++) {
                if (bitAt(s.whole, k) == 1) {
                    int l = t.second[k];
                    pulled |= 1 << l;
                    if (bitAt(pose, s.from[k]) != bitAt(t.turned, k)) {
                        pulls[l] += t.times[k];
                    }
                }
            }
            return pulled;
        }

        int behind(Troupe t, Stage s, int pose) {
            int pulled = pullAll(t, s, pose);
            int then = 0;
            for (int l = 0; l < t.limbs; l++) {
                if (isUpThen(t, l, pose, pulls[l], bitAt(pulled, l) == 1)) {
                    then |= 1 << l;
                }
            }
            return then;
        }

        boolean isUpThen(Troupe t, int l, int pose, int pulling, boolean pulled) {
            if (bitAt(t.ruled, l) == 1) {
                return holds(t, l, pose, pulling);
            }
            return pulled ? pulling >= t.need[l] : bitAt(pose, l) == 1;
        }

        private boolean holds(Troupe t, int l, int pose, int pulling) {
            int top = 0;
            for (int i = t.ruleBegin[l]; i < t.ruleEnd[l] && i < MOST_BYTES; i++) {
                int op = t.code[i] / Reader.OP_STEP;
                int value = t.code[i] % Reader.OP_STEP;
                if (op <= Reader.OP_PULLS) {
                    if (top < MOST_OPEN) {
                        open[top] = valueOf(op, value, pose, l, pulling);
                        top++;
                    }
                } else if (op == Reader.OP_NOT) {
                    if (top > 0) {
                        open[top - 1] = 1 - open[top - 1];
                    }
                } else if (top > 1) {
                    top--;
                    open[top - 1] = joined(op, open[top - 1], open[top]);
                }
            }
            return top > 0 && open[0] != 0;
        }

        private static int valueOf(int op, int value, int pose, int l, int pulling) {
            switch (op) {
                case Reader.OP_UP:
                    return (pose >> value) & 1;
                case Reader.OP_ME:
                    return (pose >> l) & 1;
                case Reader.OP_PULLS:
                    return pulling;
                default:
                    return value;
            }
        }

        private static int joined(int op, int a, int b) {
            switch (op) {
                case Reader.OP_AND:
                    return a & b;
                case Reader.OP_OR:
                    return a | b;
                case Reader.OP_SAME:
                    return a == b ? 1 : 0;
                case Reader.OP_LESS:
                    return a < b ? 1 : 0;
                case Reader.OP_MORE:
                    return a > b ? 1 : 0;
                default:
                    break;
            }
            long v = op == Reader.OP_ADD ? (long) a + b : op == Reader.OP_SUBTRACT ? (long) a - b : (long) a * b;
            return v > BOUND ? BOUND : v < -BOUND ? -BOUND : (int) v;
        }

        /** A beat with wear: the limbs that moved. */
        int beatOnce(Troupe t, Stage s) {
            int then = behind(t, s, s.pose);
            int moved = s.pose ^ then;
            s.pose = then;
            for (int k = 0; k < t.strings; k++) {
                if (bitAt(s.whole, k) == 1) {
                    s.wear[k] += bitAt(moved, s.from[k]);
                    if (t.life > 0 && s.wear[k] >= t.life) {
                        s.cutOne(k);
                    }
                }
            }
            return moved;
        }

        /** How many deeds of a row were done till one could not be. */
        int doDeeds(Troupe t, Stage s, NumberRow row) {
            why = 0;
            for (int i = 0; i < row.length && i < MOST_NUMBERS; i++) {
                why = doDeed(t, s, row.number[i]);
                if (why != 0) {
                    return i;
                }
            }
            return row.length;
        }

        private int doDeed(Troupe t, Stage s, long deed) {
            if (deed == NONE) {
                beatOnce(t, s);
                return 0;
            }
            if (deed < 0) {
                return NONE_SUCH;
            }
            if (deed < CUTS_FROM) {
                if (deed >= t.limbs) {
                    return NONE_SUCH;
                }
                s.pose ^= 1 << (int) deed;
                return 0;
            }
            boolean ties = deed >= TIES_FROM;
            long k = deed - (ties ? TIES_FROM : CUTS_FROM);
            return k >= t.strings ? NONE_SUCH : doString(s, (int) k, ties);
        }

        private static int doString(Stage s, int k, boolean ties) {
            boolean isWhole = bitAt(s.whole, k) == 1;
            if (isWhole == ties) {
                return WRONG_STATE;
            }
            if (ties) {
                s.tieOne(k);
            } else {
                s.cutOne(k);
            }
            return 0;
        }

        void drawDeeds(Troupe t, Stage s, int seed, int times) {
            drawn = seed;
            for (int i = 0; i < times; i++) {
                int sort = draw() % 4;
                if (sort == 0 && t.limbs > 0) {
                    s.pose ^= 1 << (draw() % t.limbs);
                } else if (sort == 1 && t.strings > 0) {
                    int k = draw() % t.strings;
                    doString(s, k, bitAt(s.whole, k) == 0);
                } else {
                    beatOnce(t, s);
                }
            }
        }

        private int draw() {
            drawn = 1103515245 * drawn + 12345;
            return drawn >>> 16;
        }
    }

    /** What follows each pose; kept till the strings are otherwise, for it is asked for often. */
    private static final class Follow {
        int poses;
        final int[] after = new int[MOST_POSES];
        /** Of each pose: beats till its ring, that ring's length, that ring's least pose. */
        final int[] lead = new int[MOST_POSES];
        final int[] length = new int[MOST_POSES];
        final int[] least = new int[MOST_POSES];
        /** Rows to work in, by whichever call is made. */
        private final int[] path = new int[MOST_POSES];
        private final int[] work = new int[MOST_POSES];
        private int picked;
        private boolean known;
        private boolean knownRings;
        private int wholeThen;
        private final int[] fromThen = new int[MOST_STRINGS];

        /** Must stand wherever another troupe comes: the strings alone don't tell it. */
        void forget() {
            known = false;
        }

        void prepare(Troupe t, Stage s, Mover m) {
            if (known && wholeThen == s.whole && isFromSame(t, s)) {
                return;
            }
            poses = 1 << t.limbs;
            for (int p = 0; p < poses && p < MOST_POSES; p++) {
                after[p] = m.behind(t, s, p);
            }
            wholeThen = s.whole;
            System.arraycopy(s.from, 0, fromThen, 0, MOST_STRINGS);
            known = true;
            knownRings = false;
        }

        private boolean isFromSame(Troupe t, Stage s) {
            for (int k = 0; k < t.strings; k++) {
                if (s.from[k] != fromThen[k]) {
                    return false;
                }
            }
            return true;
        }

        void prepareRings() {
            if (knownRings) {
                return;
            }
            Arrays.fill(least, NONE);
            Arrays.fill(work, NONE);
            for (int p = 0; p < poses; p++) {
                if (least[p] == NONE) {
                    goAlong(p);
                }
            }
            knownRings = true;
        }

        /** Goes from a pose till one whose ring is known, or till the path meets itself. */
        private void goAlong(int pose) {
            int steps = 0;
            int at = pose;
            while (steps < poses && least[at] == NONE && work[at] == NONE) {
                work[at] = steps;
                path[steps] = at;
                steps++;
                at = after[at];
            }
            int tail = steps;
            if (least[at] == NONE) {
                tail = work[at];
                closeRing(tail, steps);
            }
            for (int i = tail - 1; i >= 0; i--) {
                int p = path[i];
                int q = after[p];
                lead[p] = lead[q] + 1;
                length[p] = length[q];
                least[p] = least[q];
            }
        }

        private void closeRing(int begin, int end) {
            int lowest = path[begin];
            for (int i = begin; i < end; i++) {
                lowest = Math.min(lowest, path[i]);
            }
            for (int i = begin; i < end; i++) {
                int p = path[i];
                lead[p] = 0;
                length[p] = end - begin;
                least[p] = lowest;
            }
        }

        void clearPicked() {
            picked = 0;
        }

        void pick(int pose) {
            if (picked < MOST_POSES) {
                path[picked] = pose;
                picked++;
            }
        }

        /** How many were picked (k NONE), else the k-th, NONE if there are not so many. */
        int pickedAt(int k) {
            if (k == NONE) {
                return picked;
            }
            return k >= 0 && k < picked ? path[k] : NONE;
        }

        int fromNone() {
            Arrays.fill(path, 0);
            for (int p = 0; p < poses; p++) {
                path[after[p]] = 1;
            }
            int found = 0;
            for (int p = 0; p < poses; p++) {
                found += 1 - path[p];
            }
            return found;
        }

        int otherwiseBehind(int bit, int beats) {
            for (int p = 0; p < poses; p++) {
                path[p] = p;
            }
            for (int i = 0; i < beats; i++) {
                for (int p = 0; p < poses; p++) {
                    path[p] = after[path[p]];
                }
            }
            int found = 0;
            for (int p = 0; p < poses; p++) {
                int q = p ^ bit;
                if (q < poses && path[p] != path[q]) {
                    found++;
                }
            }
            return found;
        }
    }

    /** Ways to poses, and what lets them rest. */
    private static final class Wishes {
        static final int MOST_WAY = 40;
        static final int MOST_WAIT = 60;
        static final int MOST_PULLS = MOST_STRINGS * MOST_TIMES;

        int beats;
        int nudges;
        final int[] way = new int[MOST_WAY];
        private final int[] reached = new int[MOST_POSES];
        private final int[] queue = new int[MOST_POSES];
        private final int[] cost = new int[MOST_POSES];
        /** By how many cuts and how much pull they take: the least strings as bits. */
        private final int[][] cutsBy = new int[MOST_STRINGS + 1][MOST_PULLS + 1];

        /** False: not within 40 beats. */
        boolean findWay(int[] after, int limbs, int from, int to) {
            int queued = spread(after, limbs, from);
            if (reached[to] == NONE) {
                return false;
            }
            beats = reached[to];
            weigh(after, limbs, to, queued);
            nudges = cost[from];
            walk(after, limbs, from);
            return true;
        }

        /** Where a pose is behind a nudge (NONE: without) and a beat. */
        private static int stepped(int[] after, int pose, int nudged) {
            return after[nudged == NONE ? pose : pose ^ (1 << nudged)];
        }

        private int spread(int[] after, int limbs, int from) {
            Arrays.fill(reached, NONE);
            reached[from] = 0;
            queue[0] = from;
            int queued = 1;
            for (int i = 0; i < queued && i < MOST_POSES; i++) {
                int p = queue[i];
                for (int l = NONE; l < limbs && reached[p] < MOST_WAY; l++) {
                    int q = stepped(after, p, l);
                    if (reached[q] == NONE && queued < MOST_POSES) {
                        reached[q] = reached[p] + 1;
                        queue[queued] = q;
                        queued++;
                    }
                }
            }
            return queued;
        }

        /** Fewest nudges from each pose on a soonest way; all of those lie one beat on at each step. */
        private void weigh(int[] after, int limbs, int to, int queued) {
            Arrays.fill(cost, NONE);
            cost[to] = 0;
            for (int i = queued - 1; i >= 0; i--) {
                int p = queue[i];
                for (int l = NONE; l < limbs && reached[p] < reached[to]; l++) {
                    int q = stepped(after, p, l);
                    int much = cost[q] + (l == NONE ? 0 : 1);
                    boolean onWay = cost[q] != NONE && reached[q] == reached[p] + 1;
                    if (onWay && (cost[p] == NONE || much < cost[p])) {
                        cost[p] = much;
                    }
                }
            }
        }

        private void walk(int[] after, int limbs, int from) {
            int p = from;
            for (int i = 0; i < beats && i < MOST_WAY; i++) {
                way[i] = bestNudge(after, limbs, p);
                p = stepped(after, p, way[i]);
            }
        }

        private int bestNudge(int[] after, int limbs, int p) {
            for (int l = NONE; l < limbs; l++) {
                int q = stepped(after, p, l);
                int much = cost[q] + (l == NONE ? 0 : 1);
                if (cost[q] != NONE && reached[q] == reached[p] + 1 && much == cost[p]) {
                    return l;
                }
            }
            return NONE;
        }

        /** Whether a pose comes within 60 beats, at least one. */
        boolean comes(int[] after, int from, int to) {
            int p = from;
            for (int i = 0; i < MOST_WAIT; i++) {
                p = after[p];
                if (p == to) {
                    return true;
                }
            }
            return false;
        }

        /** Limbs share no string that goes to them, so each is cured alone. */
        int fewestToRest(Troupe t, Stage s, Mover m, int pose) {
            int cuts = 0;
            for (int l = 0; l < t.limbs; l++) {
                int some = fewestAtLimb(t, s, m, pose, l);
                if (some == NONE) {
                    return NONE;
                }
                cuts |= some;
            }
            return cuts;
        }

        private int fewestAtLimb(Troupe t, Stage s, Mover m, int pose, int l) {
            for (int c = 0; c <= MOST_STRINGS; c++) {
                Arrays.fill(cutsBy[c], NONE);
            }
            cutsBy[0][0] = 0;
            int strings = 0;
            int pulling = 0;
            for (int k = 0; k < t.strings; k++) {
                if (bitAt(s.whole, k) == 1 && t.second[k] == l) {
                    boolean pulls = bitAt(pose, s.from[k]) != bitAt(t.turned, k);
                    int pull = pulls ? t.times[k] : 0;
                    addCut(1 << k, pull, strings, pulling);
                    strings++;
                    pulling += pull;
                }
            }
            for (int c = 0; c <= strings; c++) {
                int best = NONE;
                for (int r = 0; r <= pulling; r++) {
                    int cuts = cutsBy[c][r];
                    boolean better = cuts != NONE && (best == NONE || cuts < best);
                    if (better && isStill(t, m, pose, l, pulling - r, c < strings)) {
                        best = cuts;
                    }
                }
                if (best != NONE) {
                    return best;
                }
            }
            return NONE;
        }

        private static boolean isStill(Troupe t, Mover m, int pose, int l, int pulling, boolean pulled) {
            return m.isUpThen(t, l, pose, pulling, pulled) == (bitAt(pose, l) == 1);
        }

        /** Strings come in order, so that what was there ahead is always less than with this one. */
        private void addCut(int bit, int pull, int strings, int pulling) {
            for (int c = Math.min(strings, MOST_STRINGS - 1); c >= 0; c--) {
                for (int r = 0; r <= pulling && r + pull <= MOST_PULLS; r++) {
                    if (cutsBy[c][r] != NONE && cutsBy[c + 1][r + pull] == NONE) {
                        cutsBy[c + 1][r + pull] = cutsBy[c][r] | bit;
                    }
                }
            }
        }
    }

    /** Who works whom. */
    private static final class Web {
        /** Of each limb: those that it works, as bits. */
        final int[] reach = new int[MOST_LIMBS];

        /** 'whole' stands beside the stage so that it can be asked without a string. */
        void reachAll(Troupe t, Stage s, int whole) {
            Arrays.fill(reach, 0);
            for (int k = 0; k < t.strings; k++) {
                if (bitAt(whole, k) == 1 && canWork(t, k)) {
                    reach[s.from[k]] |= 1 << t.second[k];
                }
            }
            for (int l = 0; l < t.limbs; l++) {
                addRule(t, l);
            }
            for (int via = 0; via < t.limbs; via++) {
                for (int l = 0; l < t.limbs; l++) {
                    if (bitAt(reach[l], via) == 1) {
                        reach[l] |= reach[via];
                    }
                }
            }
        }

        private void addRule(Troupe t, int l) {
            for (int by = 0; by < t.limbs; by++) {
                if (bitAt(rulers(t, l), by) == 1) {
                    reach[by] |= 1 << l;
                }
            }
        }

        /** Limbs that work one by its rule at once, as bits. */
        private static int rulers(Troupe t, int l) {
            return bitAt(t.ruled, l) == 1 ? t.ruleUps[l] : 0;
        }

        private static boolean canWork(Troupe t, int k) {
            int l = t.second[k];
            return bitAt(t.ruled, l) == 0 || bitAt(t.ruledByPulls, l) == 1;
        }

        int mutual(int l, int limbs) {
            int some = 1 << l;
            for (int o = 0; o < limbs; o++) {
                if (bitAt(reach[l], o) == 1 && bitAt(reach[o], l) == 1) {
                    some |= 1 << o;
                }
            }
            return some;
        }

        /** The least over all sides that hold the one and not the other of what leads out. */
        int fewestCuts(Troupe t, Stage s, int l, int other) {
            int best = NONE;
            for (int side = 0; side <= t.allLimbs(); side++) {
                if (bitAt(side, l) == 1 && bitAt(side, other) == 0 && !leadsOutByRule(t, side)) {
                    int cuts = stringsOut(t, s, side);
                    best = best == NONE ? cuts : Math.min(best, cuts);
                }
            }
            return best;
        }

        private static boolean leadsOutByRule(Troupe t, int side) {
            for (int l = 0; l < t.limbs; l++) {
                if (bitAt(side, l) == 0 && (rulers(t, l) & side) != 0) {
                    return true;
                }
            }
            return false;
        }

        private static int stringsOut(Troupe t, Stage s, int side) {
            int found = 0;
            for (int k = 0; k < t.strings; k++) {
                boolean out = bitAt(side, s.from[k]) == 1 && bitAt(side, t.second[k]) == 0;
                if (out && bitAt(s.whole, k) == 1 && canWork(t, k)) {
                    found++;
                }
            }
            return found;
        }
    }

    /** Counts tangles, and tries all orders of few limbs. */
    private static final class Tangler {
        static final int MOST_PLACED = 7;
        static final int MOST_ORDERS = 5040;

        private final int[] order = new int[MOST_PLACED];
        /** -1 or 1 by limb: which way it goes next among the orders. */
        private final int[] way = new int[MOST_PLACED];
        /** Pairs of strings as bits; those that a swap of two limbs turns about, by both limbs. */
        private final long[] turnsLow = new long[MOST_PLACED * MOST_PLACED];
        private final long[] turnsHigh = new long[MOST_PLACED * MOST_PLACED];
        private long low;
        private long high;
        private int pairs;

        int tangled(Troupe t, Stage s) {
            int found = 0;
            for (int i = 0; i < t.strings; i++) {
                for (int j = 0; j < t.strings; j++) {
                    if (bitAt(s.whole, i) == 1 && bitAt(s.whole, j) == 1 && isAhead(t, s, i, j)) {
                        found++;
                    }
                }
            }
            return found;
        }

        private static boolean isAhead(Troupe t, Stage s, int i, int j) {
            return s.place[s.from[i]] < s.place[s.from[j]]
                    && s.place[t.second[i]] > s.place[t.second[j]];
        }

        /** From one order to the next two neighbours change, so few pairs must be looked at. */
        int leastTangled(Troupe t, Stage s) {
            int n = Math.min(t.limbs, MOST_PLACED);
            begin(t, s);
            int best = Long.bitCount(low) + Long.bitCount(high);
            for (int i = 0; i < MOST_ORDERS; i++) {
                int at = movable(n);
                if (at == NONE) {
                    return best;
                }
                change(at, n);
                best = Math.min(best, Long.bitCount(low) + Long.bitCount(high));
            }
            return best;
        }

        private void begin(Troupe t, Stage s) {
            for (int l = 0; l < MOST_PLACED; l++) {
                order[l] = l;
                way[l] = -1;
            }
            Arrays.fill(turnsLow, 0);
            Arrays.fill(turnsHigh, 0);
            low = 0;
            high = 0;
            pairs = 0;
            for (int i = 0; i < t.strings; i++) {
                for (int j = 0; j < i; j++) {
                    if (bitAt(s.whole, i) == 1 && bitAt(s.whole, j) == 1) {
                        addPair(s.from[i], t.second[i], s.from[j], t.second[j]);
                    }
                }
            }
        }

        /** Two strings with an end in common there never tangle. */
        private void addPair(int from, int to, int otherFrom, int otherTo) {
            if (from == otherFrom || to == otherTo) {
                return;
            }
            long lowBit = pairs < 64 ? 1L << pairs : 0;
            long highBit = pairs < 64 ? 0 : 1L << (pairs - 64);
            pairs++;
            if (from < otherFrom != to < otherTo) {
                low |= lowBit;
                high |= highBit;
            }
            turn(from, otherFrom, lowBit, highBit);
            turn(to, otherTo, lowBit, highBit);
        }

        private void turn(int a, int b, long lowBit, long highBit) {
            int i = spot(a, b);
            turnsLow[i] ^= lowBit;
            turnsHigh[i] ^= highBit;
        }

        private static int spot(int a, int b) {
            return Math.min(a, b) * MOST_PLACED + Math.max(a, b);
        }

        /** The place of the highest limb whose next neighbour is lower; NONE behind the last order. */
        private int movable(int n) {
            int best = NONE;
            for (int i = 0; i < n; i++) {
                int to = i + way[order[i]];
                boolean can = to >= 0 && to < n && order[to] < order[i];
                if (can && (best == NONE || order[i] > order[best])) {
                    best = i;
                }
            }
            return best;
        }

        private void change(int at, int n) {
            int l = order[at];
            int to = at + way[l];
            if (to < 0 || to >= n) {
                return;
            }
            int i = spot(l, order[to]);
            low ^= turnsLow[i];
            high ^= turnsHigh[i];
            order[at] = order[to];
            order[to] = l;
            for (int o = l + 1; o < n; o++) {
                way[o] = -way[o];
            }
        }
    }

    /** Scenes: a script, or what two would each have. */
    private static final class Scenes {
        static final int MOST_SCENES = 12;
        static final int CHOICES = 3;
        static final int MOST_HELD = 60;

        /** What each of two has, by the first one's choice, then the other's. */
        final int[] has = new int[CHOICES * CHOICES];
        final int[] otherHas = new int[CHOICES * CHOICES];
        private int scenes;
        private final int[] asked = new int[MOST_SCENES];
        private final int[] up = new int[MOST_SCENES];
        private final int[] cost = new int[MOST_POSES];
        private final int[] costBehind = new int[MOST_POSES];

        void clear() {
            scenes = 0;
        }

        /** False: there can't be such a scene. */
        boolean addScene(long v, int all) {
            long told = v >> MOST_LIMBS;
            int ups = (int) (v & (MOST_POSES - 1));
            if (v < 0 || (told & ~(long) all) != 0 || (ups & ~(int) told) != 0 || scenes >= MOST_SCENES) {
                return false;
            }
            asked[scenes] = (int) told;
            up[scenes] = ups;
            scenes++;
            return true;
        }

        private boolean isSo(int i, int pose) {
            return (pose & asked[i]) == up[i];
        }

        boolean goSo(int[] after, int pose) {
            int p = pose;
            for (int i = 0; i < scenes; i++) {
                if (!isSo(i, p)) {
                    return false;
                }
                p = after[p];
            }
            return true;
        }

        int fewestNudges(int[] after, int limbs, int pose) {
            int poses = Math.min(1 << limbs, MOST_POSES);
            Arrays.fill(cost, NONE);
            cost[pose] = 0;
            for (int i = 0; i < scenes; i++) {
                if (i > 0) {
                    beatCosts(after, poses);
                }
                for (int l = 0; l < limbs; l++) {
                    nudgeCosts(1 << l, poses);
                }
                keepScene(i, poses);
            }
            int best = NONE;
            for (int p = 0; p < poses; p++) {
                best = lesser(best, cost[p]);
            }
            return best;
        }

        /** NONE stands for no way at all, so it is above all others. */
        private static int lesser(int a, int b) {
            if (a == NONE || b == NONE) {
                return a == NONE ? b : a;
            }
            return Math.min(a, b);
        }

        private void beatCosts(int[] after, int poses) {
            Arrays.fill(costBehind, NONE);
            for (int p = 0; p < poses; p++) {
                costBehind[after[p]] = lesser(costBehind[after[p]], cost[p]);
            }
            System.arraycopy(costBehind, 0, cost, 0, MOST_POSES);
        }

        /** Nudges of several limbs go in any order, so one turn for each limb is enough. */
        private void nudgeCosts(int bit, int poses) {
            for (int p = 0; p < poses; p++) {
                int q = p | bit;
                if ((p & bit) == 0 && q < poses) {
                    int down = cost[p];
                    int upCost = cost[q];
                    cost[p] = upCost == NONE ? down : lesser(down, upCost + 1);
                    cost[q] = down == NONE ? upCost : lesser(upCost, down + 1);
                }
            }
        }

        private void keepScene(int i, int poses) {
            for (int p = 0; p < poses; p++) {
                if (!isSo(i, p)) {
                    cost[p] = NONE;
                }
            }
        }

        void playAll(int[] after, int pose, int bit, int otherBit) {
            for (int i = 0; i < CHOICES * CHOICES; i++) {
                has[i] = 0;
                otherHas[i] = 0;
                int p = held(held(pose, bit, i / CHOICES), otherBit, i % CHOICES);
                for (int b = 0; b < MOST_HELD; b++) {
                    p = held(held(after[p], bit, i / CHOICES), otherBit, i % CHOICES);
                    has[i] += isSo(0, p) ? 1 : 0;
                    otherHas[i] += isSo(1, p) ? 1 : 0;
                }
            }
        }

        private static int held(int pose, int bit, int choice) {
            if (choice == 0) {
                return pose;
            }
            return choice == 1 ? pose | bit : pose & ~bit;
        }

        int firstAtRest() {
            for (int i = 0; i < CHOICES * CHOICES; i++) {
                if (isAtRest(i)) {
                    return i;
                }
            }
            return NONE;
        }

        private boolean isAtRest(int i) {
            for (int c = 0; c < CHOICES; c++) {
                boolean better = has[c * CHOICES + i % CHOICES] > has[i];
                boolean otherBetter = otherHas[i / CHOICES * CHOICES + c] > otherHas[i];
                if (better || otherBetter) {
                    return false;
                }
            }
            return true;
        }
    }

    /** From a film: which sets of limbs, with which needs, may pull one limb. */
    private static final class Guesses {
        static final int MOST_FILMED = 30;

        /** How many guesses fit; those of one set have the needs from low to high. */
        int total;
        final int[] set = new int[MOST_POSES];
        final int[] low = new int[MOST_POSES];
        private final int[] high = new int[MOST_POSES];
        private int sets;
        private final int[] filmed = new int[MOST_FILMED];
        private int frames;

        /** False: a number is no pose. */
        boolean takeFilm(NumberRow row, int all) {
            frames = 0;
            for (int i = 0; i < row.length && i < MOST_FILMED; i++) {
                if ((row.number[i] & ~(long) all) != 0) {
                    return false;
                }
                filmed[frames] = (int) row.number[i];
                frames++;
            }
            return true;
        }

        void gather(int all, int l) {
            sets = 0;
            total = 0;
            for (int some = 1; some <= all && some < MOST_POSES; some++) {
                if (bitAt(some, l) == 0) {
                    addSet(some, l);
                }
            }
        }

        private void addSet(int some, int l) {
            int least = 1;
            int most = Integer.bitCount(some);
            for (int i = 0; i + 1 < frames && least <= most; i++) {
                int pulling = Integer.bitCount(filmed[i] & some);
                if (bitAt(filmed[i + 1], l) == 1) {
                    most = Math.min(most, pulling);
                } else {
                    least = Math.max(least, pulling + 1);
                }
            }
            if (least <= most) {
                set[sets] = some;
                low[sets] = least;
                high[sets] = most;
                sets++;
                total += most - least + 1;
            }
        }

        int smallest() {
            int best = NONE;
            for (int i = 0; i < sets; i++) {
                if (best == NONE || Integer.bitCount(set[i]) < Integer.bitCount(set[best])) {
                    best = i;
                }
            }
            return best;
        }

        int inAll() {
            int common = NONE;
            for (int i = 0; i < sets; i++) {
                common &= set[i];
            }
            return common;
        }

        int mostTelling(int all, int bit) {
            int best = 0;
            int bestLeft = total + 1;
            for (int p = 0; p <= all; p++) {
                // The limb itself pulls nothing here: with it a pose tells what a lesser one does.
                if ((p & bit) == 0) {
                    int ups = upBehind(p);
                    int left = Math.max(ups, total - ups);
                    if (left < bestLeft) {
                        best = p;
                        bestLeft = left;
                    }
                }
            }
            return best;
        }

        /** Of the guesses that fit, how many tell that the limb is up behind a pose. */
        private int upBehind(int pose) {
            int found = 0;
            for (int i = 0; i < sets; i++) {
                int most = Math.min(high[i], Integer.bitCount(pose & set[i]));
                found += Math.max(0, most - low[i] + 1);
            }
            return found;
        }
    }

    /** A row of numbers; without one it is missing. */
    private static final class NumberRow {
        int length = NONE;
        final long[] number = new long[MOST_NUMBERS];
        private int sort;

        boolean isMissing() {
            return length == NONE;
        }

        void begin(int ofSort, int n) {
            sort = ofSort;
            length = n;
            Arrays.fill(number, 0);
        }

        long put(int i, long v) {
            if (i < 0 || i >= length || i >= MOST_NUMBERS) {
                return NO_NUMBER;
            }
            number[i] = cutTo(sort, v);
            return number[i];
        }

        private static long cutTo(int ofSort, long v) {
            switch (ofSort) {
                case 0:
                    return (byte) v;
                case 1:
                    return (short) v;
                case 2:
                    return (int) v;
                default:
                    return v;
            }
        }
    }
}
