import java.util.Arrays;

/** A hot plate with drops on it. Words in capitals are the terms of the document, ../shared/DOC.md. */
public final class DropsDance {
    public static final int BAD = -1, STATE = -2, FULL = -3, NONE = -4;

    private static final int COLUMNS = 12, ROWS = 8, CELLS = 96, WAYS = 4;
    private static final int PLAIN = 4, WALL = 5, HOLE = 6, COLD = 7;
    private static final int UP = 0, DOWN = 1, TEETH_FROM = 2, TEETH_TO = 3, LEAP = 4, CHIMNEY = 5, HISS = 6, FILM = 7, ROLL = 8;
    private static final int RULES = 9;
    private static final int STEAM = 1, FALLEN = 2, LEAPT = 3, JOINED = 4;
    private static final int DROPS = 12, IMAGES = 2, SHEETS = 4, LANES = 3, SHEET_CELLS = 40, TOLD_LIVES = 12;
    private static final int TAPE_BYTES = 320, FEED_BYTES = 8;
    private static final int MOST_SIZE = 60, MOST_HEAT = 99, MOST_LIFE = 999, MOST_GO = 200, MOST_ALONE = 400, MOST_ROLLS = 10;
    private static final int NOTHING = -1;
    private static final int FAULT_NULL = 1, FAULT_INDEX = 2, FAULT_CAST = 3, FAULT_SIZE = 4;

    /** RULES in their order: the least, the most (down beside up is looked at behind all), at first. */
    private static final int[] RULE_LEAST = {1, 0, 1, 1, 0, 1, 1, 1, 0};
    private static final int[] RULE_MOST = {99, 99, 60, 60, 9, 99, 50, 9, 60};
    private static final int[] RULE_FIRST = {60, 40, 1, 60, 0, 40, 10, 3, 0};

    private final TextReader reader = new TextReader();
    private int tapeLength = 0;
    private int textFault = 0;
    private final Rules rules = new Rules();
    private final Scene scene = new Scene();
    private final Image[] images = new Image[IMAGES];
    private final Loner loner = new Loner();
    private final Path path = new Path();
    private final Roller roller = new Roller();
    private final ToldLives told = new ToldLives();
    private final Sheet[] sheets = new Sheet[SHEETS];
    private int readFault = 0;

    public DropsDance() {
        for (int i = 0; i < IMAGES; i++) {
            images[i] = new Image();
        }
        for (int k = 0; k < SHEETS; k++) {
            sheets[k] = new Sheet();
        }
    }

    // ---- the text

    public int feed(long v) {
        if (tapeLength > TAPE_BYTES - FEED_BYTES) {
            return FULL;
        }
        for (int i = 0; i < FEED_BYTES; i++) {
            reader.tape[tapeLength + i] = (byte) (v >>> (8 * (FEED_BYTES - 1 - i)));
        }
        tapeLength += FEED_BYTES;
        return tapeLength;
    }

    public int end(int n) {
        if (!within(n, 0, tapeLength)) {
            return BAD;
        }
        int had = tapeLength;
        tapeLength = n;
        return had;
    }

    public int text() {
        reader.readAll(tapeLength);
        tapeLength = 0;
        textFault = reader.fault;
        if (textFault != 0) {
            return -10 - reader.place;
        }
        rules.takeAll(reader.rules);
        scene.beginAnew(reader.cells);
        told.many = 0;
        for (int i = 0; i < IMAGES; i++) {
            images[i].there = false;
        }
        return reader.lines;
    }

    public int fault() {
        return textFault;
    }

    public int rule(int what) {
        return within(what, 0, RULES - 1) ? rules.value(what) : BAD;
    }

    public int cell(int c) {
        return isCell(c) ? scene.kindAt(c) : BAD;
    }

    public int put(int c, int v) {
        if (!isCell(c) || !within(v, 0, COLD)) {
            return BAD;
        }
        if ((v == WALL || v == HOLE) && scene.dropAt(c) != NONE) {
            return STATE;
        }
        int was = scene.cells[c];
        scene.cells[c] = v;
        return was;
    }

    // ---- the plate, drops

    public int heat(int h) {
        if (!isHeat(h)) {
            return BAD;
        }
        scene.heat = h;
        scene.floating = rules.floatsAt(h, !scene.floating);
        return scene.floating ? 1 : 0;
    }

    public int drop(int c, int size, int way) {
        return setDown(c, size, way);
    }

    public int go(int n) {
        if (!within(n, 1, MOST_GO)) {
            return BAD;
        }
        int roll = rules.value(ROLL);
        for (int i = 0; i < n; i++) {
            scene.passTick(rules, roll);
        }
        return scene.howManyThere();
    }

    public int seed(int v) {
        int was = scene.seed;
        scene.seed = v;
        return was;
    }

    public int of(int d, int what) {
        if (!scene.isDrop(d)) {
            return BAD;
        }
        Drop drop = scene.drops[d];
        switch (what) {
            case 0: return drop.cell;
            case 1: return drop.size;
            case 2: return drop.way;
            case 3: return drop.gone;
            case 4: return drop.goneTick;
            case 5: return drop.joinedTo;
            default: return BAD;
        }
    }

    public int at(int c) {
        return isCell(c) ? scene.dropAt(c) : BAD;
    }

    public int now(int what) {
        switch (what) {
            case 0: return scene.tick;
            case 1: return scene.heat;
            case 2: return scene.floating ? 1 : 0;
            case 3: return scene.sizesThere();
            case 4: return scene.steam;
            case 5: return scene.fallen;
            case 6: return scene.leapt;
            case 7: return scene.poured;
            default: return BAD;
        }
    }

    public int points(int d) {
        if (!scene.isDrop(d)) {
            return BAD;
        }
        Drop drop = scene.drops[d];
        if (drop.gone != 0) {
            return NONE;
        }
        if (scene.touches(drop) || rules.hasChimney(drop.size)) {
            return 0;
        }
        return 3 + 2 * (drop.size / 10);
    }

    public int keep(int i) {
        if (!within(i, 0, IMAGES - 1)) {
            return BAD;
        }
        Image image = images[i];
        int was = image.there ? 1 : 0;
        image.scene.takeAll(scene);
        image.there = true;
        return was;
    }

    public int back(int i) {
        if (!within(i, 0, IMAGES - 1)) {
            return BAD;
        }
        Image image = images[i];
        if (!image.there) {
            return STATE;
        }
        scene.takeAll(image.scene);
        return scene.tick;
    }

    // ---- one by itself

    public int alone(int c, int size, int way, int n, int what) {
        if (!isDropToBe(c, size, way) || !within(n, 0, MOST_ALONE) || !within(what, 0, 3)) {
            return BAD;
        }
        if (!scene.isOpen(c)) {
            return STATE;
        }
        loner.begin(scene, c, size, way);
        Drop drop = loner.runOn(rules, n);
        switch (what) {
            case 0: return drop.cell;
            case 1: return drop.size;
            case 2: return drop.gone;
            default: return drop.goneTick;
        }
    }

    public int reach(int c, int size, int way, int goal) {
        if (!isDropToBe(c, size, way) || !isCell(goal)) {
            return BAD;
        }
        if (!scene.isOpen(c)) {
            return STATE;
        }
        loner.begin(scene, c, size, way);
        return loner.ticksTill(rules, goal, MOST_ALONE);
    }

    public int ring(int c, int size, int way, int what) {
        if (!isDropToBe(c, size, way) || !within(what, 0, 2)) {
            return BAD;
        }
        if (!scene.isOpen(c)) {
            return STATE;
        }
        if (path.follow(scene, rules, c, size, way) != NONE) {
            return NONE;
        }
        switch (what) {
            case 0: return path.ticksBefore;
            case 1: return path.ticksRound;
            default: return path.cellsRound();
        }
    }

    public long falls(int c, int way, int goal) {
        if (!isCell(c) || !isWay(way) || !isCell(goal)) {
            return BAD;
        }
        if (!scene.isOpen(c) || scene.kindAt(goal) != HOLE) {
            return STATE;
        }
        // A SIZE tells on a PATH only by whether teeth send it: one of each kind stands for all.
        int from = rules.value(TEETH_FROM), to = rules.value(TEETH_TO);
        boolean sentFall = path.follow(scene, rules, c, from, way) == goal;
        boolean othersFall = path.follow(scene, rules, c, to + 1, way) == goal;
        long sizes = 0;
        for (int size = 1; size <= MOST_SIZE; size++) {
            if (rules.teethSend(size) ? sentFall : othersFall) {
                sizes |= 1L << size;
            }
        }
        return sizes;
    }

    public int mend(int c, int size, int way, int goal, int what) {
        if (!isDropToBe(c, size, way) || !isCell(goal) || !within(what, 0, 2)) {
            return BAD;
        }
        if (!scene.isOpen(c)) {
            return STATE;
        }
        loner.begin(scene, c, size, way);
        if (!loner.findMend(rules, goal)) {
            return NONE;
        }
        switch (what) {
            case 0: return loner.bestTicks;
            case 1: return loner.bestCell;
            default: return loner.bestKind;
        }
    }

    // ---- lives, heats

    public int life(int size, int heat, boolean up) {
        return isSize(size) && isHeat(heat) ? rules.lifeOf(size, heat, up) : BAD;
    }

    public int hump(int size, boolean up, int what) {
        if (!isSize(size)) {
            return BAD;
        }
        switch (what) {
            case 0: return rules.longestHeat(size, up);
            case 1: return rules.lifeOf(size, rules.longestHeat(size, up), up);
            case 2: return rules.shortestLife(size, up);
            case 3: return rules.firstLonger(size, up);
            default: return BAD;
        }
    }

    public int hot(int size, int life, boolean up, int what) {
        if (!isSize(size) || !within(life, 0, MOST_LIFE) || !within(what, 0, 2)) {
            return BAD;
        }
        int many = 0, least = NONE, greatest = NONE;
        for (int heat = 0; heat <= MOST_HEAT; heat++) {
            if (rules.lifeOf(size, heat, up) == life) {
                many++;
                least = least == NONE ? heat : least;
                greatest = heat;
            }
        }
        return what == 0 ? many : what == 1 ? least : greatest;
    }

    public long odds(int c, int goal, int n, int what) {
        if (!isCell(c) || !isCell(goal) || !within(n, 0, MOST_ROLLS) || !within(what, 0, 1)) {
            return BAD;
        }
        if (scene.kindAt(c) == WALL) {
            return STATE;
        }
        long been = roller.beenIn(scene, c, goal, n);
        long all = 1L << (2 * n);
        // all is a power of 2, so that lowest terms need halving alone.
        for (int i = 0; i < 2 * n && (been & 1) == 0; i++) {
            been >>= 1;
            all >>= 1;
        }
        return what == 0 ? been : all;
    }

    public int cools(int heat, int t, int what) {
        if (!isHeat(heat) || !isHeat(t) || !within(what, 0, 1)) {
            return BAD;
        }
        int left = heat, ticks = 0, floatingTicks = 0;
        // It loses 1 at least at each TICK.
        for (int i = 0; i <= MOST_HEAT && left > t; i++) {
            if (rules.floatsAt(left, false)) {
                floatingTicks++;
                left--;
            } else {
                left = Math.max(0, left - rules.lossTouching(left));
            }
            ticks++;
        }
        return what == 0 ? ticks : floatingTicks;
    }

    // ---- told lives

    public int saw(int size, int heat, boolean up, int life) {
        if (!isSize(size) || !isHeat(heat) || !within(life, 0, MOST_LIFE)) {
            return BAD;
        }
        return told.tell(size, heat, up, life) ? told.many : FULL;
    }

    public int forget() {
        int were = told.many;
        told.many = 0;
        return were;
    }

    public int fits(int what) {
        if (!within(what, 0, 2)) {
            return BAD;
        }
        int many = 0, least = NONE, greatest = NONE;
        // down may be 0, but up never is.
        for (int up = Math.max(RULE_LEAST[UP], rules.value(DOWN)); up <= RULE_MOST[UP]; up++) {
            if (told.allSo(rules, up)) {
                many++;
                least = least == NONE ? up : least;
                greatest = up;
            }
        }
        return what == 0 ? many : what == 1 ? least : greatest;
    }

    public int right() {
        int bits = 0;
        for (int i = 0; i < told.many; i++) {
            if (told.isSo(i, rules, rules.value(UP))) {
                bits |= 1 << i;
            }
        }
        return bits;
    }

    // ---- sheets

    public int sheet(int k, int lane, int n) {
        if (!isSheet(k) || !isLane(lane) || n > SHEET_CELLS) {
            return BAD;
        }
        if (n < 0) {
            return -10 - FAULT_SIZE;
        }
        sheets[k].becomeNew(lane, n);
        return 1;
    }

    public int lay(int k, int i, int v) {
        if (!isSheet(k)) {
            return BAD;
        }
        int refused = sheets[k].faultAt(i);
        if (refused != 0) {
            return -10 - refused;
        }
        sheets[k].write(i, v);
        return 1;
    }

    public int read(int k, int lane, int f, int n) {
        if (!isSheet(k) || !isLane(lane) || !within(n, 0, DROPS)) {
            return BAD;
        }
        Sheet sheet = sheets[k];
        int manyBefore = scene.many, pouredBefore = scene.poured, came = 0;
        int found = 0;
        for (int i = 0; i < n && found == 0; i++) {
            found = sheet.faultOfDrop(lane, f, i);
            if (found == 0) {
                int first = f + 3 * i;
                int answer = setDown(sheet.valueAt(first), sheet.valueAt(first + 1), sheet.valueAt(first + 2));
                if (answer < 0) {
                    scene.many = manyBefore;
                    scene.poured = pouredBefore;
                    return answer == FULL ? FULL : -20 - i;
                }
                came++;
            }
        }
        readFault = found;
        return came;
    }

    public int torn() {
        return readFault;
    }

    public int count(int what) {
        switch (what) {
            case 0: return scene.many;
            case 1: return scene.howManyThere();
            case 2: return told.many;
            case 3: return howManyImages();
            case 4: return scene.howManyHoles();
            case 5: return tapeLength;
            case 6: return sheets[0].lane == NOTHING ? NONE : sheets[0].length;
            default: return BAD;
        }
    }

    // ---- what several calls share

    private int setDown(int c, int size, int way) {
        if (!isDropToBe(c, size, way)) {
            return BAD;
        }
        if (!scene.isOpen(c) || scene.dropAt(c) != NONE) {
            return STATE;
        }
        return scene.many < DROPS ? scene.addDrop(c, size, way) : FULL;
    }

    private int howManyImages() {
        int many = 0;
        for (int i = 0; i < IMAGES; i++) {
            many += images[i].there ? 1 : 0;
        }
        return many;
    }

    private static boolean within(int v, int least, int most) {
        return v >= least && v <= most;
    }

    private static boolean isCell(int c) {
        return c >= 0 && c < CELLS;
    }

    private static boolean isWay(int way) {
        return way >= 0 && way < WAYS;
    }

    private static boolean isSize(int size) {
        return within(size, 1, MOST_SIZE);
    }

    private static boolean isHeat(int h) {
        return within(h, 0, MOST_HEAT);
    }

    private static boolean isSheet(int k) {
        return within(k, 0, SHEETS - 1);
    }

    private static boolean isLane(int lane) {
        return within(lane, 0, LANES - 1);
    }

    private static boolean isDropToBe(int c, int size, int way) {
        return isCell(c) && isSize(size) && isWay(way);
    }

    /** The CELL one further on, NONE beyond THE PLATE. */
    private static int nextCell(int c, int way) {
        int row = c / COLUMNS, column = c % COLUMNS;
        switch (way) {
            case 0: return row > 0 ? c - COLUMNS : NONE;
            case 1: return column < COLUMNS - 1 ? c + 1 : NONE;
            case 2: return row < ROWS - 1 ? c + COLUMNS : NONE;
            case 3: return column > 0 ? c - 1 : NONE;
            default: return NONE;
        }
    }

    /** RULES, and what follows from them alone. */
    private static final class Rules {
        private final int[] values = new int[RULES];

        Rules() {
            beginAnew();
        }

        void beginAnew() {
            System.arraycopy(RULE_FIRST, 0, values, 0, RULES);
        }

        void takeAll(Rules other) {
            System.arraycopy(other.values, 0, values, 0, RULES);
        }

        int value(int what) {
            return what >= 0 && what < RULES ? values[what] : 0;
        }

        void become(int what, int v) {
            if (what >= 0 && what < RULES) {
                values[what] = v;
            }
        }

        boolean floatsAt(int heat, boolean fromBelow) {
            return heat >= values[fromBelow ? UP : DOWN];
        }

        boolean teethSend(int size) {
            return size >= values[TEETH_FROM] && size <= values[TEETH_TO];
        }

        boolean hasChimney(int size) {
            return size >= values[CHIMNEY];
        }

        boolean losesFloatingAt(int tick) {
            int film = values[FILM];
            return film > 0 && tick % film == 0;
        }

        int lossFloating(int size) {
            return hasChimney(size) ? 2 : 1;
        }

        int lossTouching(int heat) {
            int hiss = values[HISS];
            return hiss > 0 ? 1 + heat / hiss : 1;
        }

        int lifeOf(int size, int heat, boolean fromBelow) {
            return lifeBy(size, heat, floatsAt(heat, fromBelow));
        }

        int lifeBy(int size, int heat, boolean floating) {
            return floating ? lifeFloating(size) : lifeTouching(size, heat);
        }

        private int lifeTouching(int size, int heat) {
            int loss = lossTouching(heat);
            return loss > 0 ? (size + loss - 1) / loss : 0;
        }

        /** A DROP that floats loses, so goes, only every film TICKS, the first time at TICK 0. */
        private int lifeFloating(int size) {
            int left = size, times = 0;
            do {
                left -= lossFloating(left);
                times++;
            } while (left > values[LEAP] && times < MOST_SIZE);
            return (times - 1) * values[FILM] + 1;
        }

        int longestHeat(int size, boolean fromBelow) {
            int best = 0;
            for (int heat = 1; heat <= MOST_HEAT; heat++) {
                if (lifeOf(size, heat, fromBelow) > lifeOf(size, best, fromBelow)) {
                    best = heat;
                }
            }
            return best;
        }

        int shortestLife(int size, boolean fromBelow) {
            int least = lifeOf(size, 1, fromBelow);
            for (int heat = 2; heat <= MOST_HEAT; heat++) {
                least = Math.min(least, lifeOf(size, heat, fromBelow));
            }
            return least;
        }

        int firstLonger(int size, boolean fromBelow) {
            for (int heat = 1; heat <= MOST_HEAT; heat++) {
                if (lifeOf(size, heat, fromBelow) > lifeOf(size, heat - 1, fromBelow)) {
                    return heat;
                }
            }
            return NONE;
        }
    }

    /** A DROP; when it is GONE it keeps what it had last. */
    private static final class Drop {
        int cell = 0, size = 0, way = 0, gone = 0, goneTick = NONE, joinedTo = NONE;

        void begin(int c, int s, int w) {
            cell = c;
            size = s;
            way = w;
            gone = 0;
            goneTick = NONE;
            joinedTo = NONE;
        }

        void takeAll(Drop other) {
            cell = other.cell;
            size = other.size;
            way = other.way;
            gone = other.gone;
            goneTick = other.goneTick;
            joinedTo = other.joinedTo;
        }
    }

    /** All that an IMAGE holds: THE PLATE, HEAT, DROPS, sums, the seed. */
    private static final class Scene {
        final int[] cells = new int[CELLS];
        final Drop[] drops = new Drop[DROPS];
        int many = 0, heat = 0, tick = 0, seed = 0;
        boolean floating = false;
        int steam = 0, fallen = 0, leapt = 0, poured = 0;

        Scene() {
            Arrays.fill(cells, PLAIN);
            for (int i = 0; i < DROPS; i++) {
                drops[i] = new Drop();
            }
        }

        void takeAll(Scene other) {
            System.arraycopy(other.cells, 0, cells, 0, CELLS);
            for (int i = 0; i < DROPS; i++) {
                drops[i].takeAll(other.drops[i]);
            }
            many = other.many;
            heat = other.heat;
            tick = other.tick;
            seed = other.seed;
            floating = other.floating;
            steam = other.steam;
            fallen = other.fallen;
            leapt = other.leapt;
            poured = other.poured;
        }

        /** The seed stays. */
        void beginAnew(int[] newCells) {
            System.arraycopy(newCells, 0, cells, 0, Math.min(CELLS, newCells.length));
            heat = 0;
            floating = false;
            clearDrops();
        }

        void beginAlone(Scene other, int c, int size, int way) {
            System.arraycopy(other.cells, 0, cells, 0, CELLS);
            heat = other.heat;
            floating = other.floating;
            clearDrops();
            addDrop(c, size, way);
        }

        void clearDrops() {
            many = 0;
            tick = 0;
            steam = 0;
            fallen = 0;
            leapt = 0;
            poured = 0;
        }

        int addDrop(int c, int size, int way) {
            if (many >= DROPS) {
                return FULL;
            }
            drops[many].begin(c, size, way);
            poured += size;
            many++;
            return many - 1;
        }

        int kindAt(int c) {
            return c >= 0 && c < CELLS ? cells[c] : WALL;
        }

        boolean isOpen(int c) {
            int kind = kindAt(c);
            return kind != WALL && kind != HOLE;
        }

        boolean isDrop(int d) {
            return d >= 0 && d < many;
        }

        int dropAt(int c) {
            for (int i = 0; i < many; i++) {
                if (drops[i].gone == 0 && drops[i].cell == c) {
                    return i;
                }
            }
            return NONE;
        }

        int howManyThere() {
            int there = 0;
            for (int i = 0; i < many; i++) {
                there += drops[i].gone == 0 ? 1 : 0;
            }
            return there;
        }

        int sizesThere() {
            int sum = 0;
            for (int i = 0; i < many; i++) {
                sum += drops[i].gone == 0 ? drops[i].size : 0;
            }
            return sum;
        }

        int howManyHoles() {
            int holes = 0;
            for (int c = 0; c < CELLS; c++) {
                holes += cells[c] == HOLE ? 1 : 0;
            }
            return holes;
        }

        boolean touches(Drop drop) {
            return !floating || kindAt(drop.cell) == COLD;
        }

        void passTick(Rules rules, int roll) {
            for (int i = 0; i < many; i++) {
                Drop drop = drops[i];
                if (drop.gone == 0) {
                    if (touches(drop)) {
                        loseSteam(drop, rules.lossTouching(heat));
                    } else {
                        floatOn(drop, rules, roll);
                    }
                }
            }
            tick++;
        }

        private void loseSteam(Drop drop, int loss) {
            int lost = Math.min(loss, drop.size);
            drop.size -= lost;
            steam += lost;
            if (drop.size == 0) {
                leave(drop, STEAM);
            }
        }

        private void leave(Drop drop, int how) {
            drop.gone = how;
            drop.goneTick = tick;
        }

        private void floatOn(Drop drop, Rules rules, int roll) {
            if (rules.losesFloatingAt(tick)) {
                loseSteam(drop, rules.lossFloating(drop.size));
            }
            if (drop.gone != 0) {
                return;
            }
            if (drop.size <= rules.value(LEAP)) {
                leapt += drop.size;
                leave(drop, LEAPT);
                return;
            }
            stepOn(drop, wayOf(drop, rules, roll));
            if (kindAt(drop.cell) == HOLE) {
                fallen += drop.size;
                leave(drop, FALLEN);
            } else {
                joinWhoIsThere(drop);
            }
        }

        private void joinWhoIsThere(Drop drop) {
            for (int i = 0; i < many; i++) {
                Drop other = drops[i];
                if (other != drop && other.gone == 0 && other.cell == drop.cell) {
                    other.size += drop.size;
                    drop.joinedTo = i;
                    leave(drop, JOINED);
                    return;
                }
            }
        }

        int wayOf(Drop drop, Rules rules, int roll) {
            int kind = kindAt(drop.cell);
            if (kind < PLAIN) {
                return rules.teethSend(drop.size) ? kind : drop.way;
            }
            return drop.size <= roll ? drawWay() : drop.way;
        }

        private int drawWay() {
            seed = seed * 1103515245 + 12345;
            return (seed >>> 16) & 3;
        }

        void stepOn(Drop drop, int way) {
            int next = nextCell(drop.cell, way);
            if (kindAt(next) == WALL) {
                drop.way = (way + 1) & 3;
            } else {
                drop.cell = next;
                drop.way = way;
            }
        }
    }

    private static final class Image {
        final Scene scene = new Scene();
        boolean there = false;
    }

    /** ALONE: its own scene, so that THE PLATE stays as it is whatever is tried. */
    private static final class Loner {
        private final Scene own = new Scene();
        private final int[] been = new int[CELLS];
        private final int[] worthTrying = new int[CELLS];
        private int firstCell = 0, firstSize = 0, firstWay = 0;
        int bestTicks = 0, bestCell = NONE, bestKind = NONE;

        void begin(Scene plate, int c, int size, int way) {
            own.beginAlone(plate, c, size, way);
            firstCell = c;
            firstSize = size;
            firstWay = way;
        }

        Drop runOn(Rules rules, int n) {
            for (int i = 0; i < n; i++) {
                own.passTick(rules, 0);
            }
            return own.drops[0];
        }

        /** Marks the CELLS where it has been. */
        int ticksTill(Rules rules, int goal, int most) {
            Drop drop = own.drops[0];
            for (int t = 0; t <= most; t++) {
                if (isCell(drop.cell)) {
                    been[drop.cell] = 1;
                }
                if (drop.cell == goal) {
                    return t;
                }
                if (drop.gone != 0) {
                    return NONE;
                }
                own.passTick(rules, 0);
            }
            return NONE;
        }

        /** CELLS where it does not come as it is can not help, so only the others are tried. */
        boolean findMend(Rules rules, int goal) {
            Arrays.fill(been, 0);
            int asItIs = ticksTill(rules, goal, MOST_ALONE);
            System.arraycopy(been, 0, worthTrying, 0, CELLS);
            bestTicks = asItIs == NONE ? MOST_ALONE + 1 : asItIs;
            bestCell = NONE;
            bestKind = NONE;
            for (int c = 0; c < CELLS; c++) {
                int kind = own.cells[c];
                boolean worth = worthTrying[c] != 0 && kind <= PLAIN;
                for (int v = 0; worth && v <= PLAIN; v++) {
                    own.cells[c] = v;
                    own.clearDrops();
                    own.addDrop(firstCell, firstSize, firstWay);
                    // As it is it is no sooner than as it is: that kind needs no leaving out.
                    int ticks = ticksTill(rules, goal, bestTicks - 1);
                    if (ticks != NONE) {
                        bestTicks = ticks;
                        bestCell = c;
                        bestKind = v;
                    }
                }
                own.cells[c] = kind;
            }
            return bestCell != NONE;
        }
    }

    /** PATH: where it goes hangs on CELL and WAY alone, so that it goes round when both come again. */
    private static final class Path {
        private final Drop walker = new Drop();
        private final int[] seenAt = new int[CELLS * WAYS];
        int ticksBefore = 0, ticksRound = 0;

        /** The hole that it falls into; NONE: it goes round. */
        int follow(Scene plate, Rules rules, int c, int size, int way) {
            Arrays.fill(seenAt, NONE);
            walker.begin(c, size, way);
            for (int t = 0; t <= CELLS * WAYS; t++) {
                int state = walker.cell * WAYS + walker.way;
                if (!within(state, 0, CELLS * WAYS - 1)) {
                    return NONE;
                }
                if (seenAt[state] != NONE) {
                    ticksBefore = seenAt[state];
                    ticksRound = t - ticksBefore;
                    return NONE;
                }
                seenAt[state] = t;
                plate.stepOn(walker, plate.wayOf(walker, rules, 0));
                if (plate.kindAt(walker.cell) == HOLE) {
                    return walker.cell;
                }
            }
            return NONE;
        }

        int cellsRound() {
            int many = 0;
            for (int c = 0; c < CELLS; c++) {
                boolean inRing = false;
                for (int way = 0; way < WAYS; way++) {
                    inRing = inRing || seenAt[c * WAYS + way] >= ticksBefore;
                }
                many += inRing ? 1 : 0;
            }
            return many;
        }
    }

    /** ROLLING: how many of all 4 to the power of TICKS equally likely courses are in each CELL. */
    private static final class Roller {
        private final long[] courses = new long[CELLS];
        private final long[] coursesNext = new long[CELLS];

        /** Of 4 to the power of n. */
        long beenIn(Scene plate, int c, int goal, int n) {
            if (!isCell(c) || !isCell(goal)) {
                return 0;
            }
            Arrays.fill(courses, 0L);
            courses[c] = 1;
            long been = 0;
            for (int i = 0; i < n; i++) {
                been = 4 * (been + takeOut(goal));
                rollAll(plate);
            }
            return been + takeOut(goal);
        }

        private long takeOut(int goal) {
            long here = courses[goal];
            courses[goal] = 0;
            return here;
        }

        private void rollAll(Scene plate) {
            Arrays.fill(coursesNext, 0L);
            for (int c = 0; c < CELLS; c++) {
                if (courses[c] != 0) {
                    for (int way = 0; way < WAYS; way++) {
                        int to = rolledTo(plate, c, way);
                        coursesNext[isCell(to) ? to : c] += courses[c];
                    }
                }
            }
            System.arraycopy(coursesNext, 0, courses, 0, CELLS);
        }

        private static int rolledTo(Scene plate, int c, int way) {
            int kind = plate.kindAt(c);
            if (kind == HOLE) {
                return c;
            }
            int next = nextCell(c, isWay(kind) ? kind : way);
            return plate.kindAt(next) == WALL ? c : next;
        }
    }

    private static final class ToldLives {
        private final int[] sizes = new int[TOLD_LIVES];
        private final int[] heats = new int[TOLD_LIVES];
        private final int[] lives = new int[TOLD_LIVES];
        private final boolean[] fromBelow = new boolean[TOLD_LIVES];
        int many = 0;

        boolean tell(int size, int heat, boolean up, int life) {
            if (many >= TOLD_LIVES) {
                return false;
            }
            sizes[many] = size;
            heats[many] = heat;
            fromBelow[many] = up;
            lives[many] = life;
            many++;
            return true;
        }

        /** Whether told LIFE i is so, if THE PLATE floated from up on. */
        boolean isSo(int i, Rules rules, int up) {
            if (i < 0 || i >= many) {
                return false;
            }
            boolean floating = heats[i] >= (fromBelow[i] ? up : rules.value(DOWN));
            return rules.lifeBy(sizes[i], heats[i], floating) == lives[i];
        }

        boolean allSo(Rules rules, int up) {
            for (int i = 0; i < many; i++) {
                if (!isSo(i, rules, up)) {
                    return false;
                }
            }
            return true;
        }
    }

    /** One row serves all lanes: what is written is cut to the lane's width. */
    private static final class Sheet {
        private final int[] row = new int[SHEET_CELLS];
        int lane = NOTHING, length = 0;

        void becomeNew(int newLane, int n) {
            Arrays.fill(row, 0);
            lane = newLane;
            length = n;
        }

        int faultAt(int i) {
            if (lane == NOTHING) {
                return FAULT_NULL;
            }
            return i < 0 || i >= length ? FAULT_INDEX : 0;
        }

        /** The FAULT in the three CELLS of DROP i, from CELL f on. Nothing may be taken as of any lane: only its CELLS can not be read. */
        int faultOfDrop(int asLane, int f, int i) {
            if (lane != NOTHING && lane != asLane) {
                return FAULT_CAST;
            }
            int first = faultAt(f);
            return first != 0 ? first : faultAt(f + 3 * i + 2);
        }

        void write(int i, int v) {
            if (faultAt(i) == 0) {
                row[i] = lane == 0 ? (byte) v : lane == 1 ? (short) v : v;
            }
        }

        int valueAt(int i) {
            return faultAt(i) == 0 ? row[i] : 0;
        }
    }

    /** Has THE TAPE, and reads it into RULES and CELLS of its own, so that those told before stay if there is a FAULT. */
    private static final class TextReader {
        private static final int END = 0, NAME = 1, NUMBER = 2, SEMICOLON = 3;
        private static final int BLANK = 32;
        private static final String LETTERS = "neswpxoc";

        final byte[] tape = new byte[TAPE_BYTES];
        final Rules rules = new Rules();
        final int[] cells = new int[CELLS];
        private final boolean[] ruleTold = new boolean[RULES];
        private int length = 0, next = 0, rows = 0;
        private int kind = END, start = 0;
        int lines = 0, fault = 0, place = 0;

        void readAll(int tapeLength) {
            beginAnew(tapeLength);
            for (int i = 0; i <= length && fault == 0; i++) {
                readToken();
                if (fault != 0 || kind == END) {
                    break;
                }
                if (isName("row")) {
                    readRow();
                } else {
                    readRule(ruleNamed());
                }
                take(SEMICOLON);
                lines++;
            }
            if (rules.value(DOWN) > rules.value(UP)) {
                refuse(6, length);
            }
        }

        private void beginAnew(int tapeLength) {
            length = Math.min(tapeLength, TAPE_BYTES);
            next = 0;
            rows = 0;
            lines = 0;
            fault = 0;
            place = 0;
            rules.beginAnew();
            Arrays.fill(cells, PLAIN);
            for (int i = 0; i < RULES; i++) {
                ruleTold[i] = false;
            }
        }

        /** Only the first FAULT met is told. */
        private void refuse(int newFault, int newPlace) {
            if (fault == 0) {
                fault = newFault;
                place = newPlace;
            }
        }

        private void readRow() {
            if (rows >= ROWS) {
                refuse(5, start);
            }
            take(NAME);
            if (fault != 0) {
                return;
            }
            if (next - start != COLUMNS) {
                refuse(3, start);
                return;
            }
            for (int column = 0; column < COLUMNS; column++) {
                int letter = LETTERS.indexOf((char) byteAt(start + column));
                if (letter < 0) {
                    refuse(3, start);
                    return;
                }
                cells[rows * COLUMNS + column] = letter;
            }
            rows++;
        }

        private void readRule(int rule) {
            if (rule < 0 || rule >= RULES) {
                refuse(2, start);
                return;
            }
            if (ruleTold[rule]) {
                refuse(4, start);
                return;
            }
            ruleTold[rule] = true;
            readValue(rule, RULE_LEAST[rule]);
            if (rule == TEETH_FROM) {
                readValue(TEETH_TO, rules.value(TEETH_FROM));
            }
        }

        private void readValue(int rule, int least) {
            take(NUMBER);
            if (fault != 0) {
                return;
            }
            int v = 0;
            for (int i = start; i < next; i++) {
                v = 10 * v + byteAt(i) - '0';
            }
            if (v >= least && v <= RULE_MOST[rule]) {
                rules.become(rule, v);
            } else {
                refuse(3, start);
            }
        }

        private void take(int wanted) {
            if (fault != 0) {
                return;
            }
            readToken();
            if (kind != wanted) {
                refuse(2, start);
            }
        }

        private void readToken() {
            while (next < length && byteAt(next) == BLANK) {
                next++;
            }
            start = next;
            kind = kindOf(byteAt(start));
            if (start >= length) {
                return;
            }
            next++;
            while (next < length && kind != SEMICOLON && kindOf(byteAt(next)) == kind) {
                next++;
            }
            if (kind == END || kind == NUMBER && next - start > 2) {
                refuse(1, start);
            }
        }

        /** Of a TOKEN that has such a byte; END: no TOKEN has it. */
        private static int kindOf(int b) {
            if (b >= 'a' && b <= 'z') {
                return NAME;
            }
            if (b >= '0' && b <= '9') {
                return NUMBER;
            }
            return b == ';' ? SEMICOLON : END;
        }

        private int byteAt(int i) {
            return i >= 0 && i < length && i < tape.length ? tape[i] & 255 : 0;
        }

        private int ruleNamed() {
            for (int rule = 0; rule < RULES; rule++) {
                if (isName(nameOf(rule))) {
                    return rule;
                }
            }
            return NONE;
        }

        /** The second of teeth has no NAME of its own. */
        private static String nameOf(int rule) {
            switch (rule) {
                case UP: return "up";
                case DOWN: return "down";
                case TEETH_FROM: return "teeth";
                case LEAP: return "leap";
                case CHIMNEY: return "chimney";
                case HISS: return "hiss";
                case FILM: return "film";
                case ROLL: return "roll";
                default: return "";
            }
        }

        private boolean isName(String name) {
            if (kind != NAME || next - start != name.length()) {
                return false;
            }
            for (int i = 0; i < name.length(); i++) {
                if (byteAt(start + i) != name.charAt(i)) {
                    return false;
                }
            }
            return true;
        }
    }
}
