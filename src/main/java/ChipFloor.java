/** Blocks on a chip, laid by two rows of names; the document's promises are named by number at each call. */
public final class ChipFloor {
    public static final int BAD = -1000000001, NO = -1000000002, FULL = -1000000003, SPENT = -1000000004, NONE = -1000000005, NOTHING = -1000000011, KIND = -1000000012, INDEX = -1000000013, SIZE = -1000000014;

    private static final int BLOCK = 0, HARD = 1, SOFT = 2, FAMILY = 3, FIXED = 4, CUT = 5, KINDS = 6;
    private static final int[] KIND_ABOVE = {-1, 0, 0, 2, 1, 0};

    private static final int POSTS = 0, AREA = 1, LENGTH = 2, OUT = 3, EDGE = 4, RULES = 5;
    private static final int[] RULE_LEAST = {0, 0, 0, 0, 1};
    private static final int[] RULE_MOST = {9, 9, 9, 99, 240};

    private static final int IN_ONE = 0, IN_OTHER = 1, IN_BOTH = 2, NEXT_SHAPE = 3, NEXT_LAYER = 4, MOVES = 5;

    private static final int LEAST_INT = -2147483648, MOST_INT = 2147483647;

    private static final int MOST_BLOCKS = 8, MOST_NETS = 10, MOST_UNDONE = 20, MOST_SEARCHED = 4;
    private static final int[] ORDERS = {1, 1, 2, 6, 24};

    private static final int MOST_BYTES = 96, MOST_WISHES = 10, OF_ALL = 8, MOST_OPEN = 8, MOST_DIGITS = 4;
    private static final String NAMES_OF_ALL = "whlu";
    private static final String NAMES_OF_BLOCK = "xywhptg";

    private static final int MOST_KEPT = 8, MOST_WAITING = 60;
    private static final int SHEETS = 4, MOST_PLACES = 24, MISSING = -1, SHORTS = 0, LONGS = 2;
    private static final int SLOTS = 5, HOLDS_NOTHING = 0, HOLDS_BLOCK = 1, HOLDS_SHEET = 2, HOLDS_NUMBER = 3;

    private final State now;
    private final State image;
    private boolean imageKept;
    private final Search search;
    private final Trail trail;
    private final Reader reader;
    private final int[] stack;
    private final Sheet[] sheets;
    private final Slot[] slots;
    private final int[] waiting;
    private int waits;

    /** Promise 1. All rows are made here, so that no call makes an object. */
    public ChipFloor() {
        now = new State();
        image = new State();
        search = new Search();
        trail = new Trail();
        reader = new Reader();
        stack = new int[MOST_BYTES];
        sheets = new Sheet[SHEETS];
        for (int i = 0; i < SHEETS; i++) {
            sheets[i] = new Sheet();
        }
        slots = new Slot[SLOTS];
        for (int i = 0; i < SLOTS; i++) {
            slots[i] = new Slot();
        }
        waiting = new int[MOST_WAITING];
    }

    // ---- blocks

    /** Promise 2. */
    public int block(int kind, int a, int b) {
        if (!isKind(kind) || !within(a, 1, 30) || !within(b, 1, 30)) {
            return BAD;
        }
        if (now.floor.count >= MOST_BLOCKS) {
            return FULL;
        }
        trail.forget();
        return now.floor.addBlock(kind, a, b);
    }

    /** Promise 3. */
    public int told(int block, int what) {
        Floor floor = now.floor;
        if (!floor.has(block) || !within(what, 0, 14)) {
            return BAD;
        }
        Block told = floor.blocks[block];
        switch (what) {
            case 10: return told.x;
            case 11: return told.y;
            case 13: return floor.heatOf(block);
            case 14: return floor.growsOf(block);
            default: return told.ofItself(what);
        }
    }

    /** Promise 4. */
    public int as(int block, int kind) {
        if (!now.floor.has(block) || !isKind(kind)) {
            return BAD;
        }
        Block one = now.floor.blocks[block];
        return one.isUnder(kind) ? one.wide : KIND;
    }

    /** Promise 5. */
    public int power(int block, int v) {
        if (!now.floor.has(block) || !isPower(v)) {
            return BAD;
        }
        int was = now.floor.blocks[block].power;
        now.floor.blocks[block].power = v;
        return was;
    }

    /** Promise 6. */
    public int rule(int what, int v) {
        if (!within(what, 0, RULES - 1) || !within(v, RULE_LEAST[what], RULE_MOST[what])) {
            return BAD;
        }
        int was = now.floor.rules[what];
        now.floor.rules[what] = v;
        return was;
    }

    /** Promise 7. */
    public int net(int set, int weight) {
        if (!within(set, 0, 255) || Integer.bitCount(set) < 2 || !within(weight, 1, 9)) {
            return BAD;
        }
        if (now.floor.nets >= MOST_NETS) {
            return FULL;
        }
        return now.floor.addNet(set, weight);
    }

    /** Promise 8. */
    public int wire(int net, int what) {
        Floor floor = now.floor;
        if (!within(net, 0, floor.nets - 1) || !within(what, 0, 2)) {
            return BAD;
        }
        switch (what) {
            case 0: return floor.wireOf(net);
            case 1: return floor.guessOf(net);
            default: return floor.wireOf(net) - floor.guessOf(net);
        }
    }

    // ---- layings

    /** Promise 9. */
    public int at(int row, int place) {
        if (!within(row, 0, 1) || !now.floor.has(place)) {
            return BAD;
        }
        return row == 0 ? now.floor.one[place] : now.floor.other[place];
    }

    /** Promise 10. */
    public int whole(int what) {
        Floor floor = now.floor;
        switch (what) {
            case 0: return floor.wideAll;
            case 1: return floor.highAll;
            case 2: return floor.waste();
            case 3: return floor.wires();
            case 4: return floor.price();
            default: return BAD;
        }
    }

    /** Promise 11. */
    public int stands(int i, int j) {
        Floor floor = now.floor;
        if (!floor.has(i) || !floor.has(j) || i == j) {
            return BAD;
        }
        if (floor.blocks[i].layer != floor.blocks[j].layer) {
            return NONE;
        }
        if (floor.inOther[i] < floor.inOther[j]) {
            return floor.inOne[i] < floor.inOne[j] ? 0 : 1;
        }
        return floor.inOne[j] < floor.inOne[i] ? 2 : 3;
    }

    /** Promise 12. */
    public int move(int move, int p, int q) {
        Floor floor = now.floor;
        if (!within(move, 0, MOVES - 1) || !floor.has(p)) {
            return BAD;
        }
        if (move <= IN_BOTH && !floor.has(q)) {
            return BAD;
        }
        if (!floor.canDo(move, p)) {
            return NO;
        }
        floor.doMove(move, p, q);
        trail.note(move, p, q);
        return floor.price();
    }

    /** Promise 13. */
    public int undo() {
        if (trail.size == 0) {
            return NO;
        }
        trail.takeBack(now.floor);
        return trail.size;
    }

    /** Promise 14. */
    public int seed(int v) {
        int was = now.floor.z;
        now.floor.z = v;
        return was;
    }

    /** Promise 15. */
    public int walk(int n, int heat) {
        if (!within(n, 1, 200) || !within(heat, 0, 9999)) {
            return BAD;
        }
        if (now.floor.count == 0) {
            return NO;
        }
        trail.forget();
        int price = now.floor.price();
        for (int i = 0; i < n; i++) {
            price = now.floor.stepFrom(price, heat);
        }
        return price;
    }

    /** Promise 16. */
    public int bound(int what) {
        Floor floor = now.floor;
        switch (what) {
            case 0: return Math.max(floor.roomsOn(0), floor.roomsOn(1));
            case 1: return floor.greatestLeastWide();
            case 2: return floor.greatestLeastHigh();
            case 3: return floor.count > MOST_SEARCHED ? SPENT : search.leastPrice(floor);
            default: return BAD;
        }
    }

    /** Promise 17. */
    public int best(int row, int place) {
        Floor floor = now.floor;
        if (!within(row, 0, 1)) {
            return BAD;
        }
        if (floor.count > MOST_SEARCHED) {
            return SPENT;
        }
        if (!floor.has(place)) {
            return BAD;
        }
        search.leastPrice(floor);
        return row == 0 ? search.bestOne[place] : search.bestOther[place];
    }

    /** Promise 18. */
    public int touch(int i, int j) {
        Floor floor = now.floor;
        if (!floor.has(i) || !floor.has(j) || i == j) {
            return BAD;
        }
        return floor.blocks[i].touches(floor.blocks[j]) ? 1 : 0;
    }

    /** Promise 19. */
    public int hottest() {
        return now.floor.count == 0 ? NONE : now.floor.hottestBlock();
    }

    // ---- wishes

    /** Promise 20. */
    public int feed(int a, int b, int c) {
        if (reader.length + 12 > MOST_BYTES) {
            return FULL;
        }
        reader.addFour(a);
        reader.addFour(b);
        reader.addFour(c);
        return reader.length;
    }

    /** Promise 21. */
    public int trim(int n) {
        if (!within(n, 0, reader.length)) {
            return BAD;
        }
        reader.length = n;
        return n;
    }

    /** Promise 22. */
    public int wish() {
        boolean read = reader.readText();
        reader.length = 0;
        if (!read) {
            return -100 - reader.start;
        }
        return now.wishCount >= MOST_WISHES ? FULL : now.addWish(reader.draft);
    }

    /** Promise 23. */
    public int of(int wish, int what) {
        if (!within(wish, 0, now.wishCount - 1) || !within(what, 0, 3)) {
            return BAD;
        }
        Wish asked = now.wishes[wish];
        switch (what) {
            case 0: return asked.block;
            case 1: return asked.operands;
            case 2: return asked.valueOn(now.floor, stack) != 0 ? 1 : 0;
            default: return asked.valueOn(now.floor, stack);
        }
    }

    /** Promise 24. */
    public int missed() {
        for (int i = 0; i < now.wishCount; i++) {
            if (now.wishes[i].valueOn(now.floor, stack) == 0) {
                return i;
            }
        }
        return NONE;
    }

    // ---- layings that are kept

    /** Promise 25. */
    public int stow() {
        return now.kept.count >= MOST_KEPT ? FULL : now.kept.add(now.floor);
    }

    /** Promise 26. */
    public int stowed(int laying, int what) {
        Kept kept = now.kept;
        if (!within(laying, 0, kept.count - 1)) {
            return BAD;
        }
        switch (what) {
            case 0: return kept.areas[laying];
            case 1: return kept.wires[laying];
            case 2: return kept.heats[laying];
            case 3: return kept.isBeaten(laying) ? 1 : 0;
            default: return BAD;
        }
    }

    /** Promise 27. */
    public int front() {
        int bits = 0;
        for (int i = 0; i < now.kept.count; i++) {
            if (!now.kept.isBeaten(i)) {
                bits |= 1 << i;
            }
        }
        return bits;
    }

    // ---- sheets, slots

    /** Promise 28. */
    public int sheet(int sheet, int sort, int n) {
        if (!isSheet(sheet) || !within(sort, MISSING, LONGS)) {
            return BAD;
        }
        if (sort == MISSING) {
            sheets[sheet].become(MISSING, 0);
            return 0;
        }
        if (n > MOST_PLACES) {
            return BAD;
        }
        if (n < 0) {
            return SIZE;
        }
        sheets[sheet].become(sort, n);
        return n;
    }

    /** Promise 29. */
    public int mark(int sheet, int place, int v) {
        if (!isSheet(sheet)) {
            return BAD;
        }
        Sheet row = sheets[sheet];
        if (row.sort == MISSING) {
            return NOTHING;
        }
        if (!row.hasRun(place, 1)) {
            return INDEX;
        }
        return row.put(place, v);
    }

    /** Promise 30. */
    public int powers(int sheet, int place) {
        if (!isSheet(sheet)) {
            return BAD;
        }
        Sheet row = sheets[sheet];
        int many = now.floor.count;
        if (row.sort == MISSING) {
            return NOTHING;
        }
        if (!row.hasRun(place, many)) {
            return INDEX;
        }
        for (int i = 0; i < many; i++) {
            if (!isPower(row.numbers[place + i])) {
                return KIND;
            }
        }
        return takePowers(row, place);
    }

    /** Promise 31. */
    public int copy(int from, int place, int to, int at, int many) {
        if (!isSheet(from) || !isSheet(to)) {
            return BAD;
        }
        Sheet source = sheets[from];
        Sheet target = sheets[to];
        if (source.sort == MISSING || target.sort == MISSING) {
            return NOTHING;
        }
        if (source.sort != target.sort) {
            return KIND;
        }
        if (!source.hasRun(place, many) || !target.hasRun(at, many)) {
            return INDEX;
        }
        System.arraycopy(source.numbers, place, target.numbers, at, many);
        return many;
    }

    /** Promise 32. */
    public int lay(int slot, int thing, int k) {
        if (!isSlot(slot) || !within(thing, HOLDS_NOTHING, HOLDS_NUMBER)) {
            return BAD;
        }
        if (thing == HOLDS_BLOCK && !now.floor.has(k)) {
            return BAD;
        }
        if (thing == HOLDS_SHEET && !isSheet(k)) {
            return BAD;
        }
        if (thing == HOLDS_SHEET && sheets[k].sort == MISSING) {
            return NOTHING;
        }
        Slot place = slots[slot];
        int held = place.holds;
        place.holds = thing;
        if (thing == HOLDS_BLOCK) {
            place.block.takeFrom(now.floor.blocks[k]);
        } else if (thing == HOLDS_SHEET) {
            place.sheet.takeFrom(sheets[k]);
        } else {
            place.number = k;
        }
        return held;
    }

    /** Promise 33. */
    public int ask(int slot, int kind) {
        if (!isSlot(slot) || !isKind(kind)) {
            return BAD;
        }
        int finding = slots[slot].findingFor(HOLDS_BLOCK);
        if (finding != 0) {
            return finding;
        }
        Block held = slots[slot].block;
        return held.isUnder(kind) ? held.worth() : KIND;
    }

    /** Promise 34. */
    public int item(int slot, int place) {
        if (!isSlot(slot)) {
            return BAD;
        }
        int finding = slots[slot].findingFor(HOLDS_SHEET);
        if (finding != 0) {
            return finding;
        }
        Sheet held = slots[slot].sheet;
        return held.hasRun(place, 1) ? held.numbers[place] : INDEX;
    }

    /** Promise 35. */
    public int rest(int slot, int n) {
        if (!isSlot(slot)) {
            return BAD;
        }
        int finding = slots[slot].findingFor(HOLDS_NUMBER);
        if (finding != 0) {
            return finding;
        }
        return n == 0 ? NO : slots[slot].number % n;
    }

    // ---- rows, images

    /** Promise 36. */
    public int tell(int v) {
        if (waits >= MOST_WAITING) {
            return FULL;
        }
        waiting[waits] = v;
        waits++;
        return waits;
    }

    /** Promise 37. */
    public int check(int n) {
        int told = waits;
        waits = 0;
        if (!within(n, 1, MOST_WAITING)) {
            return BAD;
        }
        if (!imageKept || image.floor.count == 0) {
            return NO;
        }
        Floor trial = search.trial;
        trial.takeFrom(image.floor);
        int price = trial.price();
        for (int i = 0; i < n; i++) {
            price = trial.stepFrom(price, 0);
            if (i >= told || waiting[i] != price) {
                return 1 + i;
            }
        }
        return told > n ? 1 + n : 0;
    }

    /** Promise 38. */
    public int keep() {
        image.takeFrom(now);
        imageKept = true;
        return now.floor.count;
    }

    /** Promise 39. */
    public int back() {
        if (!imageKept) {
            return NO;
        }
        now.takeFrom(image);
        trail.forget();
        return now.floor.count;
    }

    /** Promise 40. */
    public int count(int what) {
        switch (what) {
            case 0: return now.floor.count;
            case 1: return now.floor.nets;
            case 2: return now.wishCount;
            case 3: return metWishes();
            case 4: return now.kept.count;
            case 5: return trail.size;
            case 6: return now.floor.blocksAbove();
            case 7: return waits;
            case 8: return reader.length;
            case 9: return now.floor.z;
            default: return BAD;
        }
    }

    private int metWishes() {
        int met = 0;
        for (int i = 0; i < now.wishCount; i++) {
            if (now.wishes[i].valueOn(now.floor, stack) != 0) {
                met++;
            }
        }
        return met;
    }

    private int takePowers(Sheet row, int place) {
        int changed = 0;
        for (int i = 0; i < now.floor.count; i++) {
            int power = row.numbers[place + i];
            if (now.floor.blocks[i].power != power) {
                now.floor.blocks[i].power = power;
                changed++;
            }
        }
        return changed;
    }

    private static void swap(int[] row, int p, int q) {
        int held = row[p];
        row[p] = row[q];
        row[q] = held;
    }

    private static boolean within(int v, int least, int most) {
        return v >= least && v <= most;
    }

    private static boolean isKind(int kind) {
        return within(kind, 0, KINDS - 1);
    }

    private static boolean isPower(int v) {
        return within(v, 0, 99);
    }

    private static boolean isSheet(int sheet) {
        return within(sheet, 0, SHEETS - 1);
    }

    private static boolean isSlot(int slot) {
        return within(slot, 0, SLOTS - 1);
    }

    /** One block: what it is, and where the laying has put it. */
    private static final class Block {
        int kind = BLOCK;
        // never 0, since the bent shapes divide by them
        int a = 1;
        int b = 1;
        int power;
        int layer;
        int shape;
        int wide = 1;
        int high = 1;
        int x;
        int y;

        void become(int newKind, int newA, int newB) {
            kind = newKind;
            a = newA;
            b = newB;
            power = 0;
            layer = 0;
            x = 0;
            y = 0;
            drawAs(0);
        }

        void takeFrom(Block from) {
            kind = from.kind;
            a = from.a;
            b = from.b;
            power = from.power;
            layer = from.layer;
            shape = from.shape;
            wide = from.wide;
            high = from.high;
            x = from.x;
            y = from.y;
        }

        void drawAs(int newShape) {
            shape = newShape;
            wide = wideIn(newShape);
            high = highIn(newShape);
        }

        void drawNext() {
            drawAs(shape + 1 < shapes() ? shape + 1 : 0);
        }

        void drawPrevious() {
            drawAs(shape > 0 ? shape - 1 : shapes() - 1);
        }

        boolean isUnder(int wanted) {
            int above = kind;
            for (int i = 0; i < KINDS && above >= 0 && above < KINDS; i++) {
                if (above == wanted) {
                    return true;
                }
                above = KIND_ABOVE[above];
            }
            return false;
        }

        int shapes() {
            switch (kind) {
                case HARD: return 2;
                case SOFT: return 6;
                case FAMILY: return 5;
                case CUT: return b > 1 ? 3 : 2;
                default: return 1;
            }
        }

        int wideIn(int s) {
            switch (kind) {
                case HARD: return s == 1 ? b : a;
                case SOFT: return a + s;
                case FAMILY: return a + s;
                case CUT: return s == 0 ? a : s == 1 ? b : a + 1;
                default: return a;
            }
        }

        int highIn(int s) {
            switch (kind) {
                case HARD: return s == 1 ? a : b;
                case SOFT: return bentHigh(s);
                case FAMILY: return s >= 3 ? bentHigh(s) + 1 : bentHigh(s);
                case CUT: return s == 0 ? b : s == 1 ? a : b - 1;
                default: return b;
            }
        }

        private int bentHigh(int s) {
            int across = a + s;
            return across <= 0 ? b : (a * b + across - 1) / across;
        }

        int room() {
            switch (kind) {
                case SOFT: return a * b;
                case FAMILY: return a * b + 1;
                case CUT: return wide * high - 1;
                default: return wide * high;
            }
        }

        int worth() {
            switch (kind) {
                case HARD: return room() + power;
                case FIXED: return 2 * (room() + power);
                case SOFT: return room() - shape;
                case FAMILY: return room() - shape;
                default: return room();
            }
        }

        int leastWide() {
            int least = wideIn(0);
            for (int s = 1; s < shapes(); s++) {
                least = Math.min(least, wideIn(s));
            }
            return least;
        }

        int leastHigh() {
            int least = highIn(0);
            for (int s = 1; s < shapes(); s++) {
                least = Math.min(least, highIn(s));
            }
            return least;
        }

        /** What is told of it without the others. */
        int ofItself(int what) {
            switch (what) {
                case 0: return kind;
                case 1: return a;
                case 2: return b;
                case 3: return power;
                case 4: return layer;
                case 5: return shape;
                case 6: return wide;
                case 7: return high;
                case 8: return room();
                case 9: return worth();
                default: return shapes();
            }
        }

        /** How far both reach over one another in x; 0 if they end where the other begins, less if they are apart. */
        private int sharedAcross(Block with) {
            return Math.min(x + wide, with.x + with.wide) - Math.max(x, with.x);
        }

        private int sharedUp(Block with) {
            return Math.min(y + high, with.y + with.high) - Math.max(y, with.y);
        }

        boolean touches(Block with) {
            if (layer != with.layer) {
                return false;
            }
            int across = sharedAcross(with);
            int up = sharedUp(with);
            return across == 0 && up >= 1 || up == 0 && across >= 1;
        }

        boolean liesOver(Block with) {
            return layer != with.layer && sharedAcross(with) >= 1 && sharedUp(with) >= 1;
        }
    }

    /** All blocks with their two rows, the nets, the rules and z; always settled when a call begins. */
    private static final class Floor {
        final Block[] blocks = new Block[MOST_BLOCKS];
        int count;
        final int[] one = new int[MOST_BLOCKS];
        final int[] other = new int[MOST_BLOCKS];
        final int[] inOne = new int[MOST_BLOCKS];
        final int[] inOther = new int[MOST_BLOCKS];
        final int[] reach = new int[MOST_BLOCKS];
        final int[] rules = new int[RULES];
        final int[] netSets = new int[MOST_NETS];
        final int[] netWeights = new int[MOST_NETS];
        int nets;
        int z = 1;
        int wideAll;
        int highAll;

        Floor() {
            for (int i = 0; i < MOST_BLOCKS; i++) {
                blocks[i] = new Block();
            }
            rules[POSTS] = 1;
            rules[AREA] = 1;
            rules[LENGTH] = 1;
            rules[OUT] = 9;
            rules[EDGE] = 60;
        }

        void takeFrom(Floor from) {
            count = from.count;
            for (int i = 0; i < count; i++) {
                blocks[i].takeFrom(from.blocks[i]);
            }
            System.arraycopy(from.one, 0, one, 0, MOST_BLOCKS);
            System.arraycopy(from.other, 0, other, 0, MOST_BLOCKS);
            System.arraycopy(from.rules, 0, rules, 0, RULES);
            System.arraycopy(from.netSets, 0, netSets, 0, MOST_NETS);
            System.arraycopy(from.netWeights, 0, netWeights, 0, MOST_NETS);
            nets = from.nets;
            z = from.z;
            settle();
        }

        /** Whether there is a block of this number; the places of a row are as many. */
        boolean has(int block) {
            return block >= 0 && block < count;
        }

        int addBlock(int kind, int a, int b) {
            int number = count;
            blocks[number].become(kind, a, b);
            one[number] = number;
            other[number] = number;
            count++;
            settle();
            return number;
        }

        int addNet(int set, int weight) {
            netSets[nets] = set;
            netWeights[nets] = weight;
            nets++;
            return nets - 1;
        }

        /** Gives every block its place. Who is left of or below a block is ahead of it in THE OTHER, so one pass along that row is enough. */
        void settle() {
            wideAll = 0;
            highAll = 0;
            for (int i = 0; i < count; i++) {
                inOne[one[i]] = i;
                inOther[other[i]] = i;
            }
            for (int k = 0; k < count; k++) {
                seat(k);
            }
        }

        private void seat(int k) {
            Block late = blocks[other[k]];
            int ahead = inOne[other[k]];
            int x = 0;
            int y = 0;
            for (int i = 0; i < k; i++) {
                Block early = blocks[other[i]];
                if (early.layer == late.layer) {
                    if (inOne[other[i]] < ahead) {
                        x = Math.max(x, early.x + early.wide);
                    } else {
                        y = Math.max(y, early.y + early.high);
                    }
                }
            }
            late.x = x;
            late.y = y;
            wideAll = Math.max(wideAll, x + late.wide);
            highAll = Math.max(highAll, y + late.high);
        }

        int waste() {
            int sheetsOfRoom = blocksAbove() > 0 ? 2 : 1;
            int used = 0;
            for (int i = 0; i < count; i++) {
                used += blocks[i].wide * blocks[i].high;
            }
            return wideAll * highAll * sheetsOfRoom - used;
        }

        int blocksAbove() {
            int above = 0;
            for (int i = 0; i < count; i++) {
                above += blocks[i].layer;
            }
            return above;
        }

        int wireOf(int net) {
            int set = netSets[net];
            int there = 0;
            int layers = 0;
            int leastX = MOST_INT;
            int mostX = LEAST_INT;
            int leastY = MOST_INT;
            int mostY = LEAST_INT;
            for (int i = 0; i < count; i++) {
                if ((set >> i & 1) == 1) {
                    Block block = blocks[i];
                    int middleX = 2 * block.x + block.wide;
                    int middleY = 2 * block.y + block.high;
                    leastX = Math.min(leastX, middleX);
                    mostX = Math.max(mostX, middleX);
                    leastY = Math.min(leastY, middleY);
                    mostY = Math.max(mostY, middleY);
                    layers |= 1 << block.layer;
                    there++;
                }
            }
            if (there < 2) {
                return 0;
            }
            int posts = layers == 3 ? 2 * rules[POSTS] : 0;
            return (mostX - leastX + mostY - leastY + posts) * netWeights[net];
        }

        int wires() {
            int sum = 0;
            for (int i = 0; i < nets; i++) {
                sum += wireOf(i);
            }
            return sum;
        }

        int guessOf(int net) {
            int rooms = 0;
            for (int i = 0; i < count; i++) {
                if ((netSets[net] >> i & 1) == 1) {
                    rooms += blocks[i].room();
                }
            }
            return netWeights[net] * 2 * wholeRoot(rooms);
        }

        /** Eight blocks have rooms of less than 10000 together, so the root is below 100. */
        private static int wholeRoot(int v) {
            int root = 0;
            for (int r = 1; r <= 100 && r * r <= v; r++) {
                root = r;
            }
            return root;
        }

        int price() {
            int out = Math.max(0, wideAll - rules[EDGE]) + Math.max(0, highAll - rules[EDGE]);
            return wideAll * highAll * rules[AREA] + wires() * rules[LENGTH] + out * rules[OUT];
        }

        boolean canDo(int move, int p) {
            return move != NEXT_LAYER || blocks[p].kind != FIXED;
        }

        void doMove(int move, int p, int q) {
            switch (move) {
                case IN_ONE:
                    swap(one, p, q);
                    break;
                case IN_OTHER:
                    swap(other, p, q);
                    break;
                case IN_BOTH:
                    swap(one, inOne[p], inOne[q]);
                    swap(other, inOther[p], inOther[q]);
                    break;
                case NEXT_SHAPE:
                    blocks[p].drawNext();
                    break;
                default:
                    blocks[p].layer = 1 - blocks[p].layer;
                    break;
            }
            settle();
        }

        /** Every move but that of shapes is its own way back. */
        void undoMove(int move, int p, int q) {
            if (move == NEXT_SHAPE) {
                blocks[p].drawPrevious();
                settle();
            } else {
                doMove(move, p, q);
            }
        }

        /** One STEP of a WALK from a floor of that price, which must have blocks: the price behind it. */
        int stepFrom(int ahead, int heat) {
            if (count <= 0) {
                return ahead;
            }
            z = z * 1103515245 + 12345;
            int v = z >>> 8;
            int move = v % MOVES;
            int p = v / 5 % count;
            int q = v / 50 % count;
            if (!canDo(move, p)) {
                return ahead;
            }
            doMove(move, p, q);
            int then = price();
            if (then <= ahead || then - ahead < heat) {
                return then;
            }
            undoMove(move, p, q);
            return ahead;
        }

        int roomsOn(int layer) {
            int sum = 0;
            for (int i = 0; i < count; i++) {
                if (blocks[i].layer == layer) {
                    sum += blocks[i].room();
                }
            }
            return sum;
        }

        int greatestLeastWide() {
            int greatest = 0;
            for (int i = 0; i < count; i++) {
                greatest = Math.max(greatest, blocks[i].leastWide());
            }
            return greatest;
        }

        int greatestLeastHigh() {
            int greatest = 0;
            for (int i = 0; i < count; i++) {
                greatest = Math.max(greatest, blocks[i].leastHigh());
            }
            return greatest;
        }

        /** What THE WIDTH leaves beside the widest chain, from left to right, that goes through the block. */
        int growsOf(int block) {
            for (int k = count - 1; k >= 0; k--) {
                reach[other[k]] = blocks[other[k]].wide + reachBehind(k);
            }
            return wideAll - blocks[block].x - reach[block];
        }

        private int reachBehind(int k) {
            int from = other[k];
            int most = 0;
            for (int i = k + 1; i < count; i++) {
                int to = other[i];
                if (inOne[from] < inOne[to] && blocks[from].layer == blocks[to].layer) {
                    most = Math.max(most, reach[to]);
                }
            }
            return most;
        }

        int heatOf(int number) {
            Block block = blocks[number];
            int heat = 4 * block.power;
            for (int i = 0; i < count; i++) {
                if (block.touches(blocks[i])) {
                    heat += blocks[i].power;
                } else if (block.liesOver(blocks[i])) {
                    heat += 2 * blocks[i].power;
                }
            }
            return heat;
        }

        int hottestBlock() {
            int hottest = 0;
            int most = -1;
            for (int i = 0; i < count; i++) {
                int heat = heatOf(i);
                if (heat > most) {
                    most = heat;
                    hottest = i;
                }
            }
            return hottest;
        }

        int greatestHeat() {
            return count == 0 ? 0 : heatOf(hottestBlock());
        }
    }

    /** Goes through all rows of few blocks; its floor also serves other trials that must leave the real one alone. */
    private static final class Search {
        final Floor trial = new Floor();
        final int[] bestOne = new int[MOST_SEARCHED];
        final int[] bestOther = new int[MOST_SEARCHED];

        /** The least price, its first rows being kept as the best ones. More blocks than can be searched are left alone. */
        int leastPrice(Floor floor) {
            int many = floor.count;
            if (many < 0 || many > MOST_SEARCHED) {
                return SPENT;
            }
            trial.takeFrom(floor);
            int least = MOST_INT;
            firstOrder(trial.one, many);
            for (int i = 0; i < ORDERS[many]; i++) {
                firstOrder(trial.other, many);
                for (int j = 0; j < ORDERS[many]; j++) {
                    trial.settle();
                    int price = trial.price();
                    if (price < least) {
                        least = price;
                        holdRows(many);
                    }
                    nextOrder(trial.other, many);
                }
                nextOrder(trial.one, many);
            }
            return least;
        }

        private void holdRows(int many) {
            System.arraycopy(trial.one, 0, bestOne, 0, many);
            System.arraycopy(trial.other, 0, bestOther, 0, many);
        }

        private static void firstOrder(int[] row, int many) {
            for (int i = 0; i < many; i++) {
                row[i] = i;
            }
        }

        /** The order that comes next, the lesser numbers first; behind the last one the row stays. */
        private static void nextOrder(int[] row, int many) {
            int turn = many - 2;
            for (int i = 0; i < many && turn >= 0 && row[turn] > row[turn + 1]; i++) {
                turn--;
            }
            if (turn < 0) {
                return;
            }
            int with = many - 1;
            for (int i = 0; i < many && with > turn + 1 && row[with] < row[turn]; i++) {
                with--;
            }
            swap(row, turn, with);
            for (int low = turn + 1, high = many - 1; low < high; low++, high--) {
                swap(row, low, high);
            }
        }
    }

    /** The latest moves, in a ring, that can be taken back. */
    private static final class Trail {
        private final int[] moves = new int[MOST_UNDONE];
        private final int[] firsts = new int[MOST_UNDONE];
        private final int[] seconds = new int[MOST_UNDONE];
        private int next;
        int size;

        void forget() {
            size = 0;
        }

        void note(int move, int p, int q) {
            moves[next] = move;
            firsts[next] = p;
            seconds[next] = q;
            next = (next + 1) % MOST_UNDONE;
            size = Math.min(size + 1, MOST_UNDONE);
        }

        void takeBack(Floor floor) {
            next = (next + MOST_UNDONE - 1) % MOST_UNDONE;
            size--;
            floor.undoMove(moves[next], firsts[next], seconds[next]);
        }
    }

    /** A text that was read: its E as a row in which operands stand ahead of their sign; a number is itself, a name or sign is less than 0. */
    private static final class Wish {
        int block;
        int operands;
        private int size;
        private final int[] row = new int[MOST_BYTES];

        void begin(int newBlock) {
            block = newBlock;
            operands = 0;
            size = 0;
        }

        void takeFrom(Wish from) {
            block = from.block;
            operands = from.operands;
            size = from.size;
            System.arraycopy(from.row, 0, row, 0, MOST_BYTES);
        }

        void addNumber(int v) {
            operands++;
            add(v);
        }

        void addName(int letter) {
            operands++;
            add(-letter);
        }

        void addSign(int sign) {
            add(-sign);
        }

        private void add(int v) {
            if (size < MOST_BYTES) {
                row[size] = v;
                size++;
            }
        }

        boolean isOfAll() {
            return block == OF_ALL;
        }

        /** What its E gives; 0, and so not met, of a block that there is not. The stack has room for every operand of a tape. */
        int valueOn(Floor floor, int[] stack) {
            if (!isOfAll() && !floor.has(block)) {
                return 0;
            }
            int top = 0;
            for (int i = 0; i < size; i++) {
                int sign = -row[i];
                if (sign <= 0) {
                    top = push(stack, top, row[i]);
                } else if (sign >= 'a' && sign <= 'z') {
                    top = push(stack, top, isOfAll() ? nameOfAll(floor, sign) : nameOfBlock(floor, sign));
                } else if (sign == '!') {
                    top = negate(stack, top);
                } else {
                    top = join(stack, top, sign);
                }
            }
            return top >= 1 ? stack[0] : 0;
        }

        private static int push(int[] stack, int top, int v) {
            if (top >= stack.length) {
                return top;
            }
            stack[top] = v;
            return top + 1;
        }

        private static int negate(int[] stack, int top) {
            if (top >= 1) {
                stack[top - 1] = truth(stack[top - 1] == 0);
            }
            return top;
        }

        private static int join(int[] stack, int top, int sign) {
            if (top < 2) {
                return top;
            }
            stack[top - 2] = worked(sign, stack[top - 2], stack[top - 1]);
            return top - 1;
        }

        private static int worked(int sign, int left, int right) {
            switch (sign) {
                case '|': return truth(left != 0 || right != 0);
                case '&': return truth(left != 0 && right != 0);
                case '<': return truth(left < right);
                case '=': return truth(left == right);
                case '>': return truth(left > right);
                case '+': return left + right;
                case '-': return left - right;
                case '*': return left * right;
                default: return right == 0 ? 0 : left / right;
            }
        }

        private static int truth(boolean is) {
            return is ? 1 : 0;
        }

        private static int nameOfAll(Floor floor, int letter) {
            switch (letter) {
                case 'w': return floor.wideAll;
                case 'h': return floor.highAll;
                case 'l': return floor.wires();
                default: return floor.waste();
            }
        }

        private int nameOfBlock(Floor floor, int letter) {
            Block told = floor.blocks[block];
            switch (letter) {
                case 'x': return told.x;
                case 'y': return told.y;
                case 'w': return told.wide;
                case 'h': return told.high;
                case 'p': return told.power;
                case 't': return floor.heatOf(block);
                default: return floor.growsOf(block);
            }
        }
    }

    /** THE TAPE, and what reads it as a text: each part answers whether it stood there; if not, start is the place of the fault. */
    private static final class Reader {
        private static final int END = -1, LETTERS = -2, DIGITS = -3, UNPARTED = -4;

        private final int[] bytes = new int[MOST_BYTES];
        int length;
        final Wish draft = new Wish();
        int start;
        private int end;
        private int token;

        void addFour(int v) {
            for (int shift = 24; shift >= 0 && length < MOST_BYTES; shift -= 8) {
                bytes[length] = v >>> shift & 255;
                length++;
            }
        }

        boolean readText() {
            end = 0;
            token = END;
            advance();
            return readHead() && readOr(0, 0) && token == END;
        }

        private boolean readHead() {
            if (isWord("all")) {
                draft.begin(OF_ALL);
                advance();
                return true;
            }
            if (!isWord("block")) {
                return false;
            }
            advance();
            if (token != DIGITS || end - start != 1 || bytes[start] > '7') {
                return false;
            }
            draft.begin(bytes[start] - '0');
            advance();
            return true;
        }

        private boolean readOr(int opens, int nots) {
            boolean read = readAnd(opens, nots);
            for (int i = 0; i < MOST_BYTES && read && token == '|'; i++) {
                advance();
                read = readAnd(opens, nots);
                draft.addSign('|');
            }
            return read;
        }

        private boolean readAnd(int opens, int nots) {
            boolean read = readTest(opens, nots);
            for (int i = 0; i < MOST_BYTES && read && token == '&'; i++) {
                advance();
                read = readTest(opens, nots);
                draft.addSign('&');
            }
            return read;
        }

        private boolean readTest(int opens, int nots) {
            boolean read = readSum(opens, nots);
            if (read && (token == '<' || token == '=' || token == '>')) {
                int sign = token;
                advance();
                read = readSum(opens, nots);
                draft.addSign(sign);
            }
            return read;
        }

        private boolean readSum(int opens, int nots) {
            boolean read = readTerm(opens, nots);
            for (int i = 0; i < MOST_BYTES && read && (token == '+' || token == '-'); i++) {
                int sign = token;
                advance();
                read = readTerm(opens, nots);
                draft.addSign(sign);
            }
            return read;
        }

        private boolean readTerm(int opens, int nots) {
            boolean read = readPiece(opens, nots);
            for (int i = 0; i < MOST_BYTES && read && (token == '*' || token == '/'); i++) {
                int sign = token;
                advance();
                read = readPiece(opens, nots);
                draft.addSign(sign);
            }
            return read;
        }

        private boolean readPiece(int opens, int nots) {
            switch (token) {
                case DIGITS: return readNumber();
                case LETTERS: return readName();
                case '!': return nots < MOST_OPEN && readNot(opens, nots + 1);
                case '(': return opens < MOST_OPEN && readOpen(opens + 1, nots);
                default: return false;
            }
        }

        private boolean readNot(int opens, int nots) {
            advance();
            boolean read = readPiece(opens, nots);
            draft.addSign('!');
            return read;
        }

        private boolean readOpen(int opens, int nots) {
            advance();
            if (!readOr(opens, nots) || token != ')') {
                return false;
            }
            advance();
            return true;
        }

        private boolean readNumber() {
            if (end - start > MOST_DIGITS) {
                return false;
            }
            int v = 0;
            for (int i = start; i < end; i++) {
                v = v * 10 + (bytes[i] - '0');
            }
            draft.addNumber(v);
            advance();
            return true;
        }

        private boolean readName() {
            String names = draft.isOfAll() ? NAMES_OF_ALL : NAMES_OF_BLOCK;
            if (end - start != 1 || names.indexOf((char) bytes[start]) < 0) {
                return false;
            }
            draft.addName(bytes[start]);
            advance();
            return true;
        }

        /** Goes on to the next word or sign; a word right behind a word becomes one that nothing asks for. */
        private void advance() {
            boolean behindWord = token == LETTERS || token == DIGITS;
            start = end;
            while (start < length && bytes[start] == ' ') {
                start++;
            }
            if (start >= length) {
                token = END;
                end = length;
                return;
            }
            int sort = sortOf(bytes[start]);
            boolean isWord = sort == LETTERS || sort == DIGITS;
            token = isWord && behindWord && start == end ? UNPARTED : sort;
            end = start + 1;
            while (isWord && end < length && sortOf(bytes[end]) == sort) {
                end++;
            }
        }

        private static int sortOf(int v) {
            if (v >= 'a' && v <= 'z') {
                return LETTERS;
            }
            return v >= '0' && v <= '9' ? DIGITS : v;
        }

        private boolean isWord(String word) {
            if (token != LETTERS || end - start != word.length()) {
                return false;
            }
            for (int i = 0; i < word.length(); i++) {
                if (bytes[start + i] != word.charAt(i)) {
                    return false;
                }
            }
            return true;
        }
    }

    /** What is kept of layings as they were. */
    private static final class Kept {
        final int[] areas = new int[MOST_KEPT];
        final int[] wires = new int[MOST_KEPT];
        final int[] heats = new int[MOST_KEPT];
        int count;

        void takeFrom(Kept from) {
            System.arraycopy(from.areas, 0, areas, 0, MOST_KEPT);
            System.arraycopy(from.wires, 0, wires, 0, MOST_KEPT);
            System.arraycopy(from.heats, 0, heats, 0, MOST_KEPT);
            count = from.count;
        }

        int add(Floor floor) {
            areas[count] = floor.wideAll * floor.highAll;
            wires[count] = floor.wires();
            heats[count] = floor.greatestHeat();
            count++;
            return count - 1;
        }

        boolean isBeaten(int laying) {
            for (int i = 0; i < count; i++) {
                if (beats(i, laying)) {
                    return true;
                }
            }
            return false;
        }

        private boolean beats(int one, int other) {
            boolean nowhereGreater = areas[one] <= areas[other] && wires[one] <= wires[other] && heats[one] <= heats[other];
            boolean somewhereLess = areas[one] < areas[other] || wires[one] < wires[other] || heats[one] < heats[other];
            return nowhereGreater && somewhereLess;
        }
    }

    /** All that AN IMAGE keeps. */
    private static final class State {
        final Floor floor = new Floor();
        final Wish[] wishes = new Wish[MOST_WISHES];
        int wishCount;
        final Kept kept = new Kept();

        State() {
            for (int i = 0; i < MOST_WISHES; i++) {
                wishes[i] = new Wish();
            }
        }

        int addWish(Wish read) {
            wishes[wishCount].takeFrom(read);
            wishCount++;
            return wishCount - 1;
        }

        void takeFrom(State from) {
            floor.takeFrom(from.floor);
            wishCount = from.wishCount;
            for (int i = 0; i < wishCount; i++) {
                wishes[i].takeFrom(from.wishes[i]);
            }
            kept.takeFrom(from.kept);
        }
    }

    /** A row of numbers. Marks are ints, so a row of longs never holds more than ints do. */
    private static final class Sheet {
        int sort = MISSING;
        private int size;
        final int[] numbers = new int[MOST_PLACES];

        void become(int newSort, int newSize) {
            sort = newSort;
            size = newSize;
            for (int i = 0; i < MOST_PLACES; i++) {
                numbers[i] = 0;
            }
        }

        void takeFrom(Sheet from) {
            sort = from.sort;
            size = from.size;
            System.arraycopy(from.numbers, 0, numbers, 0, MOST_PLACES);
        }

        /** Whether there are so many places from that one on; none may also begin right behind the last. */
        boolean hasRun(int place, int many) {
            return place >= 0 && many >= 0 && many <= size && place <= size - many;
        }

        int put(int place, int v) {
            int was = numbers[place];
            numbers[place] = sort == SHORTS ? (short) v : v;
            return was;
        }
    }

    /** Holds one thing of its own, apart from what it was taken from. */
    private static final class Slot {
        int holds = HOLDS_NOTHING;
        final Block block = new Block();
        final Sheet sheet = new Sheet();
        int number;

        /** Why it can't be taken for that thing; 0 if it can. */
        int findingFor(int thing) {
            if (holds == HOLDS_NOTHING) {
                return NOTHING;
            }
            return holds == thing ? 0 : KIND;
        }
    }
}
