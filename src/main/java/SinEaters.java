/** A valley of sin-eaters and loaves, written on a page, read, and asked what is and what could be. */
public final class SinEaters {
    public static final int NONE = -1, UNKNOWN = -101, OUTSIDE = -102, STATE = -103, FULL = -104;

    private static final String KIND_LETTERS = "eprbt";
    private static final int EATER = 0, PAUPER = 1, PARSON = 2, BEGGAR = 3, TRAMP = 4;
    private static final int EATERS_MOST = 4, LOAVES_READ_MOST = 5, LOAVES_MOST = 8;
    private static final int DIGIT_MOST = 9;
    private static final int LETTERS_MOST = 24;
    private static final int SAID_MOST = 6, MUCH_MOST = 99, ASKED_MOST = 20;
    private static final int SPREADS_MOST = 12, SPREAD_FIRST_LOAF = 10;
    private static final int TIMES_MOST = 60, WINTER_EACH = 3;
    private static final int ABOUT_MOST = 7, LOAF_MOST = 4, COUNT_MOST = 10;
    private static final long SEED_FACTOR = 1103515245L, SEED_MORE = 12345L, SEED_BOUND = 1L << 31;
    private static final int SEED_LOW = 65536;

    private final Page page;
    private final Valley now;
    private final Valley kept;
    private final Valley trial;
    private final Plan plan;
    private boolean imageKept;
    private int valleysRead;
    private int spreadsDone;

    public SinEaters() {
        page = new Page();
        now = new Valley();
        kept = new Valley();
        trial = new Valley();
        plan = new Plan();
    }

    // ---- the valley

    public int letter(int code) {
        if (code < 32 || code > 126) {
            return OUTSIDE;
        }
        return page.write(code) ? page.length : FULL;
    }

    public int blank() {
        int had = page.length;
        page.length = 0;
        return had;
    }

    public int fault() {
        return page.faultPlace();
    }

    public int valley() {
        if (!page.isValley()) {
            return STATE;
        }
        now.readFrom(page);
        page.length = 0;
        imageKept = false;
        valleysRead++;
        return now.loaves;
    }

    // ---- eaters, loaves

    public int about(int eater, int what) {
        if (!now.isEater(eater)) {
            return UNKNOWN;
        }
        if (what < 0 || what > ABOUT_MOST) {
            return OUTSIDE;
        }
        return aboutEater(eater, what);
    }

    public int as(int eater, int kind) {
        if (!now.isEater(eater)) {
            return UNKNOWN;
        }
        if (kind < EATER || kind > TRAMP) {
            return OUTSIDE;
        }
        return isSuch(now.kinds[eater], kind) ? eater : NONE;
    }

    public int loaf(int loaf, int what) {
        if (!now.isLoaf(loaf)) {
            return UNKNOWN;
        }
        if (what < 0 || what > LOAF_MOST) {
            return OUTSIDE;
        }
        return aboutLoaf(loaf, what);
    }

    public int eat(int eater, int loaf) {
        if (!now.isEater(eater) || !now.isLoaf(loaf)) {
            return UNKNOWN;
        }
        if (!now.wouldTake(eater, loaf)) {
            return STATE;
        }
        now.takeWhole(eater, loaf);
        return now.carried[eater];
    }

    public int halve(int a, int b, int loaf) {
        if (!now.isEater(a) || !now.isEater(b) || a == b || !now.isLoaf(loaf)) {
            return UNKNOWN;
        }
        if (!now.wouldTake(a, loaf) || !now.wouldTake(b, loaf)) {
            return STATE;
        }
        now.takeHalves(a, b, loaf);
        return now.carried[a] + now.carried[b];
    }

    public int winter() {
        if (!now.isRead()) {
            return STATE;
        }
        now.passWinter();
        return sumOf(now.carried);
    }

    public int die(int eater) {
        if (!now.isEater(eater)) {
            return UNKNOWN;
        }
        if (!now.isAlive(eater)) {
            return STATE;
        }
        if (now.loaves >= LOAVES_MOST) {
            return FULL;
        }
        return now.makeLoafOf(eater);
    }

    // ---- what could be

    public int spread(int what) {
        int place = what - SPREAD_FIRST_LOAF;
        boolean asksWho = what >= SPREAD_FIRST_LOAF && place < LOAVES_MOST;
        if (what != 0 && !asksWho) {
            return OUTSIDE;
        }
        if (!now.isRead() || spreadsDone >= SPREADS_MOST) {
            return STATE;
        }
        spreadsDone++;
        trial.copyFrom(now);
        plan.start();
        tryLoavesFrom(0, greatestOf(trial.carried), trial, plan);
        if (!plan.found) {
            return NONE;
        }
        return asksWho ? plan.best[place] : plan.most;
    }

    // ---- what is said

    public int say(int loaves, int much, boolean more) {
        if (loaves < 0 || loaves >= 1 << now.loaves || much < 0 || much > MUCH_MOST) {
            return OUTSIDE;
        }
        if (!now.isRead()) {
            return STATE;
        }
        if (now.said >= SAID_MOST) {
            return FULL;
        }
        now.addSaid(loaves, much, more);
        return now.said;
    }

    public int forget() {
        int had = now.said;
        now.said = 0;
        return had;
    }

    public int winters(int times, int seed, int what) {
        if (times < 1 || times > TIMES_MOST || seed < 0 || what < 0 || what > 2) {
            return OUTSIDE;
        }
        if (!now.isRead()) {
            return STATE;
        }
        int seedThen = playWinters(times, seed);
        switch (what) {
            case 0: return Integer.bitCount(trial.eaten);
            case 1: return sumOf(trial.carried);
            default: return seedThen;
        }
    }

    // ---- what is told of all

    public int image() {
        if (!now.isRead()) {
            return STATE;
        }
        kept.copyFrom(now);
        imageKept = true;
        return Integer.bitCount(kept.eaten);
    }

    public int restore() {
        if (!imageKept) {
            return STATE;
        }
        now.copyFrom(kept);
        return Integer.bitCount(now.eaten);
    }

    public int count(int what) {
        switch (what) {
            case 0: return now.eaters;
            case 1: return Integer.bitCount(now.living);
            case 2: return now.loaves;
            case 3: return Integer.bitCount(now.eaten);
            case 4: return sumOf(now.carried);
            case 5: return sumOf(now.paid);
            case 6: return now.wintersPassed;
            case 7: return now.said;
            case 8: return page.length;
            case 9: return valleysRead;
            case 10: return spreadsDone;
            default: return OUTSIDE;
        }
    }

    public long digest() {
        long h = 1019;
        for (int eater = 0; eater < now.eaters; eater++) {
            for (int what = 0; what <= ABOUT_MOST; what++) {
                h = 31 * h + aboutEater(eater, what);
            }
        }
        for (int loaf = 0; loaf < now.loaves; loaf++) {
            for (int what = 0; what <= LOAF_MOST; what++) {
                h = 31 * h + aboutLoaf(loaf, what);
            }
        }
        for (int place = 0; place < page.length; place++) {
            h = 31 * h + page.letterAt(place);
        }
        for (int what = 0; what <= COUNT_MOST; what++) {
            h = 31 * h + count(what);
        }
        return h;
    }

    private int aboutEater(int eater, int what) {
        if (!now.isEater(eater)) {
            return UNKNOWN;
        }
        switch (what) {
            case 0: return now.kinds[eater];
            case 1: return now.hunger[eater];
            case 2: return now.isAlive(eater) ? 1 : 0;
            case 3: return now.carried[eater];
            case 4: return now.paid[eater];
            case 5: return now.takenNow(eater);
            case 6: return now.deedsOf(now.bestFed(eater));
            case 7: return now.bestFed(eater);
            default: return OUTSIDE;
        }
    }

    private int aboutLoaf(int loaf, int what) {
        if (!now.isLoaf(loaf)) {
            return UNKNOWN;
        }
        switch (what) {
            case 0: return now.deeds[loaf];
            case 1: return now.hidden[loaf];
            case 2: return now.wasEaten(loaf) ? 1 : 0;
            case 3: return now.bakedInto(loaf);
            case 4: return bestQuestion(now.bakedInto(loaf), now.deeds[loaf]);
            default: return OUTSIDE;
        }
    }

    /** Leaves in the trial valley what so many comings would make of it, and tells the seed they end with. */
    private int playWinters(int times, int firstSeed) {
        trial.copyFrom(now);
        int seed = firstSeed;
        for (int time = 1; time <= times; time++) {
            seed = nextSeed(seed);
            int eater = drawn(seed, trial.eaters);
            seed = nextSeed(seed);
            int loaf = drawn(seed, trial.loaves);
            if (trial.wouldTake(eater, loaf)) {
                trial.takeWhole(eater, loaf);
            }
            if (time % WINTER_EACH == 0) {
                trial.passWinter();
            }
        }
        return seed;
    }

    private static int nextSeed(int seed) {
        return (int) ((SEED_FACTOR * seed + SEED_MORE) % SEED_BOUND);
    }

    private static int drawn(int seed, int choices) {
        return choices < 1 ? NONE : seed / SEED_LOW % choices;
    }

    /**
     * Tries every eater on this loaf and all behind it. Nobody comes to carry less by eating, so a way
     * that already carries as much as the best can't be better; and as the eaters are tried by number,
     * the first of like ways is kept. One level for each loaf: at most LOAVES_MOST + 1.
     */
    private static void tryLoavesFrom(int loaf, int most, Valley valley, Plan plan) {
        if (plan.found && most >= plan.most) {
            return;
        }
        if (!valley.isLoaf(loaf)) {
            plan.keep(most);
            return;
        }
        if (valley.wasEaten(loaf)) {
            tryLoavesFrom(loaf + 1, most, valley, plan);
            return;
        }
        for (int eater = 0; eater < EATERS_MOST; eater++) {
            if (valley.wouldTake(eater, loaf)) {
                int hungerBefore = valley.hunger[eater];
                valley.takeWhole(eater, loaf);
                plan.tried[loaf] = eater;
                tryLoavesFrom(loaf + 1, Math.max(most, valley.carried[eater]), valley, plan);
                valley.giveBack(eater, loaf, hungerBefore);
            }
        }
    }

    /** Than how many to ask, so that at worst fewest of these bits are left; NONE if there are none. */
    private static int bestQuestion(int baked, int deeds) {
        if (baked == 0) {
            return NONE;
        }
        int best = 0;
        int fewest = leftAtWorst(baked, deeds, 0);
        for (int much = 1; much <= ASKED_MOST; much++) {
            int left = leftAtWorst(baked, deeds, much);
            if (left < fewest) {
                fewest = left;
                best = much;
            }
        }
        return best;
    }

    private static int leftAtWorst(int baked, int deeds, int much) {
        int more = 0;
        for (int inside = 0; inside <= DIGIT_MOST; inside++) {
            if (hasBit(baked, inside) && deeds + inside > much) {
                more++;
            }
        }
        return Math.max(more, Integer.bitCount(baked) - more);
    }

    private static int kindOf(int letter) {
        return KIND_LETTERS.indexOf((char) letter);
    }

    private static boolean isSuch(int kind, int asked) {
        return asked == EATER || asked == kind || asked == PAUPER && kind == TRAMP;
    }

    private static boolean stomachs(int kind, int hunger, int deeds) {
        return kind != PARSON && (isSuch(kind, PAUPER) || deeds <= hunger);
    }

    private static int carriedBy(int kind, int part) {
        return kind == BEGGAR ? part / 2 : part;
    }

    private static int roundedUpHalf(int whole) {
        return (whole + 1) / 2;
    }

    private static int lessHungry(int hunger, int by) {
        return Math.max(hunger - by, 0);
    }

    private static boolean isDigit(int letter) {
        return letter >= '0' && letter <= '9';
    }

    private static boolean hasBit(int bits, int place) {
        return (bits >> place & 1) == 1;
    }

    private static int sumOf(int[] row) {
        int sum = 0;
        for (int one : row) {
            sum += one;
        }
        return sum;
    }

    private static int greatestOf(int[] row) {
        int greatest = 0;
        for (int one : row) {
            greatest = Math.max(greatest, one);
        }
        return greatest;
    }

    private static void copyRow(int[] from, int[] to) {
        System.arraycopy(from, 0, to, 0, Math.min(from.length, to.length));
    }

    /** The letters written so far, and where they leave what a valley can be. */
    private static final class Page {
        private final int[] letters = new int[LETTERS_MOST];
        private int length;

        private boolean write(int code) {
            if (length < 0 || length >= letters.length) {
                return false;
            }
            letters[length] = code;
            length++;
            return true;
        }

        private int letterAt(int place) {
            return place >= 0 && place < length && place < letters.length ? letters[place] : 0;
        }

        private int digitAt(int place) {
            return letterAt(place) - '0';
        }

        /** The place of the ";" behind the eaters, or NONE. */
        private int eatersEnd() {
            for (int place = 0; place < length; place++) {
                if (letterAt(place) == ';') {
                    return place;
                }
            }
            return NONE;
        }

        private int faultPlace() {
            int end = eatersEnd();
            for (int place = 0; place < length; place++) {
                boolean fits = end == NONE || place <= end ? fitsEaters(place) : fitsLoaves(place, end);
                if (!fits) {
                    return place;
                }
            }
            return length;
        }

        /** Each eater takes three places: his kind, his hunger, and what stands behind him. */
        private boolean fitsEaters(int place) {
            int letter = letterAt(place);
            int eatersSoFar = place / 3 + 1;
            switch (place % 3) {
                case 0: return kindOf(letter) >= 0;
                case 1: return isDigit(letter);
                default: return letter == ',' && eatersSoFar < EATERS_MOST
                        || letter == ';' && eatersSoFar >= 2 && eatersSoFar <= EATERS_MOST;
            }
        }

        private boolean fitsLoaves(int place, int end) {
            return place - end <= 2 * LOAVES_READ_MOST && isDigit(letterAt(place));
        }

        private boolean isValley() {
            int end = eatersEnd();
            int digits = length - 1 - end;
            return end != NONE && faultPlace() == length && digits >= 2 && digits % 2 == 0;
        }
    }

    /** Eaters and loaves with all that happens to them; the same form serves as image and as trial. */
    private static final class Valley {
        private int eaters;
        private int living;
        private final int[] kinds = new int[EATERS_MOST];
        private final int[] hunger = new int[EATERS_MOST];
        private final int[] carried = new int[EATERS_MOST];
        private final int[] paid = new int[EATERS_MOST];
        private int loaves;
        private int eaten;
        private final int[] deeds = new int[LOAVES_MOST];
        private final int[] hidden = new int[LOAVES_MOST];
        private int wintersPassed;
        private int said;
        private final int[] saidLoaves = new int[SAID_MOST];
        private final int[] saidMuch = new int[SAID_MOST];
        private int saidMore;

        private boolean isRead() {
            return eaters > 0;
        }

        private boolean isEater(int eater) {
            return eater >= 0 && eater < eaters && eater < EATERS_MOST;
        }

        private boolean isLoaf(int loaf) {
            return loaf >= 0 && loaf < loaves && loaf < LOAVES_MOST;
        }

        private boolean isAlive(int eater) {
            return hasBit(living, eater);
        }

        private boolean wasEaten(int loaf) {
            return hasBit(eaten, loaf);
        }

        /** The page has been found to be a valley. */
        private void readFrom(Page page) {
            int end = page.eatersEnd();
            eaters = Math.min((end + 1) / 3, EATERS_MOST);
            loaves = Math.min((page.length - 1 - end) / 2, LOAVES_MOST);
            living = (1 << eaters) - 1;
            eaten = 0;
            wintersPassed = 0;
            said = 0;
            for (int eater = 0; eater < EATERS_MOST; eater++) {
                boolean there = eater < eaters;
                kinds[eater] = there ? kindOf(page.letterAt(3 * eater)) : 0;
                hunger[eater] = there ? page.digitAt(3 * eater + 1) : 0;
                carried[eater] = 0;
                paid[eater] = 0;
            }
            for (int loaf = 0; loaf < LOAVES_MOST; loaf++) {
                boolean there = loaf < loaves;
                deeds[loaf] = there ? page.digitAt(end + 1 + 2 * loaf) : 0;
                hidden[loaf] = there ? page.digitAt(end + 2 + 2 * loaf) : 0;
            }
        }

        private void copyFrom(Valley other) {
            eaters = other.eaters;
            living = other.living;
            loaves = other.loaves;
            eaten = other.eaten;
            wintersPassed = other.wintersPassed;
            said = other.said;
            copyRow(other.kinds, kinds);
            copyRow(other.hunger, hunger);
            copyRow(other.carried, carried);
            copyRow(other.paid, paid);
            copyRow(other.deeds, deeds);
            copyRow(other.hidden, hidden);
            copyRow(other.saidLoaves, saidLoaves);
            copyRow(other.saidMuch, saidMuch);
            saidMore = other.saidMore;
        }

        private boolean wouldTake(int eater, int loaf) {
            return isEater(eater) && isLoaf(loaf) && isAlive(eater) && !wasEaten(loaf)
                    && stomachs(kinds[eater], hunger[eater], deeds[loaf]);
        }

        private void takeWhole(int eater, int loaf) {
            if (!isEater(eater) || !isLoaf(loaf)) {
                return;
            }
            takePart(eater, deeds[loaf], deeds[loaf] + hidden[loaf]);
            hunger[eater] = lessHungry(hunger[eater], 2);
            eaten |= 1 << loaf;
        }

        private void takeHalves(int first, int other, int loaf) {
            if (!isEater(first) || !isEater(other) || !isLoaf(loaf)) {
                return;
            }
            int all = deeds[loaf] + hidden[loaf];
            int firstPay = roundedUpHalf(deeds[loaf]);
            int firstPart = roundedUpHalf(all);
            takePart(first, firstPay, firstPart);
            takePart(other, deeds[loaf] - firstPay, all - firstPart);
            hunger[first] = lessHungry(hunger[first], 1);
            hunger[other] = lessHungry(hunger[other], 1);
            eaten |= 1 << loaf;
        }

        private void takePart(int eater, int pay, int part) {
            if (isEater(eater)) {
                paid[eater] += pay;
                carried[eater] += carriedBy(kinds[eater], part);
            }
        }

        /** Undoes takeWhole, but for the hunger, which it can't know. */
        private void giveBack(int eater, int loaf, int hungerBefore) {
            if (!isEater(eater) || !isLoaf(loaf)) {
                return;
            }
            paid[eater] -= deeds[loaf];
            carried[eater] -= carriedBy(kinds[eater], deeds[loaf] + hidden[loaf]);
            hunger[eater] = hungerBefore;
            eaten &= ~(1 << loaf);
        }

        private void passWinter() {
            for (int eater = 0; eater < EATERS_MOST; eater++) {
                if (isEater(eater) && isAlive(eater)) {
                    hunger[eater] = Math.min(hunger[eater] + 3, DIGIT_MOST);
                    if (kinds[eater] == TRAMP) {
                        carried[eater] = 0;
                    }
                }
            }
            wintersPassed++;
        }

        private int makeLoafOf(int eater) {
            int loaf = loaves;
            if (!isEater(eater) || loaf < 0 || loaf >= LOAVES_MOST) {
                return NONE;
            }
            deeds[loaf] = Math.min(carried[eater], DIGIT_MOST);
            hidden[loaf] = carried[eater] - deeds[loaf];
            loaves++;
            carried[eater] = 0;
            living &= ~(1 << eater);
            return loaf;
        }

        private int takenNow(int eater) {
            int bits = 0;
            for (int loaf = 0; loaf < LOAVES_MOST; loaf++) {
                if (wouldTake(eater, loaf)) {
                    bits |= 1 << loaf;
                }
            }
            return bits;
        }

        /** Hunger only falls while he eats, so what he would not take now he can't take later. */
        private int bestFed(int eater) {
            int takeable = takenNow(eater);
            int best = 0;
            int most = 0;
            for (int bits = 1; bits <= takeable; bits++) {
                if ((bits & ~takeable) == 0 && deedsOf(bits) > most && canTakeAll(eater, bits)) {
                    best = bits;
                    most = deedsOf(bits);
                }
            }
            return best;
        }

        private boolean canTakeAll(int eater, int bits) {
            if (!isEater(eater)) {
                return false;
            }
            int left = hunger[eater];
            for (int loaf = 0; loaf < LOAVES_MOST; loaf++) {
                if (isLoaf(loaf) && hasBit(bits, loaf)) {
                    if (!stomachs(kinds[eater], left, deeds[loaf])) {
                        return false;
                    }
                    left = lessHungry(left, 2);
                }
            }
            return true;
        }

        private int deedsOf(int bits) {
            int sum = 0;
            for (int loaf = 0; loaf < LOAVES_MOST; loaf++) {
                if (isLoaf(loaf) && hasBit(bits, loaf)) {
                    sum += deeds[loaf];
                }
            }
            return sum;
        }

        private void addSaid(int bits, int much, boolean more) {
            if (said >= 0 && said < SAID_MOST) {
                saidLoaves[said] = bits;
                saidMuch[said] = much;
                saidMore = more ? saidMore | 1 << said : saidMore & ~(1 << said);
                said++;
            }
        }

        private int bakedInto(int loaf) {
            int bits = 0;
            for (int inside = 0; inside <= DIGIT_MOST; inside++) {
                if (allSaidHolds(loaf, inside)) {
                    bits |= 1 << inside;
                }
            }
            return bits;
        }

        private boolean allSaidHolds(int loaf, int inside) {
            for (int one = 0; one < said && one < SAID_MOST; one++) {
                boolean isMore = carriedOf(saidLoaves[one], loaf, inside) > saidMuch[one];
                if (isMore != hasBit(saidMore, one)) {
                    return false;
                }
            }
            return true;
        }

        /** What these loaves give to carry, if so much were hidden in the one of them that is in doubt. */
        private int carriedOf(int bits, int doubted, int inside) {
            int sum = 0;
            for (int loaf = 0; loaf < LOAVES_MOST; loaf++) {
                if (isLoaf(loaf) && hasBit(bits, loaf)) {
                    sum += deeds[loaf] + (loaf == doubted ? inside : hidden[loaf]);
                }
            }
            return sum;
        }
    }

    /** Who is tried on each loaf, and the best way found so far. */
    private static final class Plan {
        private final int[] tried = new int[LOAVES_MOST];
        private final int[] best = new int[LOAVES_MOST];
        private int most;
        private boolean found;

        private void start() {
            for (int loaf = 0; loaf < LOAVES_MOST; loaf++) {
                tried[loaf] = NONE;
            }
            found = false;
        }

        private void keep(int mostThen) {
            most = mostThen;
            found = true;
            copyRow(tried, best);
        }
    }
}
