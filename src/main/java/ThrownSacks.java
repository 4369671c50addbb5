import java.util.Arrays;

/** Parcels thrown and carried into sacks on hooks: ../shared/DOC.md says what each call answers. */
public final class ThrownSacks {
    public static final int NONE = -1, UNKNOWN = -101, OUTSIDE = -102, STATE = -103, FULL = -104;

    private static final int LEAST_HOOKS = 3, MOST_HOOKS = 6;
    private static final int MOST_LETTERS = 24, LEAST_CODE = 32, MOST_CODE = 126;
    private static final int MOST_ON_BELT = 8, MOST_ROOM = 9, MOST_FOUND = 8, MOST_PARCELS = 60;

    private static final int PARCEL = 0, HEAVY = 2, GLASS = 3, TIN = 4;
    private static final int[] GRIPS = {0, 1, -2, -1, -2};

    private static final int IN = 0, NEXT = 1, BESIDE = 2;
    private static final int THROW_SECONDS = 2, CHANGE_SECONDS = 40, EXCHANGE_SECONDS = 10;

    private final Page page;
    private final Plan plan;
    private final Standing now;
    private final Standing kept;
    private final Best best;
    private final Ways ways;
    private final Trial trial;
    private boolean imageKept;
    private int floorsRead;

    public ThrownSacks() {
        page = new Page();
        plan = new Plan();
        now = new Standing();
        kept = new Standing();
        best = new Best();
        ways = new Ways();
        trial = new Trial();
    }

    // ---- the floor

    public int letter(int code) {
        if (code < LEAST_CODE || code > MOST_CODE) {
            return OUTSIDE;
        }
        if (page.size >= MOST_LETTERS) {
            return FULL;
        }
        page.add(code);
        return page.size;
    }

    public int blank() {
        int had = page.size;
        page.size = 0;
        return had;
    }

    public int fault() {
        return page.firstWrong();
    }

    public int floor() {
        if (!page.isFloor()) {
            return STATE;
        }
        plan.read(page);
        page.size = 0;
        now.start();
        best.seek(plan);
        ways.counted = false;
        imageKept = false;
        floorsRead++;
        return plan.hooks;
    }

    public int hook(int hook, int what) {
        if (!isKnown(hook)) {
            return UNKNOWN;
        }
        Row sack = now.sacks[hook];
        int town = now.towns[hook];
        switch (what) {
            case 0: return plan.yards[hook];
            case 1: return plan.room[hook];
            case 2: return town;
            case 3: return sack.size;
            case 4: return sack.notFor(town);
            case 5: return sack.ofKind(GLASS);
            case 6: return plan.oftenOf(town);
            default: return OUTSIDE;
        }
    }

    // ---- parcels

    public int parcel(int kind, int town) {
        if (!isKind(kind)) {
            return OUTSIDE;
        }
        if (!isKnown(town)) {
            return UNKNOWN;
        }
        if (now.belt.size >= MOST_ON_BELT) {
            return FULL;
        }
        now.belt.add(kind, town, false);
        return now.belt.size;
    }

    public int belt(int place, int what) {
        if (place < 0 || place >= now.belt.size) {
            return UNKNOWN;
        }
        switch (what) {
            case 0: return now.belt.kindAt(place);
            case 1: return now.belt.townAt(place);
            case 2: return gripOf(now.belt.kindAt(place));
            default: return OUTSIDE;
        }
    }

    public int as(int place, int kind) {
        if (place < 0 || place >= now.belt.size) {
            return UNKNOWN;
        }
        if (!isKind(kind)) {
            return OUTSIDE;
        }
        return isA(now.belt.kindAt(place), kind) ? now.belt.townAt(place) : NONE;
    }

    public int toss(int hook, int how) {
        if (!isKnown(hook)) {
            return UNKNOWN;
        }
        if (how < IN || how > BESIDE) {
            return OUTSIDE;
        }
        if (now.belt.size == 0 || isFull(hook) || tenthsAt(now.belt.kindAt(0), hook, how) == 0) {
            return STATE;
        }
        int end = how == NEXT ? nextTo(hook, plan.hooks) : hook;
        now.seconds += THROW_SECONDS;
        if (how == BESIDE) {
            now.seconds += carrySeconds(plan.yards[hook]);
        }
        now.putFirst(end, how != BESIDE);
        return end;
    }

    public int carry(int hook) {
        if (!isKnown(hook)) {
            return UNKNOWN;
        }
        if (now.belt.size == 0 || isFull(hook)) {
            return STATE;
        }
        now.seconds += carrySeconds(plan.yards[hook]);
        now.putFirst(hook, false);
        return now.seconds;
    }

    public int change(int hook) {
        if (!isKnown(hook)) {
            return UNKNOWN;
        }
        int had = now.sacks[hook].size;
        now.sacks[hook].size = 0;
        now.seconds += CHANGE_SECONDS;
        return had;
    }

    public int exchange(int a, int b) {
        if (!isKnown(a) || !isKnown(b) || a == b) {
            return UNKNOWN;
        }
        if (now.sacks[a].size > plan.room[b] || now.sacks[b].size > plan.room[a]) {
            return STATE;
        }
        now.swap(a, b);
        now.seconds += EXCHANGE_SECONDS;
        return now.seconds;
    }

    // ---- what would be

    public int odds(int kind, int hook, int what) {
        if (!isKind(kind)) {
            return OUTSIDE;
        }
        if (!isKnown(hook)) {
            return UNKNOWN;
        }
        int carrying = carryTenths(plan.yards[hook]);
        int cost = costOf(kind, plan.yards[hook], isFull(nextTo(hook, plan.hooks)));
        switch (what) {
            case 0: return tenthsAt(kind, hook, IN);
            case 1: return tenthsAt(kind, hook, NEXT);
            case 2: return tenthsAt(kind, hook, BESIDE);
            case 3: return cost;
            case 4: return carrying;
            case 5: return cost < carrying ? 1 : 0;
            default: return OUTSIDE;
        }
    }

    public int hanging(int what) {
        boolean ofHook = what >= 10 && what < 10 + MOST_HOOKS;
        if (what != 0 && what != 1 && !ofHook) {
            return OUTSIDE;
        }
        if (plan.hooks == 0) {
            return STATE;
        }
        if (what == 0) {
            return best.total;
        }
        if (what == 1) {
            return best.exchangesFrom(now, plan.hooks);
        }
        return isKnown(what - 10) ? best.towns[what - 10] : NONE;
    }

    // ---- what is found

    public int found(int town, int in) {
        if (!isKnown(town) || !isKnown(in) || town == in) {
            return UNKNOWN;
        }
        if (now.found >= MOST_FOUND) {
            return FULL;
        }
        now.addFound(town, in);
        ways.counted = false;
        return now.found;
    }

    public int forget() {
        int had = now.found;
        now.found = 0;
        ways.counted = false;
        return had;
    }

    public int hung() {
        if (plan.hooks == 0) {
            return STATE;
        }
        ways.seek(now, plan.hooks);
        return ways.many;
    }

    public int where(int town) {
        if (!isKnown(town)) {
            return UNKNOWN;
        }
        ways.seek(now, plan.hooks);
        return ways.places[town];
    }

    public int shifts(int parcels, int seed, int what) {
        if (parcels < 1 || parcels > MOST_PARCELS || seed < 0 || what < 0 || what > 2) {
            return OUTSIDE;
        }
        if (plan.hooks == 0) {
            return STATE;
        }
        trial.run(plan, now, parcels, seed);
        if (what == 0) {
            return trial.cameNext;
        }
        return what == 1 ? trial.layBeside : trial.seed;
    }

    // ---- what is told of all

    public int image() {
        if (plan.hooks == 0) {
            return STATE;
        }
        kept.copy(now);
        imageKept = true;
        return now.seconds;
    }

    public int restore() {
        if (!imageKept) {
            return STATE;
        }
        now.copy(kept);
        ways.counted = false;
        return now.seconds;
    }

    public int count(int what) {
        switch (what) {
            case 0: return plan.hooks;
            case 1: return now.belt.size;
            case 2: return now.inSacks(plan.hooks);
            case 3: return now.wrongInSacks(plan.hooks);
            case 4: return now.seconds;
            case 5: return now.harmed;
            case 6: return now.found;
            case 7: return page.size;
            case 8: return floorsRead;
            default: return OUTSIDE;
        }
    }

    public long digest() {
        long h = 827;
        for (int hook = 0; hook < plan.hooks; hook++) {
            h = withHook(h, hook);
        }
        for (int place = 0; place < now.belt.size; place++) {
            for (int what = 0; what <= 2; what++) {
                h = 31 * h + belt(place, what);
            }
        }
        if (plan.hooks > 0) {
            h = withHanging(h);
        }
        for (int place = 0; place < page.size; place++) {
            h = 31 * h + page.codeAt(place);
        }
        for (int what = 0; what <= 8; what++) {
            h = 31 * h + count(what);
        }
        return h;
    }

    private long withHook(long start, int hook) {
        long h = start;
        for (int what = 0; what <= 6; what++) {
            h = 31 * h + hook(hook, what);
        }
        for (int what = 0; what <= 5; what++) {
            h = 31 * h + odds(PARCEL, hook, what);
        }
        return 31 * h + odds(GLASS, hook, 3);
    }

    private long withHanging(long start) {
        long h = 31 * start + hanging(0);
        h = 31 * h + hanging(1);
        for (int what = 10; what < 10 + MOST_HOOKS; what++) {
            h = 31 * h + hanging(what);
        }
        h = 31 * h + hung();
        for (int town = 0; town < plan.hooks; town++) {
            h = 31 * h + where(town);
        }
        return h;
    }

    /** HOOKS and TOWNS have the same numbers. */
    private boolean isKnown(int hookOrTown) {
        return plan.has(hookOrTown);
    }

    private boolean isFull(int hook) {
        return isKnown(hook) && now.sacks[hook].size >= plan.room[hook];
    }

    private int tenthsAt(int kind, int hook, int how) {
        if (!isKnown(hook)) {
            return 0;
        }
        return tenthsOf(kind, plan.yards[hook], isFull(nextTo(hook, plan.hooks)), how);
    }

    private static boolean isKind(int kind) {
        return kind >= 0 && kind < GRIPS.length;
    }

    private static boolean isA(int kind, int wanted) {
        return kind == wanted || wanted == PARCEL || kind == TIN && wanted == HEAVY;
    }

    private static int gripOf(int kind) {
        return kind >= 0 && kind < GRIPS.length ? GRIPS[kind] : 0;
    }

    private static int nextTo(int hook, int hooks) {
        return hook + 1 < hooks ? hook + 1 : hook - 1;
    }

    private static int carrySeconds(int yards) {
        return 2 * yards + 3;
    }

    private static int carryTenths(int yards) {
        return 10 * carrySeconds(yards);
    }

    /** Of ten throws: how many are IN, come NEXT or lie BESIDE; what cannot come NEXT lies BESIDE. */
    private static int tenthsOf(int kind, int yards, boolean nextIsFull, int how) {
        int in = Math.max(0, Math.min(10, 10 + gripOf(kind) - yards));
        int next = nextIsFull ? 0 : (10 - in) / 3;
        if (how == IN) {
            return in;
        }
        return how == NEXT ? next : 10 - in - next;
    }

    private static int costOf(int kind, int yards, boolean nextIsFull) {
        int in = tenthsOf(kind, yards, nextIsFull, IN);
        int next = tenthsOf(kind, yards, nextIsFull, NEXT);
        int beside = tenthsOf(kind, yards, nextIsFull, BESIDE);
        int ofTenThrows = 600 * next + carryTenths(yards) * beside;
        if (kind == GLASS) {
            ofTenThrows += 90 * (in + next);
        }
        return 10 * THROW_SECONDS + ofTenThrows / 10;
    }

    /** THE PAGE. */
    private static final class Page {
        final int[] codes = new int[MOST_LETTERS];
        int size;

        void add(int code) {
            if (size >= 0 && size < codes.length) {
                codes[size] = code;
                size++;
            }
        }

        int codeAt(int place) {
            return place >= 0 && place < size ? codes[place] : 0;
        }

        int digitAt(int place) {
            return codeAt(place) - '0';
        }

        /** How many HOOKS the letters ahead of ";" tell of; 0 while there is no ";". */
        int hooksTold() {
            for (int place = 0; place < size; place++) {
                if (codeAt(place) == ';') {
                    return (place + 1) / 3;
                }
            }
            return 0;
        }

        boolean isFloor() {
            int hooks = hooksTold();
            return hooks > 0 && size == 4 * hooks && firstWrong() == size;
        }

        int firstWrong() {
            int hooks = 0;
            for (int place = 0; place < size; place++) {
                int code = codeAt(place);
                if (hooks > 0) {
                    if (place >= 4 * hooks || code < '0' || code > '9') {
                        return place;
                    }
                } else if (!canTellOfHooks(place, code)) {
                    return place;
                } else if (code == ';') {
                    hooks = (place + 1) / 3;
                }
            }
            return size;
        }

        /** Whether a FLOOR can have the letter there, no ";" being ahead of it. */
        private static boolean canTellOfHooks(int place, int code) {
            if (place % 3 == 0) {
                return code >= '1' && code <= '8';
            }
            if (place % 3 == 1) {
                return code >= '1' && code <= '9';
            }
            int hooks = (place + 1) / 3;
            return code == ',' ? hooks < MOST_HOOKS : code == ';' && hooks >= LEAST_HOOKS;
        }
    }

    /** THE FLOOR; without HOOKS there is none. */
    private static final class Plan {
        final int[] yards = new int[MOST_HOOKS];
        final int[] room = new int[MOST_HOOKS];
        final int[] often = new int[MOST_HOOKS];
        int hooks;

        void read(Page page) {
            hooks = Math.min(page.hooksTold(), MOST_HOOKS);
            for (int hook = 0; hook < hooks; hook++) {
                yards[hook] = page.digitAt(3 * hook);
                room[hook] = page.digitAt(3 * hook + 1);
                often[hook] = page.digitAt(3 * hooks + hook);
            }
        }

        boolean has(int hookOrTown) {
            return hookOrTown >= 0 && hookOrTown < hooks;
        }

        int oftenOf(int town) {
            return has(town) ? often[town] : 0;
        }
    }

    /** Parcels in the order in which they came: those on the BELT, or those in a sack. */
    private static final class Row {
        final int[] kinds = new int[MOST_ROOM];
        final int[] towns = new int[MOST_ROOM];
        final boolean[] harms = new boolean[MOST_ROOM];
        int size;

        void add(int kind, int town, boolean harm) {
            if (size >= 0 && size < kinds.length) {
                kinds[size] = kind;
                towns[size] = town;
                harms[size] = harm;
                size++;
            }
        }

        int kindAt(int place) {
            return place >= 0 && place < size ? kinds[place] : NONE;
        }

        int townAt(int place) {
            return place >= 0 && place < size ? towns[place] : NONE;
        }

        void dropFirst() {
            for (int place = 1; place < size; place++) {
                kinds[place - 1] = kinds[place];
                towns[place - 1] = towns[place];
                harms[place - 1] = harms[place];
            }
            size = Math.max(0, size - 1);
        }

        int ofKind(int kind) {
            int many = 0;
            for (int place = 0; place < size; place++) {
                if (kinds[place] == kind) {
                    many++;
                }
            }
            return many;
        }

        int notFor(int town) {
            int many = 0;
            for (int place = 0; place < size; place++) {
                if (towns[place] != town) {
                    many++;
                }
            }
            return many;
        }

        /** How many were HARMED by this that had not been before. */
        int harmGlass() {
            int many = 0;
            for (int place = 0; place < size; place++) {
                if (kinds[place] == GLASS && !harms[place]) {
                    harms[place] = true;
                    many++;
                }
            }
            return many;
        }

        void copy(Row other) {
            size = other.size;
            for (int place = 0; place < size; place++) {
                kinds[place] = other.kinds[place];
                towns[place] = other.towns[place];
                harms[place] = other.harms[place];
            }
        }
    }

    /** All that an IMAGE keeps. */
    private static final class Standing {
        final int[] towns = new int[MOST_HOOKS];
        final Row[] sacks = new Row[MOST_HOOKS];
        final Row belt = new Row();
        final int[] foundTowns = new int[MOST_FOUND];
        final int[] foundIn = new int[MOST_FOUND];
        int found;
        int seconds;
        int harmed;

        Standing() {
            for (int hook = 0; hook < MOST_HOOKS; hook++) {
                sacks[hook] = new Row();
            }
        }

        void start() {
            for (int hook = 0; hook < MOST_HOOKS; hook++) {
                towns[hook] = hook;
                sacks[hook].size = 0;
            }
            belt.size = 0;
            found = 0;
            seconds = 0;
            harmed = 0;
        }

        void copy(Standing other) {
            for (int hook = 0; hook < MOST_HOOKS; hook++) {
                towns[hook] = other.towns[hook];
                sacks[hook].copy(other.sacks[hook]);
            }
            belt.copy(other.belt);
            for (int place = 0; place < MOST_FOUND; place++) {
                foundTowns[place] = other.foundTowns[place];
                foundIn[place] = other.foundIn[place];
            }
            found = other.found;
            seconds = other.seconds;
            harmed = other.harmed;
        }

        /** The first on the BELT comes into the sack of a HOOK; GLASS that flew there is HARMED. */
        void putFirst(int hook, boolean flew) {
            if (hook < 0 || hook >= sacks.length) {
                return;
            }
            int kind = belt.kindAt(0);
            boolean harm = flew && kind == GLASS;
            if (kind == TIN) {
                harmed += sacks[hook].harmGlass();
            }
            if (harm) {
                harmed++;
            }
            sacks[hook].add(kind, belt.townAt(0), harm);
            belt.dropFirst();
        }

        void swap(int a, int b) {
            Row sack = sacks[a];
            sacks[a] = sacks[b];
            sacks[b] = sack;
            int town = towns[a];
            towns[a] = towns[b];
            towns[b] = town;
        }

        void addFound(int town, int in) {
            if (found >= 0 && found < MOST_FOUND) {
                foundTowns[found] = town;
                foundIn[found] = in;
                found++;
            }
        }

        int hookOf(int town) {
            for (int hook = 0; hook < MOST_HOOKS; hook++) {
                if (towns[hook] == town) {
                    return hook;
                }
            }
            return NONE;
        }

        int inSacks(int hooks) {
            int many = 0;
            for (int hook = 0; hook < hooks; hook++) {
                many += sacks[hook].size;
            }
            return many;
        }

        int wrongInSacks(int hooks) {
            int many = 0;
            for (int hook = 0; hook < hooks; hook++) {
                many += sacks[hook].notFor(towns[hook]);
            }
            return many;
        }
    }

    /** HANGING: it follows from THE FLOOR alone, but for the EXCHANGES. */
    private static final class Best {
        final int[] towns = new int[MOST_HOOKS];
        /** By HOOK: the less of COST and of CARRYING. */
        final int[] less = new int[MOST_HOOKS];
        /** By the TOWNS (as bits) that hang already, on the first HOOKS: the least that the others add. */
        final int[] rest = new int[1 << MOST_HOOKS];
        int total;

        void seek(Plan plan) {
            for (int hook = 0; hook < plan.hooks; hook++) {
                int yards = plan.yards[hook];
                less[hook] = Math.min(costOf(PARCEL, yards, false), carryTenths(yards));
            }
            int all = (1 << plan.hooks) - 1;
            rest[all] = 0;
            for (int hung = all - 1; hung >= 0; hung--) {
                rest[hung] = withTown(plan, hung, bestTown(plan, hung));
            }
            total = rest[0];
            int hung = 0;
            for (int hook = 0; hook < plan.hooks; hook++) {
                towns[hook] = bestTown(plan, hung);
                hung |= 1 << towns[hook];
            }
        }

        /** Of like ones the lowest TOWN, so that the first HANGING by numbers comes about. */
        private int bestTown(Plan plan, int hung) {
            int best = NONE;
            int least = 0;
            for (int town = 0; town < plan.hooks; town++) {
                if ((hung >> town & 1) == 0) {
                    int sum = withTown(plan, hung, town);
                    if (best == NONE || sum < least) {
                        best = town;
                        least = sum;
                    }
                }
            }
            return best == NONE ? 0 : best;
        }

        private int withTown(Plan plan, int hung, int town) {
            int hook = Integer.bitCount(hung);
            int after = hung | 1 << town;
            if (hook >= plan.hooks || after >= rest.length) {
                return 0;
            }
            return plan.oftenOf(town) * less[hook] + rest[after];
        }

        /** A ring of HOOKS whose sacks trade places takes one EXCHANGE fewer than it has HOOKS. */
        int exchangesFrom(Standing now, int hooks) {
            int rings = 0;
            int seen = 0;
            for (int first = 0; first < hooks; first++) {
                if ((seen >> first & 1) == 0) {
                    rings++;
                }
                int hook = first;
                for (int step = 0; step < hooks && hook != NONE && (seen >> hook & 1) == 0; step++) {
                    seen |= 1 << hook;
                    hook = now.hookOf(towns[hook]);
                }
            }
            return hooks - rings;
        }
    }

    /** HUNG: counted anew only when what is FOUND is another, since each count tries many hangings. */
    private static final class Ways {
        final int[] towns = new int[MOST_HOOKS];
        /** By TOWN: whose sack must have hung NEXT to its own; NONE: any. */
        final int[] beyond = new int[MOST_HOOKS];
        final int[] places = new int[MOST_HOOKS];
        boolean counted;
        int many;

        void seek(Standing now, int hooks) {
            if (counted) {
                return;
            }
            counted = true;
            many = 0;
            Arrays.fill(places, 0);
            if (askAllFound(now)) {
                hangFrom(this, 0, 0, Math.min(hooks, MOST_HOOKS));
            }
        }

        /** No, if two sacks would have to hang at one HOOK. */
        private boolean askAllFound(Standing now) {
            Arrays.fill(beyond, NONE);
            for (int place = 0; place < now.found; place++) {
                int town = now.foundTowns[place];
                int in = now.foundIn[place];
                if (beyondOf(town) != NONE && beyondOf(town) != in) {
                    return false;
                }
                if (town >= 0 && town < beyond.length) {
                    beyond[town] = in;
                }
            }
            return true;
        }

        private int beyondOf(int town) {
            return town >= 0 && town < beyond.length ? beyond[town] : NONE;
        }

        private static void hangFrom(Ways ways, int hook, int hung, int hooks) {
            if (hook >= hooks) {
                ways.keep(hooks);
                return;
            }
            for (int town = 0; town < hooks; town++) {
                if ((hung >> town & 1) == 0 && ways.canHang(town, hook, hooks)) {
                    ways.towns[hook] = town;
                    hangFrom(ways, hook + 1, hung | 1 << town, hooks);
                }
            }
        }

        private boolean canHang(int town, int hook, int hooks) {
            if (hook == 0) {
                return true;
            }
            int before = towns[hook - 1];
            if (beyondOf(before) != NONE && beyondOf(before) != town) {
                return false;
            }
            return hook < hooks - 1 || beyondOf(town) == NONE || beyondOf(town) == before;
        }

        private void keep(int hooks) {
            many++;
            for (int hook = 0; hook < hooks; hook++) {
                int town = towns[hook];
                if (town >= 0 && town < places.length) {
                    places[town] |= 1 << hook;
                }
            }
        }
    }

    /** SHIFTS. */
    private static final class Trial {
        final int[] held = new int[MOST_HOOKS];
        int seed;
        int cameNext;
        int layBeside;

        void run(Plan plan, Standing now, int parcels, int firstSeed) {
            Arrays.fill(held, 0);
            seed = firstSeed;
            cameNext = 0;
            layBeside = 0;
            for (int parcel = 0; parcel < parcels; parcel++) {
                int hook = now.hookOf(draw(plan.hooks));
                int next = nextTo(hook, plan.hooks);
                if (plan.has(hook) && plan.has(next)) {
                    throwAt(plan, hook, next);
                }
            }
        }

        private void throwAt(Plan plan, int hook, int next) {
            if (held[hook] >= plan.room[hook]) {
                held[hook] = 0;
            }
            boolean nextIsFull = held[next] >= plan.room[next];
            int in = tenthsOf(PARCEL, plan.yards[hook], nextIsFull, IN);
            int inOrNext = in + tenthsOf(PARCEL, plan.yards[hook], nextIsFull, NEXT);
            int drawn = draw(10);
            if (drawn >= in && drawn < inOrNext) {
                cameNext++;
                held[next]++;
                return;
            }
            if (drawn >= inOrNext) {
                layBeside++;
            }
            held[hook]++;
        }

        private int draw(int of) {
            seed = (int) ((1103515245L * seed + 12345L) & 0x7fffffffL);
            return of > 0 ? (seed >> 16) % of : 0;
        }
    }
}
