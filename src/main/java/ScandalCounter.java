/** The counter of a county where whoever had a thing said of him may have as bad a thing said of another. */
public final class ScandalCounter {
    private static final int LOW = -1000001;
    private static final int BEYOND = LOW;
    private static final int FULL = LOW - 1;
    private static final int KIND = LOW - 2;
    private static final int NONE = LOW - 3;
    private static final int STATE = LOW - 4;
    private static final int MISSING = LOW - 5;
    private static final int SIZE = LOW - 6;
    private static final int FINDINGS = 7;

    private static final int KINDS = 7;
    private static final int LADY = 1;
    private static final int DUKE = 2;
    private static final int CLERGY = 3;
    private static final int BISHOP = 4;
    private static final int COWMAN = 5;
    private static final int YOUNG = 6;
    /** The KIND that each KIND is under; -1: none. */
    private static final int[] ABOVE = {-1, 0, 0, 2, 3, 0, 1};

    private static final int ATTRIBUTE_KIND = 0;
    private static final int ATTRIBUTE_OWED = 1;
    private static final int ATTRIBUTE_BUILD = 2;
    private static final int ATTRIBUTE_BORNE = 3;
    private static final int ATTRIBUTE_TOLD = 4;

    private static final int MOST_PEOPLE = 8;
    private static final int PLACES = 6;
    private static final int MOST_WEIGHT = 20;
    private static final int MOST_BUILD = 99;
    private static final int FIRST_BUILD = 20;
    private static final int MOST_OWED = 9999;
    private static final int MOST_HINTS = 99999;
    private static final int MOST_DAY = 99999;
    // How many days (or, of gossip, draws) a call takes at most.
    private static final int MOST_GONE = 60;
    private static final int MOST_FORESEEN = 100;
    private static final int MOST_AWAITED = 200;
    private static final int MOST_TRIED = 40;
    private static final int MOST_REFUSED = 20;
    private static final int MOST_DRAWN = 20;

    private static final int SPOTS = 10;
    private static final int SHEETS = 4;
    private static final int MOST_NUMBERS = 40;
    private static final int TAPE_BYTES = 120;
    private static final int NOBODY = -1;
    private static final int ANY = -1;

    private final County county;
    private final County kept;
    /** What is tried out is tried here, so that no call has to make a county of its own. */
    private final County trial;
    private final Reader reader;
    private final Sheet[] sheets;
    private final int[] findings;
    private boolean isKept;

    public ScandalCounter() {
        county = new County();
        kept = new County();
        trial = new County();
        reader = new Reader();
        sheets = new Sheet[SHEETS];
        for (int s = 0; s < SHEETS; s++) {
            sheets[s] = new Sheet();
        }
        findings = new int[FINDINGS];
    }

    // ---- list, people

    public int say(int i, int whom, int weight) {
        if (!within(i, 0, PLACES - 1) || !within(whom, 0, MOST_PEOPLE - 1) || !within(weight, 0, MOST_WEIGHT)) {
            return found(BEYOND);
        }
        int was = county.list[i];
        county.list[i] = saying(whom, weight);
        return was;
    }

    public int said(int i) {
        return within(i, 0, PLACES - 1) ? county.list[i] : found(BEYOND);
    }

    public int person(int kind, int build) {
        if (!within(kind, 0, KINDS - 1) || !within(build, 0, MOST_BUILD)) {
            return found(BEYOND);
        }
        if (county.size >= MOST_PEOPLE) {
            return found(FULL);
        }
        return county.add(kind, build);
    }

    public int of(int person, int what) {
        if (!county.has(person) || !within(what, 0, 7)) {
            return found(BEYOND);
        }
        Person one = county.people[person];
        switch (what) {
            case 5: return one.asking(county.day);
            case 6: return one.room();
            case 7: return one.forgetting();
            default: return one.attribute(what);
        }
    }

    public int change(int person, int what, int v) {
        if (!county.has(person) || !within(what, ATTRIBUTE_KIND, ATTRIBUTE_TOLD) || !within(v, 0, mostOf(what))) {
            return found(BEYOND);
        }
        Person one = county.people[person];
        int was = one.attribute(what);
        one.setAttribute(what, v);
        return was;
    }

    public int feels(int person, int weight) {
        if (!county.has(person) || !within(weight, 0, MOST_WEIGHT)) {
            return found(BEYOND);
        }
        return county.people[person].feeling(weight);
    }

    public int bearer(int person, int weight) {
        if (!county.has(person) || !within(weight, 1, MOST_WEIGHT)) {
            return found(BEYOND);
        }
        int other = county.roomiestBut(person);
        return county.bears(other, weight) ? other : found(NONE);
    }

    // ---- days

    public int go(int n) {
        if (!within(n, 1, MOST_GONE)) {
            return found(BEYOND);
        }
        if (county.day + n > MOST_DAY) {
            return found(STATE);
        }
        county.passDays(n);
        return county.sumOf(ATTRIBUTE_OWED);
    }

    public int now(int what) {
        switch (what) {
            case 0: return county.day;
            case 1: return county.sumOf(ATTRIBUTE_OWED);
            case 2: return county.sumOf(ATTRIBUTE_BORNE);
            case 3: return county.hints;
            case 4: return county.owedSet();
            case 5: return county.roomiestBut(NOBODY);
            case 6: return county.sumOf(ATTRIBUTE_TOLD);
            case 7: return county.isEven() ? 1 : 0;
            default: return found(BEYOND);
        }
    }

    // ---- what will be (nothing changes)

    public int ahead(int person, int what, int n) {
        boolean isTold = what == ATTRIBUTE_OWED || what == ATTRIBUTE_BORNE || what == ATTRIBUTE_TOLD;
        if (!county.has(person) || !isTold || !within(n, 0, MOST_FORESEEN)) {
            return found(BEYOND);
        }
        trial.become(county);
        trial.passDays(n);
        return trial.people[person].attribute(what);
    }

    public int hints(int n) {
        if (!within(n, 0, MOST_FORESEEN)) {
            return found(BEYOND);
        }
        trial.become(county);
        trial.passDays(n);
        return trial.hints;
    }

    public int even() {
        trial.become(county);
        for (int days = 0; days <= MOST_AWAITED; days++) {
            if (trial.isEven()) {
                return days;
            }
            trial.passDay();
        }
        return found(NONE);
    }

    public int when(int person, int v) {
        if (!county.has(person) || !within(v, 0, MOST_OWED)) {
            return found(BEYOND);
        }
        return daysToBorne(person, v, MOST_OWED);
    }

    public int clean(int person) {
        return county.has(person) ? daysToBorne(person, 0, 0) : found(BEYOND);
    }

    private int daysToBorne(int person, int least, int most) {
        trial.become(county);
        for (int days = 0; days <= MOST_AWAITED; days++) {
            if (within(trial.people[person].borne, least, most)) {
                return days;
            }
            trial.passDay();
        }
        return found(NONE);
    }

    // ---- whom, how

    public int whom(int n) {
        if (!within(n, 0, MOST_TRIED)) {
            return found(BEYOND);
        }
        int best = NOBODY;
        int least = MOST_PEOPLE * MOST_OWED + 1;
        for (int i = 0; i < county.size; i++) {
            trial.become(county);
            trial.setNext(i, county.nextWeight());
            trial.passDays(n);
            int owed = trial.sumOf(ATTRIBUTE_OWED);
            if (owed < least) {
                least = owed;
                best = i;
            }
        }
        return best == NOBODY ? found(NONE) : best;
    }

    public int weightFor(int n) {
        if (!within(n, 1, MOST_TRIED)) {
            return found(BEYOND);
        }
        for (int weight = MOST_WEIGHT; weight >= 0; weight--) {
            trial.become(county);
            trial.setNext(county.nextWhom(), weight);
            if (trial.isEvenWithin(n)) {
                return weight;
            }
        }
        return found(NONE);
    }

    public int buildFor(int person, int n) {
        if (!county.has(person) || !within(n, 0, MOST_TRIED)) {
            return found(BEYOND);
        }
        for (int build = 0; build <= MOST_BUILD; build++) {
            trial.become(county);
            trial.people[person].build = build;
            if (trial.keepsHints(n)) {
                return build;
            }
        }
        return found(NONE);
    }

    public int kindFor(int person, int n) {
        if (!county.has(person) || !within(n, 0, MOST_TRIED)) {
            return found(BEYOND);
        }
        int best = 0;
        int least = MOST_OWED + 1;
        for (int kind = 0; kind < KINDS; kind++) {
            trial.become(county);
            trial.people[person].kind = kind;
            trial.passDays(n);
            int borne = trial.people[person].borne;
            if (borne < least) {
                least = borne;
                best = kind;
            }
        }
        return best;
    }

    public int refuse(int person, int v, int n) {
        if (!county.has(person) || !within(v, 0, MOST_OWED) || !within(n, 0, MOST_REFUSED)) {
            return found(BEYOND);
        }
        for (int members = 0; members < county.size; members++) {
            for (int set = 0; set < 1 << county.size; set++) {
                if (Integer.bitCount(set) == members && !isIn(set, person) && borneWithout(set, person, n) <= v) {
                    return set;
                }
            }
        }
        return found(NONE);
    }

    private int borneWithout(int silent, int person, int n) {
        trial.become(county);
        trial.silent = silent;
        trial.passDays(n);
        return trial.people[person].borne;
    }

    public int swapFor(int n) {
        if (!within(n, 0, MOST_TRIED)) {
            return found(BEYOND);
        }
        int best = NOBODY;
        int fewest = MOST_HINTS + 1;
        for (int a = 0; a < county.size; a++) {
            for (int b = a + 1; b < county.size; b++) {
                int left = hintsWithSwapped(a, b, n);
                if (left < fewest) {
                    fewest = left;
                    best = MOST_PEOPLE * a + b;
                }
            }
        }
        return best == NOBODY ? found(NONE) : best;
    }

    private int hintsWithSwapped(int a, int b, int n) {
        trial.become(county);
        trial.people[a].build = county.people[b].build;
        trial.people[b].build = county.people[a].build;
        trial.passDays(n);
        return trial.hints;
    }

    // ---- what was borne

    public int fits(int s, int person) {
        int finding = sheetAndPersonFinding(s, person);
        if (finding < 0) {
            return found(finding);
        }
        int fitting = 0;
        for (int weight = 0; weight <= MOST_WEIGHT; weight++) {
            if (isWeightAsTold(sheets[s], person, weight)) {
                fitting++;
            }
        }
        return fitting;
    }

    public int weighed(int s, int person) {
        int finding = sheetAndPersonFinding(s, person);
        if (finding < 0) {
            return found(finding);
        }
        for (int weight = 0; weight <= MOST_WEIGHT; weight++) {
            if (isWeightAsTold(sheets[s], person, weight)) {
                return weight;
            }
        }
        return found(NONE);
    }

    public int kinds(int s, int person) {
        int finding = sheetAndPersonFinding(s, person);
        if (finding < 0) {
            return found(finding);
        }
        int set = 0;
        for (int kind = 0; kind < KINDS; kind++) {
            trial.become(county);
            trial.people[person].kind = kind;
            if (isTrialAsTold(sheets[s], person, ATTRIBUTE_OWED)) {
                set |= 1 << kind;
            }
        }
        return set;
    }

    private boolean isWeightAsTold(Sheet told, int person, int weight) {
        trial.become(county);
        trial.setNext(county.nextWhom(), weight);
        return isTrialAsTold(told, person, ATTRIBUTE_BORNE);
    }

    private boolean isTrialAsTold(Sheet told, int person, int what) {
        for (int i = 0; i < told.size; i++) {
            if (i > 0) {
                trial.passDay();
            }
            int v = told.numbers[i];
            if (v != ANY && v != trial.people[person].attribute(what)) {
                return false;
            }
        }
        return true;
    }

    private int sheetAndPersonFinding(int s, int person) {
        int finding = sheetFinding(s);
        if (finding < 0) {
            return finding;
        }
        return county.has(person) ? 0 : BEYOND;
    }

    // ---- gossip

    public int gossip(int n) {
        if (!within(n, 1, MOST_DRAWN)) {
            return found(BEYOND);
        }
        if (county.day + n > MOST_DAY) {
            return found(STATE);
        }
        for (int i = 0; i < n; i++) {
            int whom = county.draw() % MOST_PEOPLE;
            int weight = county.draw() % (MOST_WEIGHT + 1);
            county.setNext(whom, weight);
            county.passDay();
        }
        return county.sumOf(ATTRIBUTE_OWED);
    }

    public long odds(int n, int what) {
        if (!within(n, 0, MOST_DRAWN) || !within(what, 0, 1)) {
            return found(BEYOND);
        }
        int above = county.withRoom();
        int below = MOST_PEOPLE;
        for (int step = 0; step < 3 && above % 2 == 0; step++) {
            above /= 2;
            below /= 2;
        }
        return power(what == 0 ? above : below, n);
    }

    public int seed(int v) {
        int was = county.z;
        county.z = v;
        return was;
    }

    // ---- texts

    public int feed(int bytes, int n) {
        if (!within(n, 1, 4)) {
            return found(BEYOND);
        }
        if (reader.size + n > TAPE_BYTES) {
            return found(FULL);
        }
        for (int i = n - 1; i >= 0; i--) {
            reader.append(bytes >>> (8 * i) & 255);
        }
        return reader.size;
    }

    public int wipe() {
        int had = reader.size;
        reader.size = 0;
        return had;
    }

    public int text() {
        trial.become(county);
        int answer = reader.readInto(trial);
        if (answer >= 0) {
            county.become(trial);
        }
        reader.size = 0;
        return answer;
    }

    // ---- spots, sheets

    public int hold(int spot, int person) {
        if (!within(spot, 0, SPOTS - 1) || person != NOBODY && !county.has(person)) {
            return found(BEYOND);
        }
        county.spots[spot] = person;
        return 1;
    }

    public int as(int spot, int kind) {
        if (!within(spot, 0, SPOTS - 1) || !within(kind, 0, KINDS - 1)) {
            return found(BEYOND);
        }
        int held = county.spots[spot];
        if (!county.has(held)) {
            return found(MISSING);
        }
        return county.people[held].isOfKind(kind) ? held : found(KIND);
    }

    public int sheet(int s, int bits, int n) {
        if (!within(s, 0, SHEETS - 1) || bits != 0 && bits != 8 && bits != 16 && bits != 32) {
            return found(BEYOND);
        }
        if (n < 0) {
            return found(SIZE);
        }
        if (n > MOST_NUMBERS) {
            return found(BEYOND);
        }
        sheets[s].lay(bits, bits == 0 ? 0 : n);
        return sheets[s].size;
    }

    public int write(int s, int i, int v) {
        int finding = sheetFinding(s);
        if (finding < 0) {
            return found(finding);
        }
        if (!within(i, 0, sheets[s].size - 1)) {
            return found(BEYOND);
        }
        sheets[s].put(i, v);
        return 1;
    }

    public int copy(int s, int from, int t, int to, int n) {
        if (!within(s, 0, SHEETS - 1) || !within(t, 0, SHEETS - 1)) {
            return found(BEYOND);
        }
        Sheet source = sheets[s];
        Sheet target = sheets[t];
        if (source.isMissing() || target.isMissing()) {
            return found(MISSING);
        }
        if (source.bits != target.bits) {
            return found(KIND);
        }
        if (!source.hasRange(from, n) || !target.hasRange(to, n)) {
            return found(BEYOND);
        }
        System.arraycopy(source.numbers, from, target.numbers, to, n);
        return n;
    }

    public int load(int s) {
        int finding = sheetFinding(s);
        if (finding < 0) {
            return found(finding);
        }
        Sheet source = sheets[s];
        for (int i = 0; i < source.size; i++) {
            if (i >= PLACES || !isSaying(source.numbers[i])) {
                return i;
            }
            county.list[i] = source.numbers[i];
        }
        return source.size;
    }

    public int judge(int s) {
        int finding = sheetFinding(s);
        if (finding < 0) {
            return found(finding);
        }
        Sheet claim = sheets[s];
        for (int i = 0; i < claim.size; i++) {
            if (!county.has(i) || county.people[i].owed != claim.numbers[i]) {
                return 1 + i;
            }
        }
        return 0;
    }

    private int sheetFinding(int s) {
        if (!within(s, 0, SHEETS - 1)) {
            return BEYOND;
        }
        return sheets[s].isMissing() ? MISSING : 0;
    }

    // ---- images

    public int image() {
        kept.become(county);
        isKept = true;
        return 1;
    }

    public int undo() {
        if (!isKept) {
            return found(NONE);
        }
        county.become(kept);
        return county.day;
    }

    public int tear() {
        int was = isKept ? 1 : 0;
        isKept = false;
        return was;
    }

    public int count(int what) {
        switch (what) {
            case 0: return county.day;
            case 1: return county.size;
            case 2: return county.sumOf(ATTRIBUTE_OWED);
            case 3: return county.sumOf(ATTRIBUTE_BORNE);
            case 4: return county.hints;
            case 5: return reader.size;
            case 6: return county.z;
            case 7: return county.spotsInUse();
            default: return found(BEYOND);
        }
    }

    public int status(int which) {
        if (within(which, 0, FINDINGS - 1)) {
            return findings[which];
        }
        if (which != -1) {
            return found(BEYOND);
        }
        int all = 0;
        for (int i = 0; i < FINDINGS; i++) {
            all += findings[i];
        }
        return all;
    }

    private int found(int finding) {
        int which = LOW - finding;
        if (within(which, 0, FINDINGS - 1)) {
            findings[which]++;
        }
        return finding;
    }

    private static boolean within(int v, int least, int most) {
        return v >= least && v <= most;
    }

    private static boolean isIn(int set, int member) {
        return (set >> member & 1) == 1;
    }

    private static int saying(int whom, int weight) {
        return 100 * whom + weight;
    }

    private static boolean isSaying(int v) {
        return within(v, 0, saying(MOST_PEOPLE - 1, MOST_WEIGHT)) && v % 100 <= MOST_WEIGHT;
    }

    private static int mostOf(int what) {
        switch (what) {
            case ATTRIBUTE_KIND: return KINDS - 1;
            case ATTRIBUTE_BUILD: return MOST_BUILD;
            default: return MOST_OWED;
        }
    }

    private static long power(int base, int n) {
        long product = 1;
        for (int i = 0; i < n; i++) {
            product *= base;
        }
        return product;
    }

    /** One of PEOPLE. */
    private static final class Person {
        int kind;
        int owed;
        int build;
        int borne;
        int told;

        void begin(int newKind, int newBuild) {
            kind = newKind;
            owed = 0;
            build = newBuild;
            borne = 0;
            told = 0;
        }

        void become(Person other) {
            kind = other.kind;
            owed = other.owed;
            build = other.build;
            borne = other.borne;
            told = other.told;
        }

        int attribute(int what) {
            switch (what) {
                case ATTRIBUTE_KIND: return kind;
                case ATTRIBUTE_OWED: return owed;
                case ATTRIBUTE_BUILD: return build;
                case ATTRIBUTE_BORNE: return borne;
                default: return told;
            }
        }

        void setAttribute(int what, int v) {
            switch (what) {
                case ATTRIBUTE_KIND: kind = v; break;
                case ATTRIBUTE_OWED: owed = v; break;
                case ATTRIBUTE_BUILD: build = v; break;
                case ATTRIBUTE_BORNE: borne = v; break;
                default: told = v; break;
            }
        }

        int feeling(int weight) {
            switch (kind) {
                case LADY: return 2 * weight;
                case YOUNG: return Math.max(0, 2 * weight - 3);
                case DUKE: return weight / 2;
                case CLERGY: return weight / 2 + 1;
                case BISHOP: return weight / 2 + 1 + borne / 10;
                case COWMAN: return weight < 5 ? 0 : weight;
                default: return weight;
            }
        }

        int asking(int day) {
            return Math.min(mostAsked(day), owed);
        }

        private int mostAsked(int day) {
            switch (kind) {
                case LADY: return 5;
                case YOUNG: return 15;
                case DUKE: return 20;
                case CLERGY: return 0;
                case BISHOP: return day % 7 == 6 ? 3 : 0;
                default: return 10;
            }
        }

        int room() {
            int plain = Math.max(0, build - borne);
            switch (kind) {
                case LADY: return plain / 2;
                case YOUNG: return plain / 2 + 5;
                case CLERGY:
                case BISHOP: return plain + build;
                case COWMAN: return borne == 0 ? 99 : plain;
                default: return plain;
            }
        }

        int forgetting() {
            switch (kind) {
                case LADY: return 0;
                case DUKE:
                case CLERGY: return 3;
                case BISHOP: return 6;
                default: return 1;
            }
        }

        boolean isOfKind(int asked) {
            int own = kind;
            for (int step = 0; step < KINDS && within(own, 0, KINDS - 1); step++) {
                if (own == asked) {
                    return true;
                }
                own = ABOVE[own];
            }
            return false;
        }

        void suffer(int felt, int weight) {
            owed = Math.min(MOST_OWED, owed + felt);
            borne = Math.min(MOST_OWED, borne + weight);
        }

        void forget() {
            borne = Math.max(0, borne - forgetting());
        }
    }

    /** All that an image keeps. */
    private static final class County {
        final int[] list;
        final Person[] people;
        final int[] spots;
        int size;
        int hints;
        int day;
        int z;
        /** Those who ASK nothing, as a set: only a trial has any. */
        int silent;

        County() {
            list = new int[PLACES];
            people = new Person[MOST_PEOPLE];
            for (int i = 0; i < MOST_PEOPLE; i++) {
                people[i] = new Person();
            }
            spots = new int[SPOTS];
            for (int i = 0; i < SPOTS; i++) {
                spots[i] = NOBODY;
            }
            z = 1;
        }

        void become(County other) {
            System.arraycopy(other.list, 0, list, 0, PLACES);
            System.arraycopy(other.spots, 0, spots, 0, SPOTS);
            for (int i = 0; i < other.size; i++) {
                people[i].become(other.people[i]);
            }
            size = other.size;
            hints = other.hints;
            day = other.day;
            z = other.z;
            silent = other.silent;
        }

        boolean has(int number) {
            return number >= 0 && number < size;
        }

        /** The number of the new one; NOBODY if there is no place for one. */
        int add(int kind, int build) {
            if (size >= MOST_PEOPLE) {
                return NOBODY;
            }
            people[size].begin(kind, build);
            size++;
            return size - 1;
        }

        int sumOf(int what) {
            int sum = 0;
            for (int i = 0; i < size; i++) {
                sum += people[i].attribute(what);
            }
            return sum;
        }

        int owedSet() {
            int set = 0;
            for (int i = 0; i < size; i++) {
                if (people[i].owed > 0) {
                    set |= 1 << i;
                }
            }
            return set;
        }

        boolean isEven() {
            return owedSet() == 0;
        }

        int withRoom() {
            int having = 0;
            for (int i = 0; i < size; i++) {
                if (people[i].room() > 0) {
                    having++;
                }
            }
            return having;
        }

        int spotsInUse() {
            int used = 0;
            for (int i = 0; i < SPOTS; i++) {
                if (spots[i] != NOBODY) {
                    used++;
                }
            }
            return used;
        }

        int roomiestBut(int asker) {
            int best = NOBODY;
            int most = -1;
            for (int i = 0; i < size; i++) {
                int room = i == asker ? -1 : people[i].room();
                if (room > most) {
                    most = room;
                    best = i;
                }
            }
            return best;
        }

        boolean bears(int other, int weight) {
            return has(other) && people[other].room() >= weight;
        }

        int nextWhom() {
            return list[day % PLACES] / 100;
        }

        int nextWeight() {
            return list[day % PLACES] % 100;
        }

        void setNext(int whom, int weight) {
            list[day % PLACES] = saying(whom, weight);
        }

        int draw() {
            z = z * 1103515245 + 12345;
            return z >>> 8;
        }

        void passDays(int n) {
            for (int i = 0; i < n; i++) {
                passDay();
            }
        }

        boolean isEvenWithin(int n) {
            for (int i = 0; i < n; i++) {
                passDay();
                if (isEven()) {
                    return true;
                }
            }
            return false;
        }

        boolean keepsHints(int n) {
            int before = hints;
            for (int i = 0; i < n && hints == before; i++) {
                passDay();
            }
            return hints == before;
        }

        void passDay() {
            tellSaying();
            for (int i = 0; i < size; i++) {
                if (!isIn(silent, i)) {
                    serve(i);
                }
            }
            for (int i = 0; i < size; i++) {
                people[i].forget();
            }
            day = Math.min(MOST_DAY, day + 1);
        }

        private void tellSaying() {
            int whom = nextWhom();
            int weight = nextWeight();
            if (has(whom) && weight > 0) {
                people[whom].suffer(people[whom].feeling(weight), weight);
            }
        }

        private void serve(int asker) {
            Person one = people[asker];
            int weight = one.asking(day);
            if (weight <= 0) {
                return;
            }
            int other = roomiestBut(asker);
            if (bears(other, weight)) {
                one.owed -= weight;
                one.told = Math.min(MOST_OWED, one.told + 1);
                people[other].suffer(people[other].feeling(weight) / 2, weight);
            } else {
                one.owed--;
                hints = Math.min(MOST_HINTS, hints + 1);
            }
        }
    }

    /** A row of numbers of as many bits each; of 0 bits it is MISSING. */
    private static final class Sheet {
        final int[] numbers;
        int bits;
        int size;

        Sheet() {
            numbers = new int[MOST_NUMBERS];
        }

        boolean isMissing() {
            return bits == 0;
        }

        void lay(int newBits, int newSize) {
            bits = newBits;
            size = newSize;
            for (int i = 0; i < MOST_NUMBERS; i++) {
                numbers[i] = 0;
            }
        }

        void put(int i, int v) {
            int unused = 32 - bits;
            numbers[i] = v << unused >> unused;
        }

        boolean hasRange(int from, int n) {
            // Not from + n: that sum may wrap around.
            return from >= 0 && n >= 0 && n <= size && from <= size - n;
        }
    }

    /** THE TAPE, and how a TEXT is read from it. */
    private static final class Reader {
        private static final int END = 0;
        private static final int WORD = 1;
        private static final int NUMBER = 2;
        private static final int SIGN = 3;
        private static final int STRANGE = 4;
        private static final int MOST_NUMBER = 9999;
        private static final int FAULTY = -1;

        final int[] tape;
        int size;
        /** The token at hand: what it is, its first byte, and the byte behind it. */
        private int token;
        private int begin;
        private int behind;
        private int value;

        Reader() {
            tape = new int[TAPE_BYTES];
        }

        void append(int oneByte) {
            if (size < TAPE_BYTES) {
                tape[size] = oneByte;
                size++;
            }
        }

        /** How many ITEMS came into the county, or -1 less the FAULT (the county is then half changed). */
        int readInto(County county) {
            behind = 0;
            step();
            for (int items = 1; items <= TAPE_BYTES; items++) {
                if (!readItem(county)) {
                    break;
                }
                if (token == END) {
                    return items;
                }
                if (token != SIGN) {
                    break;
                }
                step();
            }
            return -1 - begin;
        }

        private boolean readItem(County county) {
            if (isWord("said")) {
                step();
                return readSaying(county);
            }
            if (isWord("hints")) {
                step();
                return readHints(county);
            }
            return readPerson(county);
        }

        private boolean readSaying(County county) {
            int place = readNumber(PLACES - 1);
            if (place == FAULTY) {
                return false;
            }
            int whom = readNumber(MOST_PEOPLE - 1);
            if (whom == FAULTY) {
                return false;
            }
            int weight = readNumber(MOST_WEIGHT);
            if (weight == FAULTY) {
                return false;
            }
            county.list[place] = saying(whom, weight);
            return true;
        }

        private boolean readHints(County county) {
            int hints = readNumber(MOST_NUMBER);
            if (hints == FAULTY) {
                return false;
            }
            county.hints = hints;
            return true;
        }

        private boolean readPerson(County county) {
            int kind = kindOfWord();
            int number = kind == FAULTY ? NOBODY : county.add(kind, FIRST_BUILD);
            if (!county.has(number)) {
                return false;
            }
            step();
            Person one = county.people[number];
            return readAttribute("build", one, ATTRIBUTE_BUILD)
                    && readAttribute("owed", one, ATTRIBUTE_OWED)
                    && readAttribute("bore", one, ATTRIBUTE_BORNE);
        }

        /** False with a FAULT alone: the attribute may be left out. */
        private boolean readAttribute(String word, Person one, int what) {
            if (!isWord(word)) {
                return true;
            }
            step();
            int v = readNumber(mostOf(what));
            if (v == FAULTY) {
                return false;
            }
            one.setAttribute(what, v);
            return true;
        }

        private int readNumber(int most) {
            if (token != NUMBER || value > most) {
                return FAULTY;
            }
            int v = value;
            step();
            return v;
        }

        private int kindOfWord() {
            if (isWord("person")) return 0;
            if (isWord("lady")) return LADY;
            if (isWord("duke")) return DUKE;
            if (isWord("clergy")) return CLERGY;
            if (isWord("bishop")) return BISHOP;
            if (isWord("cowman")) return COWMAN;
            if (isWord("young")) return YOUNG;
            return FAULTY;
        }

        private boolean isWord(String word) {
            if (token != WORD || behind - begin != word.length()) {
                return false;
            }
            for (int i = 0; i < word.length(); i++) {
                if (tape[begin + i] != word.charAt(i)) {
                    return false;
                }
            }
            return true;
        }

        private void step() {
            while (behind < size && tape[behind] == ' ') {
                behind++;
            }
            begin = behind;
            if (begin >= size) {
                token = END;
            } else if (isLetter(tape[begin])) {
                token = WORD;
                while (behind < size && isLetter(tape[behind])) {
                    behind++;
                }
            } else if (isDigit(tape[begin])) {
                token = NUMBER;
                value = 0;
                while (behind < size && isDigit(tape[behind])) {
                    // One above the most is enough to know that it is too great, and can't wrap around.
                    value = Math.min(MOST_NUMBER + 1, 10 * value + tape[behind] - '0');
                    behind++;
                }
            } else {
                token = tape[begin] == ';' ? SIGN : STRANGE;
                behind++;
            }
        }

        private static boolean isLetter(int c) {
            return c >= 'a' && c <= 'z';
        }

        private static boolean isDigit(int c) {
            return c >= '0' && c <= '9';
        }
    }
}
