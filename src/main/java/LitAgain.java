/** People with candles who walk to a door in wind: ../shared/DOC.md says what each call answers. */
public final class LitAgain {
    private static final int NOBODY = -1;
    private static final int OTHER = -2;
    private static final int STATE = -3;
    private static final int BELOW = -4;
    private static final int ROOM = -6;
    private static final int NONE = -9;
    private static final long LONG_REFUSALS = 4000000000000000000L;

    private static final int MOST_PEOPLE = 8;
    private static final int MOST_FIGURE = 9;
    private static final int LAST_PLACE = 24;
    private static final int LAST_MINUTE = 999;
    private static final int LAST_LETTER = 255;
    private static final int MOST_LETTERS = 96;
    private static final int MOST_FORCE = 9;
    private static final int MOST_SIDE = 2;
    private static final int MOST_FORM = 2;
    private static final int MOST_EACH = 2;
    private static final int MOST_IN_ROW = 12;
    private static final int MOST_NUMBER = 99;
    private static final int MOST_ORDERED = 6;
    private static final int MOST_BY_CHANCE = 4;
    private static final int MOST_CHANCE_MINUTES = 3;
    private static final int MOST_NIGHTS = 20;
    private static final int MOST_CALM_MINUTES = 60;
    private static final int MOST_MATCHES = 3;
    private static final int LAST_RULE = 4;

    private static final int WALKER = 0;
    private static final int HOODED = 1;
    private static final int LOW = 2;
    private static final int LANTERN = 3;
    private static final int TALL = 4;
    private static final int NUN = 5;
    private static final int SMALL = 6;

    private static final int RING = 1;
    private static final int PAIRS = 2;
    private static final int FROM_FRONT = 0;
    private static final int ACROSS = 2;

    private static final int[] COVER = {1, 1, 0, 1, 3, 1, 0};
    private static final int[] GIVES = {2, 1, 1, 3, 3, 1, 1};

    private final Company now;
    private final Company pictured;
    private boolean hasPicture;
    private final Walk walk;
    private final Past past;
    private final Letters letters;
    private final Row numbers;
    private final Mind mind;
    private final Plans plans;
    private final Changes changes;
    private final Chances odds;
    private final int[] refused;

    public LitAgain() {
        now = new Company();
        pictured = new Company();
        Company trial = new Company();
        walk = new Walk();
        past = new Past();
        letters = new Letters(trial, walk);
        numbers = new Row();
        mind = new Mind(now, walk);
        plans = new Plans(now, walk);
        changes = new Changes(now, trial, walk);
        odds = new Chances(walk);
        refused = new int[1 - ROOM];
    }

    public int feed(int letter) {
        if (letter < 0) {
            return refuse(BELOW);
        }
        if (letter > LAST_LETTER || letters.isFull()) {
            return refuse(ROOM);
        }
        return letters.append(letter);
    }

    public int road() {
        int answer = letters.textFault();
        if (answer == 0) {
            answer = letters.comeTo(now);
        }
        if (answer >= 0) {
            past.forget();
        }
        letters.size = 0;
        return answer;
    }

    public int person(int person, int what) {
        if (!now.hasOne(person)) {
            return refuse(NOBODY);
        }
        if (isOutside(what, 6)) {
            return refuse(OTHER);
        }
        return now.tellOf(person, what);
    }

    public int light(int person, int lit) {
        if (!now.hasOne(person)) {
            return refuse(NOBODY);
        }
        if (isOutside(lit, 1)) {
            return refuse(OTHER);
        }
        if (lit == 1 && now.isSmall(person)) {
            return refuse(STATE);
        }
        int was = now.isLit(person) ? 1 : 0;
        now.putLit(person, lit == 1);
        past.forget();
        return was;
    }

    public int kind(int person, int kind, int figure) {
        if (!now.hasOne(person)) {
            return refuse(NOBODY);
        }
        if (isOutside(kind, SMALL)) {
            return refuse(OTHER);
        }
        if (figure < 0) {
            return refuse(BELOW);
        }
        if (figure > MOST_FIGURE) {
            return refuse(ROOM);
        }
        int was = 10 * now.kinds[person] + now.figures[person];
        now.figures[person] = figure;
        now.become(person, kind);
        past.forget();
        return was;
    }

    public int wind(int place, int what) {
        if (isOutside(place, LAST_PLACE)) {
            return refuse(NOBODY);
        }
        if (isOutside(what, 1)) {
            return refuse(OTHER);
        }
        return what == 0 ? now.forces[place] : now.sides[place];
    }

    public int blows(int place, int force, int side) {
        if (isOutside(place, LAST_PLACE)) {
            return refuse(NOBODY);
        }
        if (force < 0 || side < 0) {
            return refuse(BELOW);
        }
        if (force > MOST_FORCE || side > MOST_SIDE) {
            return refuse(ROOM);
        }
        int was = 10 * now.forces[place] + now.sides[place];
        now.forces[place] = force;
        now.sides[place] = side;
        past.forget();
        return was;
    }

    public int set(int what, int v) {
        if (isOutside(what, 2)) {
            return refuse(OTHER);
        }
        if (v < leastOf(what)) {
            return refuse(BELOW);
        }
        if (v > mostOf(what)) {
            return refuse(ROOM);
        }
        if (what == 2 && v < now.place) {
            return refuse(STATE);
        }
        past.forget();
        return change(what, v);
    }

    public int beside(int person) {
        return now.hasOne(person) ? now.nearOnes(person) : refuse(NOBODY);
    }

    public int covers(int person, int place) {
        if (!now.hasOne(person) || isOutside(place, LAST_PLACE)) {
            return refuse(NOBODY);
        }
        return now.coverer(person, now.sides[place]);
    }

    public int go(int stop) {
        if (isOutside(stop, 1)) {
            return refuse(OTHER);
        }
        if (now.isAtDoor()) {
            return refuse(STATE);
        }
        if (now.minute >= LAST_MINUTE) {
            return refuse(ROOM);
        }
        past.keep(now);
        walk.passMinute(now, stop == 1);
        return Integer.bitCount(now.lit);
    }

    public int lit() {
        return now.lit;
    }

    public int then(int n) {
        if (n < 0) {
            return refuse(BELOW);
        }
        if (n > LAST_PLACE) {
            return refuse(ROOM);
        }
        return mind.litBehind(n);
    }

    public int door(int what) {
        if (isOutside(what, 2)) {
            return refuse(OTHER);
        }
        int there = mind.litBehind(LAST_PLACE);
        if (what == 0) {
            return there;
        }
        return what == 1 ? Integer.bitCount(there) : now.lightOf(there);
    }

    public int dark(int what) {
        if (isOutside(what, 1)) {
            return refuse(OTHER);
        }
        return what == 0 ? mind.firstDark() : mind.longestDark();
    }

    public int darkFor(int person) {
        return now.hasOne(person) ? mind.darkMinutes(person) : refuse(NOBODY);
    }

    public int litBy(int person, int n) {
        if (!now.hasOne(person)) {
            return refuse(NOBODY);
        }
        if (n < 0) {
            return refuse(BELOW);
        }
        if (n > LAST_PLACE) {
            return refuse(ROOM);
        }
        return mind.lastLighter(person, n);
    }

    public int stop() {
        return plans.bestStop();
    }

    public int lower() {
        return changes.lowered();
    }

    public int changed() {
        return changes.exchanged();
    }

    public int order(int what) {
        if (isOutside(what, 1)) {
            return refuse(OTHER);
        }
        if (now.people == 0 || now.people > MOST_ORDERED) {
            return refuse(STATE);
        }
        changes.findOrder();
        return what == 0 ? changes.found : changes.most;
    }

    public int lantern(int what) {
        if (isOutside(what, 1)) {
            return refuse(OTHER);
        }
        if (now.people == 0) {
            return refuse(STATE);
        }
        changes.findLantern();
        return what == 0 ? changes.found : changes.most;
    }

    public int fewest(int what) {
        if (isOutside(what, 1)) {
            return refuse(OTHER);
        }
        return numberOrSet(what, changes.fewestLanterns());
    }

    public int match() {
        return plans.bestMatch();
    }

    public int tail() {
        return now.people == 0 ? refuse(STATE) : changes.leftBehind();
    }

    public int rule(int rule, int what) {
        if (isOutside(rule, LAST_RULE) || isOutside(what, 1)) {
            return refuse(OTHER);
        }
        plans.follow(rule);
        return what == 0 ? plans.ruleLit : plans.ruleMinutes;
    }

    public int best() {
        return plans.bestRule();
    }

    public int calm(int n, int m) {
        if (n < 1 || m < 0) {
            return refuse(BELOW);
        }
        if (n > MOST_NUMBER || m > MOST_NUMBER) {
            return refuse(ROOM);
        }
        int reached = 2 * m + 1;
        return (n + reached - 1) / reached;
    }

    public int spreads(int n, int k) {
        if (n < 1 || k < 0) {
            return refuse(BELOW);
        }
        if (n > MOST_NUMBER || k > MOST_NUMBER) {
            return refuse(ROOM);
        }
        if (k >= n) {
            return refuse(NOBODY);
        }
        return Math.max(k, n - 1 - k);
    }

    public long chances(int n, int what, int part) {
        if (n < 0) {
            return refuseLong(BELOW);
        }
        if (n > MOST_CHANCE_MINUTES) {
            return refuseLong(ROOM);
        }
        if (isOutside(what, 1) || isOutside(part, 1)) {
            return refuseLong(OTHER);
        }
        if (now.people > MOST_BY_CHANCE || now.door - now.place < n) {
            return refuseLong(STATE);
        }
        odds.weigh(now, n);
        return odds.inLeastTerms(what == 1, part == 1);
    }

    public int wax(int what) {
        if (isOutside(what, 1)) {
            return refuse(OTHER);
        }
        if (numbers.size != now.people) {
            return refuse(STATE);
        }
        mind.findWaxSets(numbers);
        return what == 0 ? mind.waxSets : mind.leastWaxSet;
    }

    public int sides() {
        return changes.bestSide();
    }

    public int row(int v) {
        if (v < 0) {
            return refuse(BELOW);
        }
        if (v > MOST_NUMBER || numbers.isFull()) {
            return refuse(ROOM);
        }
        return numbers.append(v);
    }

    public int judge() {
        int answer = mind.firstUntrue(numbers);
        numbers.size = 0;
        return answer;
    }

    public int clear() {
        int had = numbers.size;
        numbers.size = 0;
        return had;
    }

    public int seeds(int n, int z, int what) {
        if (n < 1) {
            return refuse(BELOW);
        }
        if (n > MOST_NIGHTS) {
            return refuse(ROOM);
        }
        if (isOutside(what, 1)) {
            return refuse(OTHER);
        }
        changes.walkNights(n, z);
        return what == 0 ? changes.nightsLit : changes.darkNights;
    }

    public int back() {
        if (past.size == 0) {
            return refuse(STATE);
        }
        past.takeBack(now);
        return now.place;
    }

    public int all() {
        return mind.calmMinutes();
    }

    public int behind(int n) {
        if (n < 0) {
            return refuse(BELOW);
        }
        if (n > MOST_CALM_MINUTES) {
            return refuse(ROOM);
        }
        return mind.calmBehind(n);
    }

    public int atFirst(int what) {
        if (isOutside(what, 1)) {
            return refuse(OTHER);
        }
        return numberOrSet(what, mind.enoughAtFirst());
    }

    public int forms(int what) {
        if (isOutside(what, 1)) {
            return refuse(OTHER);
        }
        changes.findForm();
        return what == 0 ? changes.found : changes.most;
    }

    public int calms(int what) {
        if (isOutside(what, 1)) {
            return refuse(OTHER);
        }
        return what == 0 ? plans.calmPlace() : plans.calmPair();
    }

    public int farthest() {
        return changes.farthestDoor();
    }

    public int turned() {
        return changes.countTurned();
    }

    public int flame(int person) {
        return now.hasOne(person) ? mind.originOf(person) : refuse(NOBODY);
    }

    public int out(int person) {
        return now.hasOne(person) ? mind.timesOut(person) : refuse(NOBODY);
    }

    public int again() {
        return mind.timesLit();
    }

    public int game(int what) {
        if (isOutside(what, 2)) {
            return refuse(OTHER);
        }
        changes.fillGame();
        if (what == 0) {
            return changes.steadyPair();
        }
        return what == 1 ? changes.sureNumber() : changes.knownNumber();
    }

    public int heirs(int person) {
        return now.hasOne(person) ? changes.kindsLit(person) : refuse(NOBODY);
    }

    public int gaps(int what) {
        if (isOutside(what, 1)) {
            return refuse(OTHER);
        }
        mind.findGap();
        return what == 0 ? mind.gap : mind.gapMinute;
    }

    public int matches(int i) {
        if (i < -1) {
            return refuse(BELOW);
        }
        int many = plans.fewestMatches();
        if (i == -1) {
            return many;
        }
        return i < many && i < MOST_MATCHES ? plans.struckAt[i] : NONE;
    }

    public int image() {
        pictured.takeFrom(now);
        hasPicture = true;
        return now.place;
    }

    public int restore() {
        if (!hasPicture) {
            return refuse(STATE);
        }
        now.takeFrom(pictured);
        past.forget();
        return now.place;
    }

    public int count(int what) {
        if (what >= 11 && what <= 16) {
            return refused[what - 10];
        }
        switch (what) {
            case 0: return now.people;
            case 1: return Integer.bitCount(now.lit);
            case 2: return now.place;
            case 3: return now.minute;
            case 4: return now.form;
            case 5: return now.each;
            case 6: return now.door;
            case 7: return letters.size;
            case 8: return numbers.size;
            case 9: return now.lightOf(now.lit);
            case 10: return past.size;
            default: return NONE;
        }
    }

    private int refuse(int number) {
        int at = -number;
        if (at > 0 && at < refused.length) {
            refused[at]++;
        }
        return number;
    }

    private long refuseLong(int number) {
        return LONG_REFUSALS - refuse(number);
    }

    private int change(int what, int v) {
        int was;
        if (what == 0) {
            was = now.form;
            now.form = v;
        } else if (what == 1) {
            was = now.each;
            now.each = v;
        } else {
            was = now.door;
            now.door = v;
        }
        return was;
    }

    private static int leastOf(int what) {
        return what == 0 ? 0 : 1;
    }

    private static int mostOf(int what) {
        if (what == 0) {
            return MOST_FORM;
        }
        return what == 1 ? MOST_EACH : LAST_PLACE;
    }

    private static boolean isOutside(int number, int most) {
        return number < 0 || number > most;
    }

    private static int numberOrSet(int what, int set) {
        if (set < 0) {
            return NONE;
        }
        return what == 0 ? Integer.bitCount(set) : set;
    }

    private static boolean hasBit(int bits, int one) {
        return (bits >> one & 1) != 0;
    }

    /** All that an image holds: the people, the wind, and where they are. */
    private static final class Company {
        int people;
        int lit;
        int form;
        int each;
        int door;
        int place;
        int minute;
        final int[] kinds;
        final int[] figures;
        final int[] forces;
        final int[] sides;

        Company() {
            each = 1;
            door = 12;
            kinds = new int[MOST_PEOPLE];
            figures = new int[MOST_PEOPLE];
            forces = new int[LAST_PLACE + 1];
            sides = new int[LAST_PLACE + 1];
        }

        void takeFrom(Company other) {
            people = other.people;
            lit = other.lit;
            form = other.form;
            each = other.each;
            door = other.door;
            place = other.place;
            minute = other.minute;
            System.arraycopy(other.kinds, 0, kinds, 0, MOST_PEOPLE);
            System.arraycopy(other.figures, 0, figures, 0, MOST_PEOPLE);
            System.arraycopy(other.forces, 0, forces, 0, LAST_PLACE + 1);
            System.arraycopy(other.sides, 0, sides, 0, LAST_PLACE + 1);
        }

        void append(int kind, int figure, boolean isLit) {
            if (people < MOST_PEOPLE) {
                kinds[people] = kind;
                figures[people] = figure;
                people++;
                putLit(people - 1, isLit);
            }
        }

        boolean hasOne(int one) {
            return one >= 0 && one < people;
        }

        boolean isLit(int one) {
            return hasBit(lit, one);
        }

        void putLit(int one, boolean on) {
            lit = on ? lit | 1 << one : lit & ~(1 << one);
        }

        boolean isSmall(int one) {
            return kinds[one] == SMALL;
        }

        void become(int one, int kind) {
            kinds[one] = kind;
            if (kind == SMALL) {
                putLit(one, false);
            }
        }

        void becomeLantern(int one) {
            kinds[one] = LANTERN;
            putLit(one, true);
        }

        /** KIND, FIGURE and LIT of another's one go to the one here. */
        void copyOne(int to, Company other, int from) {
            if (hasOne(to) && other.hasOne(from)) {
                kinds[to] = other.kinds[from];
                figures[to] = other.figures[from];
                putLit(to, other.isLit(from));
            }
        }

        boolean isAtDoor() {
            return place >= door;
        }

        int everybody() {
            return (1 << people) - 1;
        }

        /** All who can be LIT at all. */
        int grownOnes() {
            int bits = 0;
            for (int one = 0; one < people; one++) {
                if (!isSmall(one)) {
                    bits |= 1 << one;
                }
            }
            return bits;
        }

        int holdsOf(int one) {
            int third = figures[one] / 3;
            switch (kinds[one]) {
                case WALKER: return 3 + third;
                case HOODED: return 5 + third;
                case LANTERN: return 99;
                case TALL: return 2 + third;
                case NUN: return 4 + third + figures[one] / 2;
                default: return 4 + third;
            }
        }

        /** Who covers one in wind from a side; NONE. */
        int coverer(int one, int side) {
            if (side == ACROSS) {
                return NONE;
            }
            int step = form == PAIRS ? 2 : 1;
            int by = side == FROM_FRONT ? one - step : one + step;
            if (form == RING && people > 1) {
                return (by + people) % people;
            }
            return by >= 0 && by < people ? by : NONE;
        }

        int coverFor(int one, int side) {
            int by = coverer(one, side);
            return by < 0 ? 0 : COVER[kinds[by]];
        }

        int feltBy(int one, int at) {
            return Math.max(0, forces[at] - coverFor(one, sides[at]));
        }

        int nearOnes(int one) {
            int itself = 1 << one;
            if (form == RING && people > 1) {
                return 1 << (one + people - 1) % people | 1 << (one + 1) % people;
            }
            int near = itself << 1 | itself >> 1;
            if (form == PAIRS) {
                near = 1 << (one ^ 1) | itself << 2 | itself >> 2;
            }
            return near & everybody();
        }

        int lightOf(int bits) {
            int light = 0;
            for (int one = 0; one < people; one++) {
                if (hasBit(bits, one)) {
                    light += GIVES[kinds[one]];
                }
            }
            return light;
        }

        int tellOf(int one, int what) {
            switch (what) {
                case 0: return kinds[one];
                case 1: return figures[one];
                case 2: return isLit(one) ? 1 : 0;
                case 3: return COVER[kinds[one]];
                case 4: return holdsOf(one);
                case 5: return GIVES[kinds[one]];
                default: return feltBy(one, place);
            }
        }

        void blowFrom(int side) {
            for (int at = 0; at <= LAST_PLACE; at++) {
                sides[at] = side;
            }
        }
    }

    /** MINUTES in mind of a company: who goes out where, who lights whom. */
    private static final class Walk {
        int people;
        int grown;
        int each;
        int start;
        int minutes;
        /** Of the last MINUTE: who went out, who was lit. */
        int fell;
        int fresh;
        /** Who lit each one last; told only for those who were lit. */
        final int[] lighter;
        /** Who is LIT behind each number of MINUTES. */
        final int[] ends;
        /** Who does not hold at each PLACE. */
        final int[] unsteady;
        private final int[] near;
        /** The greatest FORCE in which each holds, for each SIDE. */
        private final int[] bears;

        Walk() {
            lighter = new int[MOST_PEOPLE];
            ends = new int[LAST_PLACE + 1];
            unsteady = new int[LAST_PLACE + 1];
            near = new int[MOST_PEOPLE];
            bears = new int[MOST_PEOPLE * (MOST_SIDE + 1)];
        }

        void setOut(Company company) {
            people = company.people;
            grown = company.grownOnes();
            each = company.each;
            start = company.place;
            minutes = Math.max(0, company.door - company.place);
            for (int one = 0; one < people; one++) {
                near[one] = company.nearOnes(one);
                int holds = company.holdsOf(one);
                for (int side = 0; side <= MOST_SIDE; side++) {
                    bears[MOST_PEOPLE * side + one] = holds + company.coverFor(one, side);
                }
            }
            for (int at = company.place; at < company.door; at++) {
                unsteady[at] = unsteadyIn(company.forces[at], company.sides[at]);
            }
        }

        /** One MINUTE at a PLACE: who is LIT behind it. */
        int minuteAt(int place, int lit) {
            fell = lit & unsteady[place];
            return relight(lit & ~fell);
        }

        /** All who are LIT light others, by numbers: who is LIT then. */
        int relight(int lit) {
            fresh = 0;
            for (int one = 0; one < people; one++) {
                int open = hasBit(lit, one) ? near[one] & grown & ~(lit | fresh) : 0;
                for (int i = 0; i < each && open != 0; i++) {
                    int first = open & -open;
                    lighter[Integer.bitCount(first - 1)] = one;
                    fresh |= first;
                    open &= ~first;
                }
            }
            return lit | fresh;
        }

        void walkOn(int lit) {
            ends[0] = lit;
            for (int m = 0; m < minutes; m++) {
                ends[m + 1] = minuteAt(start + m, ends[m]);
            }
        }

        /** Who is LIT at the DOOR, if these are LIT behind m MINUTES. */
        int atDoorFrom(int m, int lit) {
            int there = lit;
            // without a flame nothing can change any more
            for (int next = m; next < minutes && there != 0; next++) {
                there = relight(there & ~unsteady[start + next]);
            }
            return there;
        }

        /** A MINUTE that comes to a company itself. */
        void passMinute(Company company, boolean isStop) {
            setOut(company);
            company.lit = minuteAt(company.place, company.lit);
            company.minute++;
            if (!isStop) {
                company.place++;
            }
        }

        private int unsteadyIn(int force, int side) {
            int bits = 0;
            for (int one = 0; one < people; one++) {
                if (force > bears[MOST_PEOPLE * side + one]) {
                    bits |= 1 << one;
                }
            }
            return bits;
        }
    }

    /** The MINUTES that can be taken back, the latest last. */
    private static final class Past {
        private static final int MOST = 8;
        int size;
        private final int[] lits;
        private final int[] places;
        private final int[] minutes;

        Past() {
            lits = new int[MOST];
            places = new int[MOST];
            minutes = new int[MOST];
        }

        void forget() {
            size = 0;
        }

        void keep(Company company) {
            if (size == MOST) {
                dropOldest();
            }
            lits[size] = company.lit;
            places[size] = company.place;
            minutes[size] = company.minute;
            size++;
        }

        void takeBack(Company company) {
            if (size > 0) {
                size--;
                company.lit = lits[size];
                company.place = places[size];
                company.minute = minutes[size];
            }
        }

        private void dropOldest() {
            for (int i = 1; i < size; i++) {
                lits[i - 1] = lits[i];
                places[i - 1] = places[i];
                minutes[i - 1] = minutes[i];
            }
            size--;
        }
    }

    /** The letters of a ROAD, and its reading. */
    private static final class Letters {
        private static final int AT_STATEMENT = -1;
        private static final int FAULTY_TEXT = -1000;
        private static final int FAULTY_STATEMENT = -2000;
        int size;
        private final int[] text;
        private final Company trial;
        private final Walk walk;

        Letters(Company trial, Walk walk) {
            text = new int[MOST_LETTERS];
            this.trial = trial;
            this.walk = walk;
        }

        boolean isFull() {
            return size >= MOST_LETTERS;
        }

        int append(int letter) {
            if (!isFull()) {
                text[size] = letter;
                size++;
            }
            return size;
        }

        /** The FAULT of kind 1; 0 without. */
        int textFault() {
            int awaited = AT_STATEMENT;
            for (int at = 0; at < size; at++) {
                int letter = text[at];
                if (awaited == AT_STATEMENT) {
                    awaited = digitsBehind(letter);
                    if (awaited < 0) {
                        return FAULTY_TEXT - at;
                    }
                } else if (awaited > 0) {
                    if (letter < '0' || letter > '9') {
                        return FAULTY_TEXT - at;
                    }
                    awaited--;
                } else {
                    if (letter != ';') {
                        return FAULTY_TEXT - at;
                    }
                    awaited = AT_STATEMENT;
                }
            }
            return size > 0 && awaited == AT_STATEMENT ? 0 : FAULTY_TEXT - size;
        }

        /** How many statements come to the company, or the FAULT of kind 2 and none comes. */
        int comeTo(Company company) {
            trial.takeFrom(company);
            int statements = 0;
            int at = 0;
            for (int i = 0; i < MOST_LETTERS && at < size; i++) {
                if (!comes(at)) {
                    return FAULTY_STATEMENT - at;
                }
                statements++;
                at += digitsBehind(text[at]) + 2;
            }
            company.takeFrom(trial);
            return statements;
        }

        private static int digitsBehind(int letter) {
            switch (letter) {
                case 'p': return 3;
                case 'w': return 4;
                case 'f': return 2;
                case 'd': return 2;
                case 'l': return 1;
                case 'm': return 1;
                default: return -1;
            }
        }

        private int digitAt(int at) {
            return at >= 0 && at < size ? text[at] - '0' : 0;
        }

        private int twoDigitsAt(int at) {
            return 10 * digitAt(at) + digitAt(at + 1);
        }

        private boolean comes(int at) {
            switch (text[at]) {
                case 'p': return personComes(digitAt(at + 1), digitAt(at + 2), digitAt(at + 3));
                case 'w': return windComes(twoDigitsAt(at + 1), digitAt(at + 3), digitAt(at + 4));
                case 'f': return formComes(digitAt(at + 1), digitAt(at + 2));
                case 'd': return doorComes(twoDigitsAt(at + 1));
                case 'l': return lightComes(digitAt(at + 1));
                default: break;
            }
            int stop = digitAt(at + 1);
            if (stop > 1 || trial.isAtDoor() || trial.minute >= LAST_MINUTE) {
                return false;
            }
            walk.passMinute(trial, stop == 1);
            return true;
        }

        private boolean personComes(int kind, int figure, int lit) {
            boolean isSmallAndLit = kind == SMALL && lit == 1;
            if (kind > SMALL || lit > 1 || isSmallAndLit || trial.people >= MOST_PEOPLE) {
                return false;
            }
            trial.append(kind, figure, lit == 1);
            return true;
        }

        private boolean windComes(int place, int force, int side) {
            if (isOutside(place, LAST_PLACE) || side > MOST_SIDE) {
                return false;
            }
            trial.forces[place] = force;
            trial.sides[place] = side;
            return true;
        }

        private boolean formComes(int form, int each) {
            if (form > MOST_FORM || each < 1 || each > MOST_EACH) {
                return false;
            }
            trial.form = form;
            trial.each = each;
            return true;
        }

        private boolean doorComes(int door) {
            if (door < 1 || door > LAST_PLACE || door < trial.place) {
                return false;
            }
            trial.door = door;
            return true;
        }

        private boolean lightComes(int one) {
            if (!trial.hasOne(one) || trial.isSmall(one)) {
                return false;
            }
            trial.putLit(one, !trial.isLit(one));
            return true;
        }
    }

    /** The ROW of numbers. */
    private static final class Row {
        int size;
        final int[] values;

        Row() {
            values = new int[MOST_IN_ROW];
        }

        boolean isFull() {
            return size >= MOST_IN_ROW;
        }

        int append(int v) {
            if (!isFull()) {
                values[size] = v;
                size++;
            }
            return size;
        }
    }

    /** What comes in mind, all as it is but who is LIT at first. */
    private static final class Mind {
        int waxSets;
        int leastWaxSet;
        int gap;
        int gapMinute;
        private final Company now;
        private final Walk walk;
        private final int[] origins;

        Mind(Company now, Walk walk) {
            this.now = now;
            this.walk = walk;
            origins = new int[MOST_PEOPLE];
        }

        /** No farther than the DOOR. */
        int litBehind(int n) {
            walkFromNow();
            return walk.ends[Math.min(n, walk.minutes)];
        }

        int firstDark() {
            walkFromNow();
            for (int m = 0; m <= walk.minutes; m++) {
                if (walk.ends[m] == 0) {
                    return m;
                }
            }
            return NONE;
        }

        int longestDark() {
            walkFromNow();
            int longest = 0;
            int run = 0;
            for (int m = 1; m <= walk.minutes; m++) {
                run = walk.ends[m] == 0 ? run + 1 : 0;
                longest = Math.max(longest, run);
            }
            return longest;
        }

        int darkMinutes(int one) {
            walkFromNow();
            return darkEnds(one);
        }

        int lastLighter(int one, int n) {
            walk.setOut(now);
            int by = NONE;
            int lit = now.lit;
            int minutes = Math.min(n, walk.minutes);
            for (int m = 0; m < minutes; m++) {
                lit = walk.minuteAt(walk.start + m, lit);
                if (hasBit(walk.fresh, one)) {
                    by = walk.lighter[one];
                }
            }
            return by;
        }

        /** From whom of those LIT now the light comes that one has at the DOOR. */
        int originOf(int one) {
            walk.setOut(now);
            for (int i = 0; i < MOST_PEOPLE; i++) {
                origins[i] = i;
            }
            int lit = now.lit;
            for (int m = 0; m < walk.minutes; m++) {
                lit = walk.minuteAt(walk.start + m, lit);
                handOn(walk.fresh);
            }
            return hasBit(lit, one) ? origins[one] : NONE;
        }

        int timesOut(int one) {
            walk.setOut(now);
            int times = 0;
            int lit = now.lit;
            for (int m = 0; m < walk.minutes; m++) {
                lit = walk.minuteAt(walk.start + m, lit);
                if (hasBit(walk.fell, one)) {
                    times++;
                }
            }
            return times;
        }

        int timesLit() {
            walk.setOut(now);
            int times = 0;
            int lit = now.lit;
            for (int m = 0; m < walk.minutes; m++) {
                lit = walk.minuteAt(walk.start + m, lit);
                times += Integer.bitCount(walk.fresh);
            }
            return times;
        }

        void findGap() {
            walkFromNow();
            gap = 0;
            gapMinute = NONE;
            for (int m = 1; m <= walk.minutes; m++) {
                int widest = widestGap(walk.ends[m]);
                if (widest > gap) {
                    gap = widest;
                    gapMinute = m;
                }
            }
        }

        /** The first number of the ROW that the MINUTES' ends do not bear out; NONE. */
        int firstUntrue(Row row) {
            walkFromNow();
            for (int i = 0; i < row.size; i++) {
                if (i >= walk.minutes || Integer.bitCount(walk.ends[i + 1]) != row.values[i]) {
                    return i;
                }
            }
            return NONE;
        }

        void findWaxSets(Row row) {
            walk.setOut(now);
            waxSets = 0;
            leastWaxSet = NONE;
            for (int set = 0; set <= walk.grown; set++) {
                if ((set & ~walk.grown) == 0 && agrees(set, row)) {
                    if (waxSets == 0) {
                        leastWaxSet = set;
                    }
                    waxSets++;
                }
            }
        }

        /** The fewest who would do if they alone were LIT now (bits); NONE. */
        int enoughAtFirst() {
            walk.setOut(now);
            int least = NONE;
            int fewest = MOST_PEOPLE + 1;
            for (int set = 0; set <= walk.grown; set++) {
                int many = Integer.bitCount(set);
                if (many < fewest && (set & ~walk.grown) == 0 && walk.atDoorFrom(0, set) == walk.grown) {
                    least = set;
                    fewest = many;
                }
            }
            return least;
        }

        /** Without wind: the MINUTES till all but SMALL ones are LIT; NONE. */
        int calmMinutes() {
            walk.setOut(now);
            int lit = now.lit;
            for (int m = 0; m <= MOST_CALM_MINUTES; m++) {
                if (lit == walk.grown) {
                    return m;
                }
                lit = walk.relight(lit);
            }
            return NONE;
        }

        int calmBehind(int n) {
            walk.setOut(now);
            int lit = now.lit;
            for (int m = 0; m < n; m++) {
                lit = walk.relight(lit);
            }
            return lit;
        }

        private void walkFromNow() {
            walk.setOut(now);
            walk.walkOn(now.lit);
        }

        private int darkEnds(int one) {
            int dark = 0;
            for (int m = 1; m <= walk.minutes; m++) {
                if (!hasBit(walk.ends[m], one)) {
                    dark++;
                }
            }
            return dark;
        }

        private boolean agrees(int set, Row row) {
            walk.walkOn(set);
            for (int one = 0; one < walk.people; one++) {
                if (darkEnds(one) != row.values[one]) {
                    return false;
                }
            }
            return true;
        }

        // who lights was LIT ahead of the MINUTE, so its own origin does not change in it
        private void handOn(int fresh) {
            for (int one = 0; one < walk.people; one++) {
                if (hasBit(fresh, one)) {
                    origins[one] = origins[walk.lighter[one]];
                }
            }
        }

        private int widestGap(int lit) {
            int widest = 0;
            int run = 0;
            for (int one = 0; one < walk.people; one++) {
                run = hasBit(lit, one) ? 0 : run + 1;
                widest = Math.max(widest, run);
            }
            return widest;
        }
    }

    /** Where to stop, when to strike a match, which place should be calm. */
    private static final class Plans {
        private static final int LONGEST_STOP = 5;
        private static final int MOST_RULE_MINUTES = LAST_PLACE * (LONGEST_STOP + 1);
        int ruleLit;
        int ruleMinutes;
        final int[] struckAt;
        private final Company now;
        private final Walk walk;

        Plans(Company now, Walk walk) {
            this.now = now;
            this.walk = walk;
            struckAt = new int[MOST_MATCHES];
        }

        int bestStop() {
            int most = startFromNow();
            int found = NONE;
            for (int stops = 1; stops <= LONGEST_STOP; stops++) {
                for (int m = 0; m < walk.minutes; m++) {
                    int count = Integer.bitCount(withStop(m, stops));
                    if (count > most) {
                        most = count;
                        found = 10 * (walk.start + m) + stops;
                    }
                }
            }
            return found;
        }

        int bestMatch() {
            int most = startFromNow();
            int found = NONE;
            for (int m = walk.minutes - 1; m >= 0; m--) {
                for (int one = 0; one < walk.people; one++) {
                    if (hasBit(walk.grown, one)) {
                        int count = Integer.bitCount(walk.atDoorFrom(m, walk.ends[m] | 1 << one));
                        if (count > most) {
                            most = count;
                            found = 10 * m + one;
                        }
                    }
                }
            }
            return found;
        }

        void follow(int rule) {
            walk.setOut(now);
            int lit = now.lit;
            int place = now.place;
            int stops = 0;
            int minutes = 0;
            for (int i = 0; i < MOST_RULE_MINUTES && place < now.door; i++) {
                boolean isStop = stops < LONGEST_STOP && tellsToStop(rule, lit, place);
                lit = walk.minuteAt(place, lit);
                minutes++;
                stops = isStop ? stops + 1 : 0;
                place = isStop ? place : place + 1;
            }
            ruleLit = Integer.bitCount(lit);
            ruleMinutes = minutes;
        }

        int bestRule() {
            int found = 0;
            int most = -1;
            int shortest = 0;
            for (int rule = 0; rule <= LAST_RULE; rule++) {
                follow(rule);
                if (ruleLit > most || ruleLit == most && ruleMinutes < shortest) {
                    found = rule;
                    most = ruleLit;
                    shortest = ruleMinutes;
                }
            }
            return found;
        }

        /** How many matches bring light to the DOOR; struckAt tells when. */
        int fewestMatches() {
            if (startFromNow() > 0) {
                return 0;
            }
            if (hasOneMatch(0, now.lit, 0)) {
                return 1;
            }
            if (hasTwoMatches(0, now.lit, 0)) {
                return 2;
            }
            for (int m = 0; m < walk.minutes; m++) {
                int behind = walk.minuteAt(walk.start + m, struck(walk.ends[m]));
                if (hasTwoMatches(m + 1, behind, 1)) {
                    struckAt[0] = m;
                    return 3;
                }
            }
            return NONE;
        }

        int calmPlace() {
            int most = startFromNow();
            int found = NONE;
            for (int place = now.place; place < now.door; place++) {
                int was = stillAt(place);
                int count = Integer.bitCount(walk.atDoorFrom(0, now.lit));
                walk.unsteady[place] = was;
                if (count > most) {
                    most = count;
                    found = place;
                }
            }
            return found;
        }

        int calmPair() {
            int most = startFromNow();
            int found = NONE;
            for (int place = now.place; place < now.door; place++) {
                int was = stillAt(place);
                for (int other = place + 1; other < now.door; other++) {
                    int otherWas = stillAt(other);
                    int count = Integer.bitCount(walk.atDoorFrom(0, now.lit));
                    walk.unsteady[other] = otherWas;
                    if (count > most) {
                        most = count;
                        found = 100 * place + other;
                    }
                }
                walk.unsteady[place] = was;
            }
            return found;
        }

        /** How many are LIT at the DOOR without any plan. */
        private int startFromNow() {
            walk.setOut(now);
            walk.walkOn(now.lit);
            return Integer.bitCount(walk.ends[walk.minutes]);
        }

        /** In a FORCE of 0 everybody holds; who did not hold there is answered. */
        private int stillAt(int place) {
            int was = walk.unsteady[place];
            walk.unsteady[place] = 0;
            return was;
        }

        private int withStop(int m, int stops) {
            int lit = walk.ends[m];
            for (int i = 0; i < stops; i++) {
                lit = walk.minuteAt(walk.start + m, lit);
            }
            return walk.atDoorFrom(m, lit);
        }

        private boolean tellsToStop(int rule, int lit, int place) {
            if (rule == 0 || lit == 0) {
                return false;
            }
            if (rule == 1) {
                return 2 * Integer.bitCount(lit) < walk.people;
            }
            if (rule == 3 && now.forces[place] > 2) {
                return false;
            }
            if (rule == 4 && (place >= LAST_PLACE || now.forces[place + 1] <= 5)) {
                return false;
            }
            return lit != walk.grown;
        }

        private int struck(int lit) {
            int dark = walk.grown & ~lit;
            return lit | dark & -dark;
        }

        /** Whether one match from a MINUTE on does; it is told as the index-th. */
        private boolean hasOneMatch(int from, int lit, int index) {
            int ahead = lit;
            for (int m = from; m < walk.minutes; m++) {
                if (walk.atDoorFrom(m, struck(ahead)) != 0) {
                    struckAt[index] = m;
                    return true;
                }
                ahead = walk.minuteAt(walk.start + m, ahead);
            }
            return false;
        }

        private boolean hasTwoMatches(int from, int lit, int index) {
            int ahead = lit;
            for (int m = from; m < walk.minutes; m++) {
                int behind = walk.minuteAt(walk.start + m, struck(ahead));
                if (hasOneMatch(m + 1, behind, index + 1)) {
                    struckAt[index] = m;
                    return true;
                }
                ahead = walk.minuteAt(walk.start + m, ahead);
            }
            return false;
        }
    }

    /** What would be, were the people, their form or the wind other than they are. */
    private static final class Changes {
        int found;
        int most;
        int nightsLit;
        int darkNights;
        private int seed;
        private final Company now;
        private final Company trial;
        private final Walk walk;
        private final int[] order;
        private final int[] outcomes;

        Changes(Company now, Company trial, Walk walk) {
            this.now = now;
            this.trial = trial;
            this.walk = walk;
            order = new int[MOST_ORDERED];
            outcomes = new int[(MOST_FORM + 1) * (MOST_SIDE + 1)];
        }

        int lowered() {
            startSearch(now.lightOf(doorOf(now)));
            for (int one = 0; one < now.people; one++) {
                trial.takeFrom(now);
                trial.become(one, LOW);
                consider(one, trial.lightOf(doorOf(trial)));
            }
            return found;
        }

        int exchanged() {
            startSearch(countOf(now));
            for (int one = 0; one < now.people; one++) {
                for (int other = one + 1; other < now.people; other++) {
                    trial.takeFrom(now);
                    trial.copyOne(one, now, other);
                    trial.copyOne(other, now, one);
                    consider(10 * one + other, countOf(trial));
                }
            }
            return found;
        }

        void findOrder() {
            startSearch(-1);
            trial.takeFrom(now);
            int people = Math.min(now.people, MOST_ORDERED);
            int orders = 1;
            for (int place = 0; place < people; place++) {
                order[place] = place;
                orders *= place + 1;
            }
            for (int i = 0; i < orders; i++) {
                for (int place = 0; place < people; place++) {
                    trial.copyOne(place, now, order[place]);
                }
                consider(orderAsDigits(people), countOf(trial));
                nextOrder(people);
            }
        }

        void findLantern() {
            startSearch(-1);
            for (int one = 0; one < now.people; one++) {
                trial.takeFrom(now);
                trial.becomeLantern(one);
                consider(one, countOf(trial));
            }
        }

        /** The fewest who, were they LANTERNS, would do (bits); NONE. */
        int fewestLanterns() {
            int everybody = now.everybody();
            int least = NONE;
            int fewest = MOST_PEOPLE + 1;
            for (int set = 0; set <= everybody; set++) {
                int many = Integer.bitCount(set);
                if (many < fewest && lanternsDo(set)) {
                    least = set;
                    fewest = many;
                }
            }
            return least;
        }

        int leftBehind() {
            int left = 0;
            int lit = 0;
            int going = 1;
            for (int tail = 0; tail < now.people; tail++) {
                trial.takeFrom(now);
                trial.people = now.people - tail;
                trial.lit &= trial.everybody();
                int count = countOf(trial);
                if (tail == 0 || count * going > lit * trial.people) {
                    left = tail;
                    lit = count;
                    going = trial.people;
                }
            }
            return left;
        }

        int bestSide() {
            startSearch(-1);
            for (int side = 0; side <= MOST_SIDE; side++) {
                trial.takeFrom(now);
                trial.blowFrom(side);
                consider(side, countOf(trial));
            }
            return found;
        }

        void walkNights(int nights, int z) {
            seed = z;
            nightsLit = 0;
            darkNights = 0;
            trial.takeFrom(now);
            for (int night = 0; night < nights; night++) {
                for (int place = now.place; place <= LAST_PLACE; place++) {
                    trial.forces[place] = drawBelow(MOST_FORCE + 1);
                    trial.sides[place] = drawBelow(MOST_SIDE + 1);
                }
                int count = countOf(trial);
                nightsLit += count;
                darkNights += count == 0 ? 1 : 0;
            }
        }

        void findForm() {
            startSearch(-1);
            trial.takeFrom(now);
            for (int form = 0; form <= MOST_FORM; form++) {
                for (int each = 1; each <= MOST_EACH; each++) {
                    trial.form = form;
                    trial.each = each;
                    consider(10 * form + each, countOf(trial));
                }
            }
        }

        int farthestDoor() {
            trial.takeFrom(now);
            trial.door = LAST_PLACE;
            walk.setOut(trial);
            walk.walkOn(trial.lit);
            int nearest = Math.max(1, now.place);
            for (int door = LAST_PLACE; door >= nearest; door--) {
                if (walk.ends[door - now.place] != 0) {
                    return door;
                }
            }
            return NONE;
        }

        int countTurned() {
            trial.takeFrom(now);
            for (int one = 0; one < now.people; one++) {
                trial.copyOne(one, now, now.people - 1 - one);
            }
            return countOf(trial);
        }

        int kindsLit(int one) {
            int bits = 0;
            for (int kind = 0; kind <= SMALL; kind++) {
                trial.takeFrom(now);
                trial.become(one, kind);
                if (hasBit(doorOf(trial), one)) {
                    bits |= 1 << kind;
                }
            }
            return bits;
        }

        /** How many are LIT at the DOOR by each FORM and SIDE. */
        void fillGame() {
            trial.takeFrom(now);
            for (int form = 0; form <= MOST_FORM; form++) {
                for (int side = 0; side <= MOST_SIDE; side++) {
                    trial.form = form;
                    trial.blowFrom(side);
                    outcomes[3 * form + side] = countOf(trial);
                }
            }
        }

        int steadyPair() {
            for (int form = 0; form <= MOST_FORM; form++) {
                for (int side = 0; side <= MOST_SIDE; side++) {
                    int count = outcomes[3 * form + side];
                    if (count == fewestOfForm(form) && count == mostOfSide(side)) {
                        return 10 * form + side;
                    }
                }
            }
            return NONE;
        }

        int sureNumber() {
            return Math.max(fewestOfForm(0), Math.max(fewestOfForm(1), fewestOfForm(2)));
        }

        int knownNumber() {
            return Math.min(mostOfSide(0), Math.min(mostOfSide(1), mostOfSide(2)));
        }

        private int fewestOfForm(int form) {
            int at = 3 * form;
            return Math.min(outcomes[at], Math.min(outcomes[at + 1], outcomes[at + 2]));
        }

        private int mostOfSide(int side) {
            return Math.max(outcomes[side], Math.max(outcomes[side + 3], outcomes[side + 6]));
        }

        private int doorOf(Company company) {
            walk.setOut(company);
            return walk.atDoorFrom(0, company.lit);
        }

        private int countOf(Company company) {
            walk.setOut(company);
            return Integer.bitCount(walk.atDoorFrom(0, company.lit));
        }

        private void startSearch(int number) {
            found = NONE;
            most = number;
        }

        /** Of several with as much the first stays. */
        private void consider(int candidate, int number) {
            if (number > most) {
                most = number;
                found = candidate;
            }
        }

        private boolean lanternsDo(int set) {
            trial.takeFrom(now);
            for (int one = 0; one < now.people; one++) {
                if (hasBit(set, one)) {
                    trial.becomeLantern(one);
                }
            }
            return doorOf(trial) == trial.grownOnes();
        }

        private int orderAsDigits(int people) {
            int digits = 0;
            for (int place = people - 1; place >= 0; place--) {
                digits = 10 * digits + order[place];
            }
            return digits;
        }

        /** The next order by the alphabet of numbers; the last one stays. */
        private void nextOrder(int people) {
            int rise = people - 2;
            while (rise >= 0 && order[rise] > order[rise + 1]) {
                rise--;
            }
            if (rise < 0) {
                return;
            }
            int next = people - 1;
            while (next > rise && order[next] < order[rise]) {
                next--;
            }
            exchangePlaces(rise, next);
            int low = rise + 1;
            for (int high = people - 1; high > low; high--) {
                exchangePlaces(low, high);
                low++;
            }
        }

        private void exchangePlaces(int place, int other) {
            int was = order[place];
            order[place] = order[other];
            order[other] = was;
        }

        private int drawBelow(int n) {
            seed = seed * 1103515245 + 12345;
            return n > 0 ? (seed & 0x7fffffff) / 65536 % n : 0;
        }
    }

    /** How likely each set of LIT ones is, in parts of a whole. */
    private static final class Chances {
        private static final int SETS = 1 << MOST_BY_CHANCE;
        private static final int MOST_STEPS = 200;
        private long whole;
        private final long[] weights;
        private final long[] nexts;
        private final int[] tenths;
        private final Walk walk;

        Chances(Walk walk) {
            weights = new long[SETS];
            nexts = new long[SETS];
            tenths = new int[MOST_BY_CHANCE];
            this.walk = walk;
        }

        /** For 4 people at most. */
        void weigh(Company company, int minutes) {
            walk.setOut(company);
            for (int set = 0; set < SETS; set++) {
                weights[set] = set == company.lit ? 1 : 0;
            }
            whole = 1;
            for (int m = 0; m < minutes; m++) {
                fillTenths(company, company.place + m);
                passChances();
                whole *= 10000;
            }
        }

        long inLeastTerms(boolean isMean, boolean isBelow) {
            long above = 0;
            for (int set = 1; set < SETS; set++) {
                above += isMean ? weights[set] * Integer.bitCount(set) : weights[set];
            }
            long common = greatestCommon(whole, above);
            return (isBelow ? whole : above) / Math.max(1, common);
        }

        private void fillTenths(Company company, int place) {
            for (int one = 0; one < MOST_BY_CHANCE; one++) {
                int tenth = 0;
                if (company.hasOne(one) && company.kinds[one] != LANTERN) {
                    tenth = company.feltBy(one, place) - (company.holdsOf(one) - 2);
                }
                tenths[one] = Math.max(0, Math.min(9, tenth));
            }
        }

        private void passChances() {
            for (int set = 0; set < SETS; set++) {
                nexts[set] = 0;
            }
            for (int set = 0; set < SETS; set++) {
                for (int gone = 0; gone <= set; gone++) {
                    if (weights[set] != 0 && (gone & ~set) == 0) {
                        int next = walk.relight(set & ~gone) & (SETS - 1);
                        nexts[next] += weights[set] * partsOf(set, gone);
                    }
                }
            }
            System.arraycopy(nexts, 0, weights, 0, SETS);
        }

        /** In how many of 10000 parts just these of the LIT ones go out. */
        private long partsOf(int set, int gone) {
            long parts = 1;
            for (int one = 0; one < MOST_BY_CHANCE; one++) {
                if (hasBit(gone, one)) {
                    parts *= tenths[one];
                } else {
                    parts *= hasBit(set, one) ? 10 - tenths[one] : 10;
                }
            }
            return parts;
        }

        private static long greatestCommon(long one, long other) {
            long greater = one;
            long lesser = other;
            for (int i = 0; i < MOST_STEPS && lesser != 0; i++) {
                long rest = greater % lesser;
                greater = lesser;
                lesser = rest;
            }
            return greater;
        }
    }
}
