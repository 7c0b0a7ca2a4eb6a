import java.util.NoSuchElementException;

/**
 * Wolves rent the winter: a forest land whose places belong to packs while it snows, told by a text on a tape.
 * The words in capitals are those of the document that this class keeps.
 */
public final class WolfDeeds {
    public static final int NONE = -1;

    private static final int MOST_BYTES = 700;
    private static final int FED_BYTES = 20;
    private static final int MOST_PACKS = 4;
    private static final int MOST_PLACES = 9;
    private static final int MOST_PATHS = 14;
    private static final int MOST_PEOPLE = 6;
    private static final int MOST_SNOWS = 10;
    private static final int MOST_ACTS = 40;
    private static final int MOST_TRACKS = 6;
    private static final int MOST_HUNGER = 20;
    private static final int MOST_GOODS = 99;
    private static final int MOST_STORE = 9999;
    private static final int MOST_OWED = 9999;
    private static final int MOST_DUE = 99;
    private static final int MOST_FAIR = 20;
    private static final int MOST_DAYS_AHEAD = 99;
    private static final int LAST_DAY = 999;
    private static final int DAY_HOURS = 24;
    private static final int LAST_HOUR = 95;
    private static final int LAST_TRACK_HOUR = 71;
    private static final int HOUSE = 0;
    private static final int EDGE = 2;
    private static final int NO_WAY = -2;
    /** More HOURS than any way takes: what stands where there is no way. */
    private static final int FAR_OFF = 1000;

    private static final int TEXTS = 0;
    private static final int ACTS = 1;
    private static final int TRACKS = 2;

    private final Reader reader;
    private final State now;
    private final Acts acts;
    private final Tracks tracks;
    private final State imageState;
    private final Acts imageActs;
    private final Tracks imageTracks;
    private final Season season;
    private final Walker walker;
    private final int[] refused;
    private Land land;
    private int faultPlace;
    private boolean hasImage;

    public WolfDeeds() {
        reader = new Reader();
        now = new State();
        acts = new Acts();
        tracks = new Tracks();
        imageState = new State();
        imageActs = new Acts();
        imageTracks = new Tracks();
        season = new Season();
        walker = new Walker();
        refused = new int[3];
        land = new Land();
        faultPlace = NONE;
        hasImage = false;
    }

    // ---- the tape and the WINTER that it tells

    public int feed(int a, int b, int c, int d, int e) {
        if (reader.bytes + FED_BYTES > MOST_BYTES) {
            return NONE;
        }
        reader.take(a);
        reader.take(b);
        reader.take(c);
        reader.take(d);
        reader.take(e);
        return reader.bytes;
    }

    public int winter(int n) throws IllegalArgumentException {
        if (n < 0 || n > reader.bytes) {
            throw new IllegalArgumentException("the tape has not so many bytes");
        }
        int number = reader.read(n);
        faultPlace = reader.faultPlace;
        if (number != 0) {
            refuse(TEXTS);
            return number;
        }
        Land told = reader.land;
        reader.land = land;
        land = told;
        now.copy(land.first);
        acts.clear();
        tracks.clear();
        hasImage = false;
        return 0;
    }

    public int fault() {
        return faultPlace;
    }

    // ---- what there is

    public int count(int what) throws NoSuchElementException {
        switch (what) {
            case 0: return land.packs;
            case 1: return land.places;
            case 2: return land.paths;
            case 3: return land.people;
            case 4: return now.theDay();
            case 5: return land.snowOf(now.theDay());
            case 6: return lambsOfAll(now);
            case 7: return acts.kept;
            case 8: return tracks.told;
            case 9: return reader.bytes;
            case 10: return at(refused, TEXTS);
            case 11: return at(refused, ACTS);
            case 12: return at(refused, TRACKS);
            default: throw new NoSuchElementException("no such what");
        }
    }

    public int pack(int pack, int what) throws NoSuchElementException {
        needPack(pack);
        switch (what) {
            case 0: return now.ofPack(State.HUNGER, pack);
            case 1: return now.ofPack(State.STORE, pack);
            case 2: return now.ofPack(State.THIN, pack);
            case 3: return land.placesOf(pack);
            case 4: return land.peopleUnder(pack);
            default: throw new NoSuchElementException("no such what");
        }
    }

    public int place(int place, int what) throws NoSuchElementException {
        needPlace(place);
        switch (what) {
            case 0: return land.kindOf(place);
            case 1: return land.packOf(place);
            case 2: return land.pathsFrom(place);
            case 3: return land.peopleAt(place);
            default: throw new NoSuchElementException("no such what");
        }
    }

    public int person(int person, int what) throws NoSuchElementException {
        needPerson(person);
        switch (what) {
            case 0: return land.kindOfPerson(person);
            case 1: return land.homeOf(person);
            case 2: return now.ofPerson(State.LAMBS, person);
            case 3: return now.ofPerson(State.WOOD, person);
            case 4: return now.ofPerson(State.OWES, person);
            case 5: return now.ofPerson(State.COLD, person);
            case 6: return now.ofPerson(State.LAMP, person);
            case 7: return now.ofPerson(State.FAVOURS, person);
            case 8: return land.rentOf(now, person, land.snowOf(now.theDay()));
            default: throw new NoSuchElementException("no such what");
        }
    }

    public int far(int place, int other) throws NoSuchElementException {
        needPlace(place);
        needPlace(other);
        int hours = land.hoursBetween(place, other);
        return hours < FAR_OFF ? hours : NONE;
    }

    public boolean right(int person, int place, int hour) throws NoSuchElementException {
        needPerson(person);
        needPlace(place);
        needHourOfRight(hour);
        return land.allows(now, person, place, hour);
    }

    // ---- ACTS

    public int days(int many) {
        if (many < 1 || many > 30 || now.theDay() + many > LAST_DAY) {
            return refuse(ACTS);
        }
        acts.keep(now);
        season.begin(now);
        season.passDays(land, many);
        now.copy(season.state);
        return now.theDay();
    }

    public int pay(int person, int pack, int lambs) throws NoSuchElementException {
        needPerson(person);
        needPack(pack);
        int has = now.ofPerson(State.LAMBS, person);
        if (lambs < 1 || lambs > MOST_GOODS || lambs > has) {
            return refuse(ACTS);
        }
        acts.keep(now);
        now.setOfPerson(State.LAMBS, person, has - lambs);
        now.setOfPack(State.STORE, pack, Math.min(MOST_STORE, now.ofPack(State.STORE, pack) + lambs));
        if (land.packOfHome(person) == pack) {
            now.setOfPerson(State.OWES, person, Math.max(0, now.ofPerson(State.OWES, person) - lambs));
        }
        return has - lambs;
    }

    public int gather(int person, int wood) throws NoSuchElementException {
        needPerson(person);
        if (wood < 1 || wood > MOST_GOODS) {
            return refuse(ACTS);
        }
        acts.keep(now);
        int has = Math.min(MOST_GOODS, now.ofPerson(State.WOOD, person) + wood);
        now.setOfPerson(State.WOOD, person, has);
        return has;
    }

    public boolean lamp(int person, boolean lit) throws NoSuchElementException {
        needPerson(person);
        int wanted = lit ? 1 : 0;
        return change(State.LAMP, person, wanted);
    }

    public boolean favour(int person, int place, boolean granted) throws NoSuchElementException {
        needPerson(person);
        needPlace(place);
        int others = now.ofPerson(State.FAVOURS, person) & ~(1 << place);
        return change(State.FAVOURS, person, granted ? others | 1 << place : others);
    }

    public int undo() {
        if (acts.kept == 0) {
            return NONE;
        }
        acts.takeBack(now);
        return acts.kept;
    }

    // ---- ways

    public int way(int person, int to, int hour) throws NoSuchElementException, IllegalArgumentException {
        needPerson(person);
        needPlace(to);
        needUpTo(hour, DAY_HOURS - 1);
        walker.walk(land, now, person, hour);
        return walker.hourAt(to);
    }

    public int errands(int person, int places, int hour) throws NoSuchElementException, IllegalArgumentException {
        needPerson(person);
        needUpTo(places, (1 << land.places) - 1);
        needUpTo(hour, DAY_HOURS - 1);
        walker.visit(land, now, person, places, hour);
        return walker.hourBehind(places, land.homeOf(person));
    }

    public int reach(int person, int hour, int hours) throws NoSuchElementException, IllegalArgumentException {
        needPerson(person);
        needUpTo(hour, DAY_HOURS - 1);
        needUpTo(hours, 48);
        walker.walk(land, now, person, hour);
        int reached = 0;
        for (int place = 0; place < land.places; place++) {
            int comes = walker.hourAt(place);
            if (comes != NONE && comes <= hour + hours) {
                reached |= 1 << place;
            }
        }
        return reached;
    }

    public int meeting(int one, int other, int hour, int what) throws NoSuchElementException, IllegalArgumentException {
        needPerson(one);
        needPerson(other);
        needWhat(what, 1);
        if (one == other) {
            throw new IllegalArgumentException("both are one");
        }
        needUpTo(hour, DAY_HOURS - 1);
        walker.walk(land, now, one, hour);
        walker.remember();
        walker.walk(land, now, other, hour);
        int met = NONE;
        for (int place = 0; place < land.places; place++) {
            int both = walker.hourOfBoth(place);
            if (both != NONE && (met == NONE || both < walker.hourOfBoth(met))) {
                met = place;
            }
        }
        return met == NONE || what == 0 ? met : walker.hourOfBoth(met);
    }

    public int asked(int person, int to, int hour) throws NoSuchElementException {
        needPerson(person);
        needPlace(to);
        needHourOfRight(hour);
        return walker.favoursFor(land, now, person, to, hour);
    }

    public int lodged(int place) throws NoSuchElementException {
        needPlace(place);
        int best = NONE;
        int least = FAR_OFF;
        for (int house = 0; house < land.places; house++) {
            if (land.kindOf(house) == HOUSE && land.hoursBetween(place, house) < least) {
                best = house;
                least = land.hoursBetween(place, house);
            }
        }
        return best;
    }

    // ---- DAYS ahead

    public int then(int person, int days, int what) throws NoSuchElementException, IllegalArgumentException {
        needPerson(person);
        needWhat(what, 3);
        needUpTo(days, MOST_DAYS_AHEAD);
        season.begin(now);
        season.passDays(land, days);
        switch (what) {
            case 0: return season.state.ofPerson(State.LAMBS, person);
            case 1: return season.state.ofPerson(State.WOOD, person);
            case 2: return season.state.ofPerson(State.OWES, person);
            default: return season.state.ofPerson(State.COLD, person) - now.ofPerson(State.COLD, person);
        }
    }

    public int packThen(int pack, int days, int what) throws NoSuchElementException, IllegalArgumentException {
        needPack(pack);
        needWhat(what, 1);
        needUpTo(days, MOST_DAYS_AHEAD);
        season.begin(now);
        season.passDays(land, days);
        if (what == 0) {
            return season.state.ofPack(State.STORE, pack);
        }
        return season.state.ofPack(State.THIN, pack) - now.ofPack(State.THIN, pack);
    }

    public int lasts() {
        season.begin(now);
        for (int lasted = 0; lasted < MOST_DAYS_AHEAD; lasted++) {
            season.passDay(land);
            if (season.cold != 0 || season.thin != 0 || season.owesMoreThan(now)) {
                return lasted;
            }
        }
        return MOST_DAYS_AHEAD;
    }

    public int fairest(int days) throws IllegalArgumentException {
        needUpTo(days, MOST_DAYS_AHEAD);
        for (int due = 0; due <= MOST_FAIR; due++) {
            season.begin(now);
            season.dueOfAll = due;
            season.passDays(land, days);
            if (season.everThin == 0 && !season.owesMoreThan(now)) {
                return due;
            }
        }
        return NONE;
    }

    public int needed(int days) throws IllegalArgumentException {
        needUpTo(days, MOST_DAYS_AHEAD);
        season.begin(now);
        season.passDays(land, days);
        int thinAnyway = season.everThin;
        int people = 0;
        for (int person = 0; person < land.people; person++) {
            season.begin(now);
            season.spared = person;
            season.passDays(land, days);
            if ((season.everThin & ~thinAnyway) != 0) {
                people |= 1 << person;
            }
        }
        return people;
    }

    public int wood(int person, int days) throws NoSuchElementException, IllegalArgumentException {
        needPerson(person);
        needUpTo(days, MOST_DAYS_AHEAD);
        int burns = 0;
        for (int i = 0; i < days; i++) {
            if (land.snowOf(now.theDay() + i) != 0) {
                burns++;
            }
        }
        return Math.max(0, burns - now.ofPerson(State.WOOD, person));
    }

    public int edge(int person, int hour) throws NoSuchElementException, IllegalArgumentException {
        needPerson(person);
        needUpTo(hour, DAY_HOURS - 1);
        walker.walk(land, now, person, hour);
        int best = NONE;
        for (int place = 0; place < land.places; place++) {
            int comes = walker.hourAt(place);
            if (land.kindOf(place) == EDGE && comes != NONE && (best == NONE || comes < walker.hourAt(best))) {
                best = place;
            }
        }
        return best;
    }

    // ---- TRACKS

    public int track(int place, int hour) throws NoSuchElementException {
        needPlace(place);
        if (tracks.told >= MOST_TRACKS || hour < 0 || hour > LAST_TRACK_HOUR) {
            return refuse(TRACKS);
        }
        tracks.add(place, hour);
        return tracks.told;
    }

    public void forget() {
        tracks.clear();
    }

    public int suspects() {
        int people = 0;
        for (int person = 0; person < land.people; person++) {
            if (tracks.firstMissed(land, person) == NONE) {
                people |= 1 << person;
            }
        }
        return people;
    }

    public int alibi(int person) throws NoSuchElementException {
        needPerson(person);
        return tracks.firstMissed(land, person);
    }

    public int look(int hour) throws IllegalArgumentException {
        needUpTo(hour, LAST_TRACK_HOUR);
        int best = NONE;
        int least = 0;
        for (int place = 0; place < land.places; place++) {
            int unlike = unevenness(place, hour);
            if (best == NONE || unlike < least) {
                best = place;
                least = unlike;
            }
        }
        return best;
    }

    // ---- BARGAINS, FROSTS, WINTERS

    public int bargain(int person, int pack, int lambs, int what) throws NoSuchElementException, IllegalArgumentException {
        needPerson(person);
        needPack(pack);
        needWhat(what, 1);
        if (lambs < 1 || lambs > MOST_GOODS) {
            throw new IllegalArgumentException("1 to 99 LAMBS");
        }
        boolean can = now.ofPerson(State.LAMBS, person) >= lambs;
        boolean starved = now.ofPack(State.STORE, pack) < now.ofPack(State.HUNGER, pack);
        int rests = 0;
        int first = NONE;
        for (int couple = 0; couple < 4; couple++) {
            int gives = couple / 2;
            int grants = couple % 2;
            if ((gives == 0 || can) && personRests(gives, grants, lambs, can) && packRests(gives, grants, lambs, starved)) {
                first = rests == 0 ? 10 * gives + grants : first;
                rests++;
            }
        }
        return what == 0 ? rests : first;
    }

    public int frosts(int tenths, int days, int many, int what) throws NoSuchElementException, IllegalArgumentException {
        needWhat(what, 1);
        needUpTo(tenths, 10);
        needUpTo(many, 9);
        if (days < 1 || days > 9) {
            throw new IllegalArgumentException("1 to 9 DAYS");
        }
        long upper = 0;
        for (int frosty = many; frosty <= days; frosty++) {
            upper += choices(days, frosty) * power(tenths, frosty) * power(10 - tenths, days - frosty);
        }
        long lower = power(10, days);
        long common = commonDivisor(lower, upper);
        if (common == 0) {
            return NONE;
        }
        return (int) ((what == 0 ? upper : lower) / common);
    }

    public int winters(int seed, int n, int what) throws NoSuchElementException, IllegalArgumentException {
        needWhat(what, 2);
        needUpTo(n, 60);
        season.begin(now);
        season.seed = seed;
        int coldDays = 0;
        int thinDays = 0;
        for (int i = 0; i < n; i++) {
            season.passDrawnDay(land);
            coldDays += season.cold != 0 ? 1 : 0;
            thinDays += season.thin != 0 ? 1 : 0;
        }
        switch (what) {
            case 0: return coldDays;
            case 1: return thinDays;
            default: return lambsOfAll(season.state);
        }
    }

    // ---- what is open, who comes first

    public int open(int person, int place) throws NoSuchElementException {
        needPerson(person);
        needPlace(place);
        return Integer.bitCount(land.openHours(now, person, place));
    }

    public int closed() {
        int places = 0;
        for (int place = 0; place < land.places; place++) {
            if (!isOpenToSomebody(place)) {
                places |= 1 << place;
            }
        }
        return places;
    }

    public int breach(int person, int to, int hour) throws NoSuchElementException, IllegalArgumentException {
        needPerson(person);
        needPlace(to);
        needUpTo(hour, DAY_HOURS - 1);
        int place = land.homeOf(person);
        if (land.hoursBetween(place, to) >= FAR_OFF) {
            return NO_WAY;
        }
        int comes = hour;
        for (int steps = 0; steps < MOST_PLACES && place != to; steps++) {
            int next = land.nextOnShortest(place, to);
            comes += land.hoursOfPath(place, next);
            if (!land.allows(now, person, next, comes % DAY_HOURS)) {
                return next;
            }
            place = next;
        }
        return NONE;
    }

    public int firstCold(int what) throws NoSuchElementException {
        needWhat(what, 1);
        season.begin(now);
        for (int days = 1; days <= MOST_DAYS_AHEAD; days++) {
            season.passDay(land);
            if (season.cold != 0) {
                return what == 0 ? days : leastOf(season.cold);
            }
        }
        return NONE;
    }

    public int firstThin(int what) throws NoSuchElementException {
        needWhat(what, 1);
        season.begin(now);
        for (int days = 1; days <= MOST_DAYS_AHEAD; days++) {
            season.passDay(land);
            if (season.thin != 0) {
                return what == 0 ? days : leastOf(season.thin);
            }
        }
        return NONE;
    }

    public int paid(int days) throws IllegalArgumentException {
        needUpTo(days, MOST_DAYS_AHEAD);
        season.begin(now);
        season.passDays(land, days);
        return season.given;
    }

    public int debtor() {
        int most = 0;
        int who = NONE;
        for (int person = 0; person < land.people; person++) {
            if (now.ofPerson(State.OWES, person) > most) {
                most = now.ofPerson(State.OWES, person);
                who = person;
            }
        }
        return who;
    }

    public int neighbour(int person) throws NoSuchElementException {
        needPerson(person);
        int best = NONE;
        int least = FAR_OFF;
        for (int other = 0; other < land.people; other++) {
            int hours = land.hoursBetween(land.homeOf(person), land.homeOf(other));
            if (other != person && hours < least) {
                best = other;
                least = hours;
            }
        }
        return best;
    }

    // ---- the image

    public void image() {
        imageState.copy(now);
        imageActs.copy(acts);
        imageTracks.copy(tracks);
        hasImage = true;
    }

    public boolean restore() {
        if (!hasImage) {
            return false;
        }
        now.copy(imageState);
        acts.copy(imageActs);
        tracks.copy(imageTracks);
        return true;
    }

    // ---- what the calls share

    private int refuse(int status) {
        put(refused, status, at(refused, status) + 1);
        return NONE;
    }

    /** An ACT that changes one number of a PERSON, or is refused if the number is so already. */
    private boolean change(int part, int person, int wanted) {
        if (now.ofPerson(part, person) == wanted) {
            refuse(ACTS);
            return false;
        }
        acts.keep(now);
        now.setOfPerson(part, person, wanted);
        return true;
    }

    private int lambsOfAll(State state) {
        int lambs = 0;
        for (int person = 0; person < land.people; person++) {
            lambs += state.ofPerson(State.LAMBS, person);
        }
        return lambs;
    }

    private boolean isOpenToSomebody(int place) {
        for (int person = 0; person < land.people; person++) {
            if (land.openHours(now, person, place) != 0) {
                return true;
            }
        }
        return false;
    }

    /** By how many the two parts of the SUSPECTS differ that a TRACK at a PLACE in an HOUR would make. */
    private int unevenness(int place, int hour) {
        int before = Integer.bitCount(suspects());
        tracks.add(place, hour);
        int still = Integer.bitCount(suspects());
        tracks.dropLast();
        return Math.abs(still - (before - still));
    }

    private static int leastOf(int bits) {
        for (int i = 0; i < 32; i++) {
            if ((bits >> i & 1) == 1) {
                return i;
            }
        }
        return NONE;
    }

    private static boolean personRests(int gives, int grants, int lambs, boolean can) {
        boolean hasOther = gives == 1 || can;
        return !hasOther || personGains(1 - gives, grants, lambs) <= personGains(gives, grants, lambs);
    }

    private static boolean packRests(int gives, int grants, int lambs, boolean starved) {
        return packGains(gives, 1 - grants, lambs, starved) <= packGains(gives, grants, lambs, starved);
    }

    private static int personGains(int gives, int grants, int lambs) {
        return 10 * grants - lambs * gives;
    }

    private static int packGains(int gives, int grants, int lambs, boolean starved) {
        return lambs * gives * (starved ? 2 : 1) - 4 * grants;
    }

    private static long choices(int of, int many) {
        long ways = 1;
        for (int i = 1; i <= many; i++) {
            ways = ways * (of - many + i) / i;
        }
        return ways;
    }

    private static long power(long base, int exponent) {
        long product = 1;
        for (int i = 0; i < exponent; i++) {
            product *= base;
        }
        return product;
    }

    private static long commonDivisor(long one, long other) {
        long greater = one;
        long less = other;
        for (int i = 0; i < 100 && less != 0; i++) {
            long rest = greater % less;
            greater = less;
            less = rest;
        }
        return greater;
    }

    private void needPack(int pack) throws NoSuchElementException {
        if (pack < 0 || pack >= land.packs) {
            throw new NoSuchElementException("no such PACK");
        }
    }

    private void needPlace(int place) throws NoSuchElementException {
        if (place < 0 || place >= land.places) {
            throw new NoSuchElementException("no such PLACE");
        }
    }

    private void needPerson(int person) throws NoSuchElementException {
        if (person < 0 || person >= land.people) {
            throw new NoSuchElementException("no such PERSON");
        }
    }

    private static void needHourOfRight(int hour) throws NoSuchElementException {
        if (hour < 0 || hour >= DAY_HOURS) {
            throw new NoSuchElementException("no such hour");
        }
    }

    private static void needWhat(int what, int most) throws NoSuchElementException {
        if (what < 0 || what > most) {
            throw new NoSuchElementException("no such what");
        }
    }

    private static void needUpTo(int number, int most) throws IllegalArgumentException {
        if (number < 0 || number > most) {
            throw new IllegalArgumentException("out of what the document allows");
        }
    }

    // ---- rows that no index can break

    private static int at(int[] row, int index) {
        return index >= 0 && index < row.length ? row[index] : 0;
    }

    private static void put(int[] row, int index, int number) {
        if (index >= 0 && index < row.length) {
            row[index] = number;
        }
    }

    private static void fill(int[] row, int many, int number) {
        for (int i = 0; i < many && i < row.length; i++) {
            row[i] = number;
        }
    }

    private static void copyRow(int[] from, int start, int[] to, int target, int many) {
        for (int i = 0; i < many; i++) {
            put(to, target + i, at(from, start + i));
        }
    }

    /** What DAYS and other ACTS change, in one row, so that ACTS and the image keep it as a plain copy. */
    private static final class State {
        static final int LAMBS = 0;
        static final int WOOD = 1;
        static final int OWES = 2;
        static final int COLD = 3;
        static final int LAMP = 4;
        static final int FAVOURS = 5;
        static final int STORE = 0;
        static final int THIN = 1;
        /** Changes in WINTERS by a seed alone. */
        static final int HUNGER = 2;
        static final int LENGTH = 1 + 6 * MOST_PEOPLE + 3 * MOST_PACKS;
        private static final int FIRST_PERSON = 1;
        private static final int FIRST_PACK = 1 + 6 * MOST_PEOPLE;

        final int[] row = new int[LENGTH];

        int theDay() {
            return at(row, 0);
        }

        void setDay(int day) {
            put(row, 0, day);
        }

        int ofPerson(int part, int person) {
            return at(row, FIRST_PERSON + part * MOST_PEOPLE + person);
        }

        void setOfPerson(int part, int person, int number) {
            put(row, FIRST_PERSON + part * MOST_PEOPLE + person, number);
        }

        int ofPack(int part, int pack) {
            return at(row, FIRST_PACK + part * MOST_PACKS + pack);
        }

        void setOfPack(int part, int pack, int number) {
            put(row, FIRST_PACK + part * MOST_PACKS + pack, number);
        }

        void clear() {
            fill(row, LENGTH, 0);
        }

        void copy(State other) {
            copyRow(other.row, 0, row, 0, LENGTH);
        }
    }

    /** The states ahead of the latest ACTS, in a ring, so that the oldest one gives way to the newest. */
    private static final class Acts {
        private final int[] rows = new int[MOST_ACTS * State.LENGTH];
        private int next;
        int kept;

        void clear() {
            kept = 0;
        }

        void keep(State state) {
            copyRow(state.row, 0, rows, next * State.LENGTH, State.LENGTH);
            next = next + 1 < MOST_ACTS ? next + 1 : 0;
            kept = Math.min(MOST_ACTS, kept + 1);
        }

        void takeBack(State state) {
            next = next > 0 ? next - 1 : MOST_ACTS - 1;
            kept = Math.max(0, kept - 1);
            copyRow(rows, next * State.LENGTH, state.row, 0, State.LENGTH);
        }

        void copy(Acts other) {
            copyRow(other.rows, 0, rows, 0, MOST_ACTS * State.LENGTH);
            next = other.next;
            kept = other.kept;
        }
    }

    /** TRACKS as told, with one row more for the one that LOOK NEXT supposes. */
    private static final class Tracks {
        private final int[] places = new int[MOST_TRACKS + 1];
        private final int[] hours = new int[MOST_TRACKS + 1];
        int told;

        void clear() {
            told = 0;
        }

        void add(int place, int hour) {
            put(places, told, place);
            put(hours, told, hour);
            told++;
        }

        void dropLast() {
            told = Math.max(0, told - 1);
        }

        void copy(Tracks other) {
            copyRow(other.places, 0, places, 0, MOST_TRACKS);
            copyRow(other.hours, 0, hours, 0, MOST_TRACKS);
            told = other.told;
        }

        /** The first TRACK by HOURS that a PERSON can't have left; NONE: he can have left all. */
        int firstMissed(Land land, int person) {
            int place = land.homeOf(person);
            int hour = 0;
            int seen = 0;
            for (int i = 0; i < told; i++) {
                int track = earliestBut(seen);
                if (land.hoursBetween(place, at(places, track)) > at(hours, track) - hour) {
                    return track;
                }
                seen |= 1 << track;
                place = at(places, track);
                hour = at(hours, track);
            }
            return NONE;
        }

        private int earliestBut(int seen) {
            int earliest = NONE;
            for (int track = 0; track < told; track++) {
                boolean isNew = (seen >> track & 1) == 0;
                if (isNew && (earliest == NONE || at(hours, track) < at(hours, earliest))) {
                    earliest = track;
                }
            }
            return earliest;
        }
    }

    /** A RIGHT or a RENT: its EXPR as steps of a stack, each number and value ahead of its sign. */
    private static final class Deed {
        static final int VALUE = 10000;
        static final int OR = 20000;
        static final int AND = 20001;
        static final int NOT = 20002;
        static final int LESS = 20003;
        static final int SAME = 20004;
        static final int PLUS = 20005;
        static final int MINUS = 20006;
        static final int TIMES = 20007;
        static final int BY = 20008;
        /** Six EXPRS within one another leave five open sides each at most. */
        private static final int MOST_OPEN = 40;

        final String values;
        private final int[] steps = new int[MOST_BYTES];
        private final int[] stack = new int[MOST_OPEN];
        private int length;

        Deed(String values) {
            this.values = values;
        }

        void clear() {
            length = 0;
        }

        boolean isTold() {
            return length > 0;
        }

        void add(int step) {
            put(steps, length, step);
            length++;
        }

        /** What it gives for values in the order of their words. */
        int worth(int[] given) {
            int top = NONE;
            for (int i = 0; i < length; i++) {
                int step = at(steps, i);
                if (step < VALUE) {
                    top++;
                    put(stack, top, step);
                } else if (step < OR) {
                    top++;
                    put(stack, top, at(given, step - VALUE));
                } else if (step == NOT) {
                    put(stack, top, at(stack, top) == 0 ? 1 : 0);
                } else {
                    top--;
                    put(stack, top, joined(step, at(stack, top), at(stack, top + 1)));
                }
            }
            return at(stack, 0);
        }

        private static int joined(int sign, int one, int other) {
            switch (sign) {
                case OR: return one != 0 || other != 0 ? 1 : 0;
                case AND: return one != 0 && other != 0 ? 1 : 0;
                case LESS: return one < other ? 1 : 0;
                case SAME: return one == other ? 1 : 0;
                case PLUS: return one + other;
                case MINUS: return one - other;
                case TIMES: return one * other;
                default: return other == 0 ? 0 : one / other;
            }
        }
    }

    /** What a WINTER tells and no ACT changes. */
    private static final class Land {
        private final int[] placeKinds = new int[MOST_PLACES];
        private final int[] placePacks = new int[MOST_PLACES];
        private final int[] personKinds = new int[MOST_PEOPLE];
        private final int[] homes = new int[MOST_PEOPLE];
        private final int[] snow = new int[MOST_SNOWS];
        /** HOURS of the PATH between two PLACES; 0: there is none. */
        private final int[] pathHours = new int[MOST_PLACES * MOST_PLACES];
        private final int[] shortest = new int[MOST_PLACES * MOST_PLACES];
        private final int[] values = new int[7];
        final Deed rightDeed = new Deed("kind place hour snow lamp owes day ");
        final Deed rentDeed = new Deed("lambs kind hunger store snow day owes ");
        final State first = new State();
        int packs;
        int places;
        int paths;
        int people;
        int snows;

        void clear() {
            packs = 0;
            places = 0;
            paths = 0;
            people = 0;
            snows = 0;
            first.clear();
            rightDeed.clear();
            rentDeed.clear();
            fill(pathHours, MOST_PLACES * MOST_PLACES, 0);
        }

        void addPack(int hunger, int store) {
            first.setOfPack(State.HUNGER, packs, hunger);
            first.setOfPack(State.STORE, packs, store);
            packs++;
        }

        void addPlace(int kind, int pack) {
            put(placeKinds, places, kind);
            put(placePacks, places, pack);
            places++;
        }

        void addPath(int one, int other, int hours) {
            put(pathHours, one * MOST_PLACES + other, hours);
            put(pathHours, other * MOST_PLACES + one, hours);
            paths++;
        }

        void addPerson(int kind, int home, int lambs, int wood) {
            put(personKinds, people, kind);
            put(homes, people, home);
            first.setOfPerson(State.LAMBS, people, lambs);
            first.setOfPerson(State.WOOD, people, wood);
            people++;
        }

        void addSnow(int number) {
            put(snow, snows, number);
            snows++;
        }

        /** Finds the shortest ways, once all PATHS are told. */
        void measure() {
            for (int one = 0; one < places; one++) {
                for (int other = 0; other < places; other++) {
                    int hours = hoursOfPath(one, other);
                    int direct = hours > 0 ? hours : FAR_OFF;
                    put(shortest, one * MOST_PLACES + other, one == other ? 0 : direct);
                }
            }
            for (int through = 0; through < places; through++) {
                shortenThrough(through);
            }
        }

        private void shortenThrough(int through) {
            for (int one = 0; one < places; one++) {
                for (int other = 0; other < places; other++) {
                    int hours = hoursBetween(one, through) + hoursBetween(through, other);
                    if (hours < hoursBetween(one, other)) {
                        put(shortest, one * MOST_PLACES + other, hours);
                    }
                }
            }
        }

        int kindOf(int place) {
            return at(placeKinds, place);
        }

        int packOf(int place) {
            return at(placePacks, place);
        }

        int kindOfPerson(int person) {
            return at(personKinds, person);
        }

        int homeOf(int person) {
            return at(homes, person);
        }

        int packOfHome(int person) {
            return at(placePacks, at(homes, person));
        }

        int hoursOfPath(int one, int other) {
            return at(pathHours, one * MOST_PLACES + other);
        }

        int hoursBetween(int one, int other) {
            return at(shortest, one * MOST_PLACES + other);
        }

        int snowOf(int day) {
            return snows > 0 && day >= 0 ? at(snow, day % snows) : 1;
        }

        int placesOf(int pack) {
            int bits = 0;
            for (int place = 0; place < places; place++) {
                bits |= packOf(place) == pack ? 1 << place : 0;
            }
            return bits;
        }

        int peopleUnder(int pack) {
            int bits = 0;
            for (int person = 0; person < people; person++) {
                bits |= packOfHome(person) == pack ? 1 << person : 0;
            }
            return bits;
        }

        int peopleAt(int place) {
            int bits = 0;
            for (int person = 0; person < people; person++) {
                bits |= homeOf(person) == place ? 1 << person : 0;
            }
            return bits;
        }

        int pathsFrom(int place) {
            int many = 0;
            for (int other = 0; other < places; other++) {
                many += hoursOfPath(place, other) > 0 ? 1 : 0;
            }
            return many;
        }

        /** The least PLACE that stands next on a shortest way; the PLACE itself, if there is none. */
        int nextOnShortest(int place, int to) {
            for (int next = 0; next < places; next++) {
                int hours = hoursOfPath(place, next);
                if (hours > 0 && hours + hoursBetween(next, to) == hoursBetween(place, to)) {
                    return next;
                }
            }
            return place;
        }

        /** Whether a PERSON HAS A RIGHT to be at a PLACE in an hour of the day. */
        boolean allows(State state, int person, int place, int hour) {
            boolean isFavoured = (state.ofPerson(State.FAVOURS, person) >> place & 1) == 1;
            if (isFavoured || homeOf(person) == place) {
                return true;
            }
            if (!rightDeed.isTold()) {
                return hour >= 6 && hour <= 17;
            }
            put(values, 0, kindOfPerson(person));
            put(values, 1, kindOf(place));
            put(values, 2, hour);
            put(values, 3, snowOf(state.theDay()));
            put(values, 4, state.ofPerson(State.LAMP, person));
            put(values, 5, state.ofPerson(State.OWES, person));
            put(values, 6, state.theDay());
            return rightDeed.worth(values) > 0;
        }

        /** The hours of the day in which a PLACE is OPEN to a PERSON, as bits. */
        int openHours(State state, int person, int place) {
            int bits = 0;
            for (int hour = 0; hour < DAY_HOURS; hour++) {
                bits |= allows(state, person, place, hour) ? 1 << hour : 0;
            }
            return bits;
        }

        /** What is DUE of a PERSON by RENT on a DAY with so much SNOW. */
        int rentOf(State state, int person, int daySnow) {
            if (!rentDeed.isTold()) {
                return 1;
            }
            int pack = packOfHome(person);
            put(values, 0, state.ofPerson(State.LAMBS, person));
            put(values, 1, kindOfPerson(person));
            put(values, 2, state.ofPack(State.HUNGER, pack));
            put(values, 3, state.ofPack(State.STORE, pack));
            put(values, 4, daySnow);
            put(values, 5, state.theDay());
            put(values, 6, state.ofPerson(State.OWES, person));
            return Math.max(0, Math.min(MOST_DUE, rentDeed.worth(values)));
        }
    }

    /** DAYS that go by on a copy of the state, and what the latest of them brought. */
    private static final class Season {
        final State state = new State();
        /** What is DUE of everybody; NONE: what RENT gives. */
        int dueOfAll;
        /** Who neither pays nor OWES; NONE: nobody. */
        int spared;
        int seed;
        int cold;
        int thin;
        int everThin;
        int given;

        void begin(State now) {
            state.copy(now);
            dueOfAll = NONE;
            spared = NONE;
            cold = 0;
            thin = 0;
            everThin = 0;
            given = 0;
        }

        void passDays(Land land, int many) {
            for (int i = 0; i < many; i++) {
                passDay(land);
            }
        }

        void passDay(Land land) {
            passSnowyDay(land, land.snowOf(state.theDay()));
        }

        /** A DAY of WINTERS: its SNOW and a PACK's HUNGER are drawn ahead of it. */
        void passDrawnDay(Land land) {
            int snow = drawn(10);
            if (land.packs > 0) {
                int pack = drawn(land.packs);
                int turn = drawn(3);
                int hunger = state.ofPack(State.HUNGER, pack);
                if (turn == 0) {
                    state.setOfPack(State.HUNGER, pack, Math.min(MOST_HUNGER, hunger + 1));
                } else if (turn == 1) {
                    state.setOfPack(State.HUNGER, pack, Math.max(0, hunger - 1));
                }
            }
            passSnowyDay(land, snow);
        }

        private int drawn(int of) {
            seed = seed * 1103515245 + 12345;
            return of > 0 ? (seed >>> 16 & 32767) % of : 0;
        }

        private void passSnowyDay(Land land, int snow) {
            for (int person = 0; person < land.people; person++) {
                if (person != spared) {
                    payRent(land, person, dueOfAll != NONE ? dueOfAll : land.rentOf(state, person, snow));
                }
            }
            eat(land.packs);
            cold = 0;
            if (snow != 0) {
                burn(land.people);
            }
            if ((state.theDay() + 1) % 7 == 0) {
                breed(land.people);
            }
            state.setDay(state.theDay() + 1);
        }

        private void payRent(Land land, int person, int due) {
            int has = state.ofPerson(State.LAMBS, person);
            int pays = Math.min(due, has);
            int pack = land.packOfHome(person);
            int owes = state.ofPerson(State.OWES, person) + due - pays;
            state.setOfPerson(State.LAMBS, person, has - pays);
            state.setOfPack(State.STORE, pack, Math.min(MOST_STORE, state.ofPack(State.STORE, pack) + pays));
            state.setOfPerson(State.OWES, person, Math.min(MOST_OWED, owes));
            given += pays;
        }

        private void eat(int packs) {
            thin = 0;
            for (int pack = 0; pack < packs; pack++) {
                int left = state.ofPack(State.STORE, pack) - state.ofPack(State.HUNGER, pack);
                state.setOfPack(State.STORE, pack, Math.max(0, left));
                if (left < 0) {
                    state.setOfPack(State.THIN, pack, state.ofPack(State.THIN, pack) + 1);
                    thin |= 1 << pack;
                }
            }
            everThin |= thin;
        }

        private void burn(int people) {
            for (int person = 0; person < people; person++) {
                int wood = state.ofPerson(State.WOOD, person);
                if (wood > 0) {
                    state.setOfPerson(State.WOOD, person, wood - 1);
                } else {
                    state.setOfPerson(State.COLD, person, state.ofPerson(State.COLD, person) + 1);
                    cold |= 1 << person;
                }
            }
        }

        private void breed(int people) {
            for (int person = 0; person < people; person++) {
                int lambs = state.ofPerson(State.LAMBS, person);
                state.setOfPerson(State.LAMBS, person, Math.min(MOST_GOODS, lambs + lambs / 4));
            }
        }

        boolean owesMoreThan(State now) {
            for (int person = 0; person < MOST_PEOPLE; person++) {
                if (state.ofPerson(State.OWES, person) > now.ofPerson(State.OWES, person)) {
                    return true;
                }
            }
            return false;
        }
    }

    /** One who goes BY RIGHT: in which HOUR he can be where, with which of the told PLACES behind him. */
    private static final class Walker {
        private static final int NEVER = LAST_HOUR + 1;

        /** How many hours to wait for a RIGHT in a PLACE, by the hour of the day; NONE: for ever. */
        private final int[] waits = new int[MOST_PLACES * DAY_HOURS];
        /** The soonest HOUR by the set of PLACES visited, and the PLACE. */
        private final int[] comes = new int[(1 << MOST_PLACES) * MOST_PLACES];
        private final int[] remembered = new int[MOST_PLACES];
        private final int[] favours = new int[MOST_PLACES];

        void walk(Land land, State state, int person, int hour) {
            visit(land, state, person, 0, hour);
        }

        void visit(Land land, State state, int person, int told, int hour) {
            for (int place = 0; place < land.places; place++) {
                learnWaits(place, land.openHours(state, person, place));
            }
            fill(comes, (told + 1) * MOST_PLACES, NEVER);
            int home = land.homeOf(person);
            put(comes, (told & 1 << home) * MOST_PLACES + home, hour);
            // A set only grows on the way, so by rising numbers each set is whole when its turn comes.
            for (int set = 0; set <= told; set++) {
                if ((set & ~told) == 0) {
                    spread(land, told, set);
                }
            }
        }

        /** Twice round the day, from behind, as the next hour of RIGHT may be tomorrow's. */
        private void learnWaits(int place, int openHours) {
            int wait = NONE;
            for (int i = 2 * DAY_HOURS - 1; i >= 0; i--) {
                int hour = i % DAY_HOURS;
                if ((openHours >> hour & 1) == 1) {
                    wait = 0;
                } else if (wait != NONE) {
                    wait++;
                }
                put(waits, place * DAY_HOURS + hour, wait);
            }
        }

        private void spread(Land land, int told, int set) {
            int left = 0;
            for (int i = 0; i < land.places; i++) {
                int place = soonestBut(land.places, set, left);
                if (place == NONE) {
                    return;
                }
                left |= 1 << place;
                int hour = at(comes, set * MOST_PLACES + place);
                for (int next = 0; next < land.places; next++) {
                    int hours = land.hoursOfPath(place, next);
                    if (hours > 0) {
                        arrive(set | told & 1 << next, next, hour + hours);
                    }
                }
            }
        }

        private int soonestBut(int places, int set, int left) {
            int soonest = NONE;
            int least = NEVER;
            for (int place = 0; place < places; place++) {
                int hour = at(comes, set * MOST_PLACES + place);
                if ((left >> place & 1) == 0 && hour < least) {
                    soonest = place;
                    least = hour;
                }
            }
            return soonest;
        }

        private void arrive(int set, int place, int hour) {
            int wait = at(waits, place * DAY_HOURS + hour % DAY_HOURS);
            int index = set * MOST_PLACES + place;
            if (wait != NONE && hour + wait < at(comes, index)) {
                put(comes, index, hour + wait);
            }
        }

        int hourAt(int place) {
            return hourBehind(0, place);
        }

        int hourBehind(int set, int place) {
            int hour = at(comes, set * MOST_PLACES + place);
            return hour < NEVER ? hour : NONE;
        }

        /** Keeps the HOURS of one, for a MEETING with the next who walks. */
        void remember() {
            copyRow(comes, 0, remembered, 0, MOST_PLACES);
        }

        int hourOfBoth(int place) {
            int both = Math.max(at(remembered, place), at(comes, place));
            return both < NEVER ? both : NONE;
        }

        /** The fewest FAVOURS more for a way all in one hour; NONE: there is no way. */
        int favoursFor(Land land, State state, int person, int to, int hour) {
            fill(favours, MOST_PLACES, FAR_OFF);
            put(favours, land.homeOf(person), 0);
            for (int i = 1; i < land.places; i++) {
                for (int place = 0; place < land.places; place++) {
                    int costs = land.allows(state, person, place, hour) ? 0 : 1;
                    put(favours, place, Math.min(at(favours, place), costs + fewestNextTo(land, place)));
                }
            }
            return at(favours, to) < FAR_OFF ? at(favours, to) : NONE;
        }

        private int fewestNextTo(Land land, int place) {
            int fewest = FAR_OFF;
            for (int other = 0; other < land.places; other++) {
                if (land.hoursOfPath(other, place) > 0) {
                    fewest = Math.min(fewest, at(favours, other));
                }
            }
            return fewest;
        }
    }

    /** The tape, and the WINTER that is read from it, TOKEN by TOKEN, up to the first FAULT. */
    private static final class Reader {
        private static final int END = 0;
        private static final int WORD = 1;
        private static final int NUMBER = 2;
        private static final int STRANGE = 3;
        private static final String SIGNS = ";()+-*/<=";

        private static final String LINES = "pack house field edge wood path squire doctor widow child snow right rent ";
        private static final int PACK_LINE = 0;
        private static final int FIRST_PLACE_LINE = 1;
        private static final int LAST_PLACE_LINE = 4;
        private static final int PATH_LINE = 5;
        private static final int FIRST_PERSON_LINE = 6;
        private static final int LAST_PERSON_LINE = 9;
        private static final int SNOW_LINE = 10;
        private static final int RIGHT_LINE = 11;

        private static final int MISPLACED = 1;
        private static final int TOO_MUCH = 2;
        private static final int NOT_TOLD = 3;
        private static final int BAD_PATH = 4;
        private static final int SECOND = 5;
        private static final int NO_HOUSE = 6;

        private static final int MOST_DIGITS = 4;
        private static final int MOST_WITHIN = 6;
        private static final int MOST_NOTS = 6;

        private final int[] tape = new int[MOST_BYTES];
        int bytes;
        Land land = new Land();
        int faultPlace = NONE;
        private int faultNumber;
        private int end;
        /** The TOKEN's kind (of a sign its byte), its first byte, and the byte behind it. */
        private int token;
        private int start;
        private int behind;

        void take(int number) {
            for (int shift = 24; shift >= 0; shift -= 8) {
                put(tape, bytes, number >>> shift & 255);
                bytes++;
            }
        }

        /** Reads the first bytes as a WINTER into the land: 0, or the number of the FAULT. The tape is empty then. */
        int read(int many) {
            bytes = 0;
            end = many;
            behind = 0;
            faultNumber = 0;
            faultPlace = NONE;
            land.clear();
            step();
            for (int i = 0; i < MOST_BYTES && token != END && faultNumber == 0; i++) {
                readLine();
            }
            land.measure();
            return faultNumber;
        }

        private void refuse(int number) {
            if (faultNumber == 0) {
                faultNumber = number;
                faultPlace = start;
            }
        }

        private void step() {
            start = behind;
            while (start < end && isBlank(at(tape, start))) {
                start++;
            }
            int sign = at(tape, start);
            behind = start + 1;
            if (start >= end) {
                token = END;
                behind = end;
            } else if (isLetter(sign)) {
                token = WORD;
                behind = behindRow(true);
            } else if (isDigit(sign)) {
                token = NUMBER;
                behind = behindRow(false);
            } else {
                token = isSign(sign) ? sign : STRANGE;
            }
        }

        private int behindRow(boolean ofLetters) {
            int next = start;
            while (next < end && (ofLetters ? isLetter(at(tape, next)) : isDigit(at(tape, next)))) {
                next++;
            }
            return next;
        }

        private static boolean isBlank(int sign) {
            return sign == 32 || sign == 10;
        }

        private static boolean isLetter(int sign) {
            return sign >= 'a' && sign <= 'z';
        }

        private static boolean isDigit(int sign) {
            return sign >= '0' && sign <= '9';
        }

        private static boolean isSign(int sign) {
            return SIGNS.indexOf((char) sign) >= 0;
        }

        /** Which of some words the TOKEN is, each of which has a blank behind it; NONE: none of them. */
        private int wordAmong(String words) {
            int which = 0;
            int from = 0;
            for (int i = 0; i < words.length() && token == WORD; i++) {
                if (words.charAt(i) == ' ') {
                    if (isSpelt(words, from, i)) {
                        return which;
                    }
                    which++;
                    from = i + 1;
                }
            }
            return NONE;
        }

        private boolean isSpelt(String words, int from, int to) {
            if (behind - start != to - from) {
                return false;
            }
            for (int i = from; i >= 0 && i < to && i < words.length(); i++) {
                if (words.charAt(i) != at(tape, start + i - from)) {
                    return false;
                }
            }
            return true;
        }

        private void expect(int sign) {
            if (token != sign) {
                refuse(MISPLACED);
            }
            step();
        }

        private int numberHere() {
            if (token != NUMBER) {
                refuse(MISPLACED);
                return 0;
            }
            if (behind - start > MOST_DIGITS) {
                refuse(TOO_MUCH);
                return 0;
            }
            int number = 0;
            for (int i = start; i < behind; i++) {
                number = number * 10 + at(tape, i) - '0';
            }
            return number;
        }

        private int takeNumber(int least, int most) {
            int number = numberHere();
            if (number < least || number > most) {
                refuse(TOO_MUCH);
            }
            step();
            return number;
        }

        private int toldNumberHere(int told) {
            int number = numberHere();
            if (number >= told) {
                refuse(NOT_TOLD);
            }
            return number;
        }

        private void readLine() {
            int line = wordAmong(LINES);
            if (line == NONE) {
                refuse(MISPLACED);
            } else if (line == PACK_LINE) {
                readPack();
            } else if (line <= LAST_PLACE_LINE) {
                readPlace(line - FIRST_PLACE_LINE);
            } else if (line == PATH_LINE) {
                readPath();
            } else if (line <= LAST_PERSON_LINE) {
                readPerson(line - FIRST_PERSON_LINE);
            } else if (line == SNOW_LINE) {
                readSnow();
            } else {
                readDeed(line == RIGHT_LINE ? land.rightDeed : land.rentDeed);
            }
            expect(';');
        }

        private void readPack() {
            if (land.packs >= MOST_PACKS) {
                refuse(TOO_MUCH);
            }
            step();
            int hunger = takeNumber(0, MOST_HUNGER);
            int store = takeNumber(0, MOST_GOODS);
            if (faultNumber == 0) {
                land.addPack(hunger, store);
            }
        }

        private void readPlace(int kind) {
            if (land.places >= MOST_PLACES) {
                refuse(TOO_MUCH);
            }
            step();
            int pack = toldNumberHere(land.packs);
            step();
            if (faultNumber == 0) {
                land.addPlace(kind, pack);
            }
        }

        private void readPath() {
            if (land.paths >= MOST_PATHS) {
                refuse(TOO_MUCH);
            }
            step();
            int one = toldNumberHere(land.places);
            step();
            int other = toldNumberHere(land.places);
            if (other == one || land.hoursOfPath(one, other) > 0) {
                refuse(BAD_PATH);
            }
            step();
            int hours = takeNumber(1, 9);
            if (faultNumber == 0) {
                land.addPath(one, other, hours);
            }
        }

        private void readPerson(int kind) {
            if (land.people >= MOST_PEOPLE) {
                refuse(TOO_MUCH);
            }
            step();
            int home = toldNumberHere(land.places);
            if (land.kindOf(home) != HOUSE) {
                refuse(NO_HOUSE);
            }
            step();
            int lambs = takeNumber(0, MOST_GOODS);
            int wood = takeNumber(0, MOST_GOODS);
            if (faultNumber == 0) {
                land.addPerson(kind, home, lambs, wood);
            }
        }

        private void readSnow() {
            if (land.snows > 0) {
                refuse(SECOND);
            }
            step();
            land.addSnow(takeNumber(0, 9));
            for (int i = 0; i < MOST_BYTES && token == NUMBER && faultNumber == 0; i++) {
                if (land.snows >= MOST_SNOWS) {
                    refuse(TOO_MUCH);
                }
                land.addSnow(takeNumber(0, 9));
            }
        }

        private void readDeed(Deed deed) {
            if (deed.isTold()) {
                refuse(SECOND);
            }
            step();
            readExpr(deed, 0);
        }

        private void readExpr(Deed deed, int within) {
            if (within >= MOST_WITHIN && (token == NUMBER || token == WORD || token == '(')) {
                refuse(TOO_MUCH);
            }
            if (faultNumber != 0) {
                return;
            }
            readAnd(deed, within);
            for (int i = 0; i < MOST_BYTES && wordAmong("or ") == 0 && faultNumber == 0; i++) {
                step();
                readAnd(deed, within);
                deed.add(Deed.OR);
            }
        }

        private void readAnd(Deed deed, int within) {
            readNot(deed, within);
            for (int i = 0; i < MOST_BYTES && wordAmong("and ") == 0 && faultNumber == 0; i++) {
                step();
                readNot(deed, within);
                deed.add(Deed.AND);
            }
        }

        private void readNot(Deed deed, int within) {
            int nots = 0;
            for (int i = 0; i < MOST_BYTES && wordAmong("not ") == 0 && faultNumber == 0; i++) {
                if (nots >= MOST_NOTS) {
                    refuse(TOO_MUCH);
                }
                nots++;
                step();
            }
            readTest(deed, within);
            for (int i = 0; i < nots; i++) {
                deed.add(Deed.NOT);
            }
        }

        private void readTest(Deed deed, int within) {
            readSum(deed, within);
            if (token == '<' || token == '=') {
                int sign = token == '<' ? Deed.LESS : Deed.SAME;
                step();
                readSum(deed, within);
                deed.add(sign);
            }
        }

        private void readSum(Deed deed, int within) {
            readProduct(deed, within);
            for (int i = 0; i < MOST_BYTES && (token == '+' || token == '-') && faultNumber == 0; i++) {
                int sign = token == '+' ? Deed.PLUS : Deed.MINUS;
                step();
                readProduct(deed, within);
                deed.add(sign);
            }
        }

        private void readProduct(Deed deed, int within) {
            readPart(deed, within);
            for (int i = 0; i < MOST_BYTES && (token == '*' || token == '/') && faultNumber == 0; i++) {
                int sign = token == '*' ? Deed.TIMES : Deed.BY;
                step();
                readPart(deed, within);
                deed.add(sign);
            }
        }

        private void readPart(Deed deed, int within) {
            if (token == '(') {
                step();
                readExpr(deed, within + 1);
                expect(')');
            } else if (token == WORD) {
                int value = wordAmong(deed.values);
                if (value == NONE) {
                    refuse(NOT_TOLD);
                }
                deed.add(Deed.VALUE + value);
                step();
            } else {
                deed.add(numberHere());
                step();
            }
        }
    }
}
