/** Alum works upon a cliff: what stands there, what is done there, and how the days go on. */
public final class AlumWorks {
    private static final int RAIN_DAYS = 6;
    private static final int MOST_RAIN = 9;
    private static final int HEAVY_RAIN = 5;
    private static final int SHIP_DAYS = 7;
    private static final int MOST_TAKEN = 60;

    private static final int MOST_COAL = 500;
    private static final int MOST_BARRELS = 99;
    private static final int MOST_BROUGHT = 500;

    private static final int MOST_CLAMPS = 4;
    private static final int MOST_SHALE = 200;
    private static final int MOST_CLAMP_COAL = 60;
    private static final int DAILY_CLAMP_COAL = 2;
    private static final int DAILY_SHALE = 8;

    private static final int MOST_PITS = 4;
    private static final int MOST_PIT_WATER = 400;
    private static final int SUN_WATER = 3;

    private static final int MOST_PANS = 3;
    private static final int MOST_PAN_WATER = 150;
    private static final int DAILY_PAN_COAL = 4;
    private static final int DAILY_PAN_WATER = 12;
    private static final int MOST_POURED = 20;

    private static final int EGG_SINKS = 0;
    private static final int EGG_SWIMS = 1;
    private static final int EGG_FLOATS_HIGH = 2;
    private static final int SWIMMING_STRENGTH = 20;
    private static final int FLOATING_STRENGTH = 35;

    private static final int FINE_PRICE = 5;
    private static final int COARSE_PRICE = 2;

    private static final int MOST_DAYS = 60;
    private static final int COUNTS = 10;
    private static final int CLAMP_WHATS = 4;
    private static final int PIT_WHATS = 4;
    private static final int PAN_WHATS = 5;
    private static final long DIGEST_START = 1231;

    private final int[] rains = new int[RAIN_DAYS];
    private final int[] ships = new int[SHIP_DAYS];
    private final State now = new State();
    // Made once and used again, so that looking ahead makes no objects.
    private final State ahead = new State();

    public AlumWorks() {
    }

    // ---- stores and tables

    public int bring(int what, int many) throws IndexOutOfBoundsException, IllegalArgumentException {
        if (!within(what, 0, 1)) {
            throw new IndexOutOfBoundsException("what is not 0 or 1");
        }
        if (!within(many, 1, MOST_BROUGHT)) {
            throw new IllegalArgumentException("many is not 1 to 500");
        }
        if (what == 0) {
            now.coal = Math.min(MOST_COAL, now.coal + many);
            return now.coal;
        }
        now.barrels = Math.min(MOST_BARRELS, now.barrels + many);
        return now.barrels;
    }

    public int setRain(int day, int rain) throws IndexOutOfBoundsException, IllegalArgumentException {
        if (!within(day, 0, RAIN_DAYS - 1)) {
            throw new IndexOutOfBoundsException("day is not 0 to 5");
        }
        if (!within(rain, 0, MOST_RAIN)) {
            throw new IllegalArgumentException("rain is not 0 to 9");
        }
        int before = rains[day];
        rains[day] = rain;
        return before;
    }

    public int setShip(int day, int takes) throws IndexOutOfBoundsException, IllegalArgumentException {
        if (!within(day, 0, SHIP_DAYS - 1)) {
            throw new IndexOutOfBoundsException("day is not 0 to 6");
        }
        if (!within(takes, 0, MOST_TAKEN)) {
            throw new IllegalArgumentException("takes is not 0 to 60");
        }
        int before = ships[day];
        ships[day] = takes;
        return before;
    }

    // ---- clamps, pits, pans

    public int pile(int shale) throws IllegalArgumentException, IllegalStateException {
        if (!within(shale, 1, MOST_SHALE)) {
            throw new IllegalArgumentException("shale is not 1 to 200");
        }
        if (now.clamps.full()) {
            throw new IllegalStateException("there are 4 clamps");
        }
        return now.clamps.add(shale);
    }

    public int light(int clamp, int coal)
            throws IndexOutOfBoundsException, IllegalArgumentException, IllegalStateException {
        Clamps clamps = now.clamps;
        if (!clamps.has(clamp)) {
            throw new IndexOutOfBoundsException("there is no such clamp");
        }
        if (!within(coal, 1, MOST_CLAMP_COAL)) {
            throw new IllegalArgumentException("coal is not 1 to 60");
        }
        if (now.coal < coal || clamps.shale[clamp] == 0) {
            throw new IllegalStateException("there is not so much coal, or the clamp has no shale");
        }
        now.coal -= coal;
        clamps.coal[clamp] = Math.min(MOST_CLAMP_COAL, clamps.coal[clamp] + coal);
        clamps.burns[clamp] = true;
        return clamps.coal[clamp];
    }

    public int dig(int water) throws IllegalArgumentException, IllegalStateException {
        if (!within(water, 0, MOST_PIT_WATER)) {
            throw new IllegalArgumentException("water is not 0 to 400");
        }
        if (now.pits.full()) {
            throw new IllegalStateException("there are 4 pits");
        }
        return now.pits.add(water);
    }

    public int steep(int clamp, int pit) throws IndexOutOfBoundsException, IllegalStateException {
        Clamps clamps = now.clamps;
        Liquors pits = now.pits;
        if (!clamps.has(clamp) || !pits.has(pit)) {
            throw new IndexOutOfBoundsException("there is no such clamp or pit");
        }
        if (clamps.burnt[clamp] == 0 || clamps.burns[clamp] || pits.water[pit] == 0) {
            throw new IllegalStateException("nothing is burnt, the clamp burns, or the pit has no water");
        }
        pits.alum[pit] += clamps.burnt[clamp] / 2;
        clamps.burnt[clamp] = 0;
        return pits.alum[pit];
    }

    public int pan() throws IllegalStateException {
        if (now.pans.full()) {
            throw new IllegalStateException("there are 3 pans");
        }
        return now.pans.add(0);
    }

    public int draw(int pit, int pan, int water)
            throws IndexOutOfBoundsException, IllegalArgumentException, IllegalStateException {
        Liquors pits = now.pits;
        Liquors pans = now.pans;
        if (!pits.has(pit) || !pans.has(pan)) {
            throw new IndexOutOfBoundsException("there is no such pit or pan");
        }
        if (!within(water, 1, MOST_PAN_WATER)) {
            throw new IllegalArgumentException("water is not 1 to 150");
        }
        int pitWater = pits.water[pit];
        if (pitWater < water || pans.water[pan] + water > MOST_PAN_WATER) {
            throw new IllegalStateException("the pit has not so much water, or the pan no room for it");
        }
        // Here the divisor is at least 1: the pit has the water that is drawn.
        int alum = pits.alum[pit] * water / pitWater;
        pits.water[pit] -= water;
        pits.alum[pit] -= alum;
        pans.water[pan] += water;
        pans.alum[pan] += alum;
        return alum;
    }

    public boolean boil(int pan) throws IndexOutOfBoundsException {
        if (!now.pans.has(pan)) {
            throw new IndexOutOfBoundsException("there is no such pan");
        }
        now.pans.boils[pan] = !now.pans.boils[pan];
        return now.pans.boils[pan];
    }

    public int pour(int pan, int barrels)
            throws IndexOutOfBoundsException, IllegalArgumentException, IllegalStateException {
        if (!now.pans.has(pan)) {
            throw new IndexOutOfBoundsException("there is no such pan");
        }
        if (!within(barrels, 1, MOST_POURED)) {
            throw new IllegalArgumentException("barrels is not 1 to 20");
        }
        if (now.barrels < barrels || now.pans.alum[pan] == 0) {
            throw new IllegalStateException("there are not so many barrels, or the pan has no alum");
        }
        int crystals = crystalsOf(pan, barrels);
        if (now.pans.egg(pan) == EGG_SWIMS) {
            now.fine += crystals;
        } else {
            now.coarse += crystals;
        }
        now.barrels -= barrels;
        now.pans.empty(pan);
        return crystals;
    }

    // ---- what is there

    public int clamp(int clamp, int what) throws IndexOutOfBoundsException {
        if (!now.clamps.has(clamp) || !within(what, 0, CLAMP_WHATS - 1)) {
            throw new IndexOutOfBoundsException("there is no such clamp, or what is not 0 to 3");
        }
        return now.clamps.tell(clamp, what);
    }

    public int pit(int pit, int what) throws IndexOutOfBoundsException {
        if (!now.pits.has(pit) || !within(what, 0, PIT_WHATS - 1)) {
            throw new IndexOutOfBoundsException("there is no such pit, or what is not 0 to 3");
        }
        return now.pits.tell(pit, what);
    }

    public int about(int pan, int what) throws IndexOutOfBoundsException {
        if (!now.pans.has(pan) || !within(what, 0, PAN_WHATS - 1)) {
            throw new IndexOutOfBoundsException("there is no such pan, or what is not 0 to 4");
        }
        return now.pans.tell(pan, what);
    }

    public int count(int what) throws IndexOutOfBoundsException {
        if (!within(what, 0, COUNTS - 1)) {
            throw new IndexOutOfBoundsException("what is not 0 to 9");
        }
        return countIn(now, what);
    }

    // ---- days and what would be

    public int pass(int days) throws IllegalArgumentException {
        if (!within(days, 1, MOST_DAYS)) {
            throw new IllegalArgumentException("days is not 1 to 60");
        }
        int before = now.coins;
        goOn(now, days);
        return now.coins - before;
    }

    public int right(int pan) throws IndexOutOfBoundsException {
        if (!now.pans.has(pan)) {
            throw new IndexOutOfBoundsException("there is no such pan");
        }
        ahead.copyOf(now);
        for (int days = 0; days <= MOST_DAYS; days++) {
            if (ahead.pans.egg(pan) == EGG_SWIMS) {
                return days;
            }
            goOn(ahead, 1);
        }
        return -1;
    }

    public int foresee(int days, int what) throws IllegalArgumentException, IndexOutOfBoundsException {
        if (!within(days, 1, MOST_DAYS)) {
            throw new IllegalArgumentException("days is not 1 to 60");
        }
        if (what != 2 && !within(what, 4, 7)) {
            throw new IndexOutOfBoundsException("what is not 2, 4, 5, 6 or 7");
        }
        ahead.copyOf(now);
        goOn(ahead, days);
        return countIn(ahead, what);
    }

    public int barrels(int pan) throws IndexOutOfBoundsException {
        if (!now.pans.has(pan)) {
            throw new IndexOutOfBoundsException("there is no such pan");
        }
        if (now.pans.alum[pan] == 0) {
            return -1;
        }
        int best = 1;
        for (int barrels = 2; barrels <= MOST_POURED; barrels++) {
            if (crystalsOf(pan, barrels) > crystalsOf(pan, best)) {
                best = barrels;
            }
        }
        return best;
    }

    public int dry(int pit) throws IndexOutOfBoundsException {
        if (!now.pits.has(pit)) {
            throw new IndexOutOfBoundsException("there is no such pit");
        }
        int water = now.pits.water[pit];
        int alum = now.pits.alum[pit];
        if (alum == 0) {
            return -1;
        }
        int gone = 0;
        // Alum without water has a strength of 100, so the egg rises at the latest there.
        while (gone < water && eggBy(strengthOf(water - gone, alum)) == EGG_SINKS) {
            gone++;
        }
        return gone;
    }

    public double mean() {
        int many = now.pits.filled() + now.pans.filled();
        if (many == 0) {
            return 0;
        }
        return (double) (now.pits.strengths() + now.pans.strengths()) / many;
    }

    public long digest() {
        long d = DIGEST_START;
        for (int what = 0; what < COUNTS; what++) {
            d = mix(d, countIn(now, what));
        }
        for (int rain : rains) {
            d = mix(d, rain);
        }
        for (int takes : ships) {
            d = mix(d, takes);
        }
        for (int clamp = 0; clamp < now.clamps.many; clamp++) {
            for (int what = 0; what < CLAMP_WHATS; what++) {
                d = mix(d, now.clamps.tell(clamp, what));
            }
        }
        d = mixLiquors(d, now.pits, PIT_WHATS);
        return mixLiquors(d, now.pans, PAN_WHATS);
    }

    // ---- helpers

    private static boolean within(int number, int least, int most) {
        return number >= least && number <= most;
    }

    private static int strengthOf(int water, int alum) {
        int both = water + alum;
        return both <= 0 ? 0 : 100 * alum / both;
    }

    private static int eggBy(int strength) {
        if (strength < SWIMMING_STRENGTH) {
            return EGG_SINKS;
        }
        return strength < FLOATING_STRENGTH ? EGG_SWIMS : EGG_FLOATS_HIGH;
    }

    private static int crystalsByBarrel(int egg) {
        if (egg == EGG_SINKS) {
            return 2;
        }
        return egg == EGG_SWIMS ? 5 : 3;
    }

    private int crystalsOf(int pan, int barrels) {
        return Math.min(now.pans.alum[pan], crystalsByBarrel(now.pans.egg(pan)) * barrels);
    }

    private int rainOf(int day) {
        return rains[Math.floorMod(day, RAIN_DAYS)];
    }

    private int shipOf(int day) {
        return ships[Math.floorMod(day, SHIP_DAYS)];
    }

    private void goOn(State state, int days) {
        for (int gone = 0; gone < days; gone++) {
            state.letDayGo(rainOf(state.day), shipOf(state.day));
        }
    }

    private int countIn(State state, int what) {
        switch (what) {
            case 0: return state.day;
            case 1: return rainOf(state.day);
            case 2: return state.coal;
            case 3: return state.barrels;
            case 4: return state.fine;
            case 5: return state.coarse;
            case 6: return state.coins;
            case 7: return state.clamps.burning();
            case 8: return state.pits.allAlum() + state.pans.allAlum();
            default: return state.shipped;
        }
    }

    private static long mix(long d, int x) {
        return d * 31 + x;
    }

    private static long mixLiquors(long start, Liquors liquors, int whats) {
        long d = start;
        for (int number = 0; number < liquors.many; number++) {
            for (int what = 0; what < whats; what++) {
                d = mix(d, liquors.tell(number, what));
            }
        }
        return d;
    }

    /** All that days change; the tables of rain and ships stand outside, as no day changes them. */
    private static final class State {
        final Clamps clamps = new Clamps();
        final Liquors pits = new Liquors(MOST_PITS);
        final Liquors pans = new Liquors(MOST_PANS);
        int day = 0;
        int coal = 0;
        int barrels = 0;
        int fine = 0;
        int coarse = 0;
        int coins = 0;
        int shipped = 0;

        void copyOf(State other) {
            clamps.copyOf(other.clamps);
            pits.copyOf(other.pits);
            pans.copyOf(other.pans);
            day = other.day;
            coal = other.coal;
            barrels = other.barrels;
            fine = other.fine;
            coarse = other.coarse;
            coins = other.coins;
            shipped = other.shipped;
        }

        void letDayGo(int rain, int takes) {
            clamps.burn(rain);
            pits.takeWeather(rain);
            boilPans();
            loadShip(takes);
            day++;
        }

        void boilPans() {
            for (int pan = 0; pan < pans.many; pan++) {
                if (!pans.boils[pan]) {
                    continue;
                }
                if (coal < DAILY_PAN_COAL || pans.water[pan] == 0) {
                    pans.boils[pan] = false;
                } else {
                    coal -= DAILY_PAN_COAL;
                    pans.water[pan] = Math.max(0, pans.water[pan] - DAILY_PAN_WATER);
                }
            }
        }

        void loadShip(int takes) {
            int fineTaken = Math.min(takes, fine);
            int coarseTaken = Math.min(takes - fineTaken, coarse);
            fine -= fineTaken;
            coarse -= coarseTaken;
            coins += FINE_PRICE * fineTaken + COARSE_PRICE * coarseTaken;
            shipped += fineTaken + coarseTaken;
        }
    }

    /** The clamps, a row for each of their numbers. */
    private static final class Clamps {
        final int[] shale = new int[MOST_CLAMPS];
        final int[] coal = new int[MOST_CLAMPS];
        final int[] burnt = new int[MOST_CLAMPS];
        final boolean[] burns = new boolean[MOST_CLAMPS];
        int many = 0;

        boolean has(int number) {
            return number >= 0 && number < many;
        }

        boolean full() {
            return many >= MOST_CLAMPS;
        }

        // To be called only where full() is false.
        int add(int newShale) {
            int number = many;
            shale[number] = newShale;
            many++;
            return number;
        }

        int tell(int number, int what) {
            switch (what) {
                case 0: return shale[number];
                case 1: return coal[number];
                case 2: return burnt[number];
                default: return burns[number] ? 1 : 0;
            }
        }

        int burning() {
            int sum = 0;
            for (int number = 0; number < many; number++) {
                if (burns[number]) {
                    sum++;
                }
            }
            return sum;
        }

        void burn(int rain) {
            int daily = rain >= HEAVY_RAIN ? DAILY_SHALE / 2 : DAILY_SHALE;
            for (int number = 0; number < many; number++) {
                if (burns[number]) {
                    burnOne(number, daily);
                }
            }
        }

        void burnOne(int number, int daily) {
            int part = Math.min(daily, shale[number]);
            coal[number] = Math.max(0, coal[number] - DAILY_CLAMP_COAL);
            shale[number] -= part;
            burnt[number] += part;
            burns[number] = coal[number] > 0 && shale[number] > 0;
        }

        void copyOf(Clamps other) {
            many = other.many;
            for (int number = 0; number < many; number++) {
                shale[number] = other.shale[number];
                coal[number] = other.coal[number];
                burnt[number] = other.burnt[number];
                burns[number] = other.burns[number];
            }
        }
    }

    /** The pits, or the pans, a row for each of their numbers; pits never boil. */
    private static final class Liquors {
        // As long as pits want them; pans, which are fewer, leave the end unused.
        final int[] water = new int[MOST_PITS];
        final int[] alum = new int[MOST_PITS];
        final boolean[] boils = new boolean[MOST_PITS];
        final int most;
        int many = 0;

        Liquors(int most) {
            this.most = Math.min(most, MOST_PITS);
        }

        boolean has(int number) {
            return number >= 0 && number < many;
        }

        boolean full() {
            return many >= most;
        }

        // To be called only where full() is false.
        int add(int newWater) {
            int number = many;
            water[number] = newWater;
            many++;
            return number;
        }

        void empty(int number) {
            water[number] = 0;
            alum[number] = 0;
            boils[number] = false;
        }

        int strength(int number) {
            return strengthOf(water[number], alum[number]);
        }

        int egg(int number) {
            return eggBy(strength(number));
        }

        int tell(int number, int what) {
            switch (what) {
                case 0: return water[number];
                case 1: return alum[number];
                case 2: return strength(number);
                case 3: return egg(number);
                default: return boils[number] ? 1 : 0;
            }
        }

        int allAlum() {
            int sum = 0;
            for (int number = 0; number < many; number++) {
                sum += alum[number];
            }
            return sum;
        }

        int filled() {
            int sum = 0;
            for (int number = 0; number < many; number++) {
                if (water[number] + alum[number] > 0) {
                    sum++;
                }
            }
            return sum;
        }

        // What is neither water nor alum has a strength of 0 and adds nothing.
        int strengths() {
            int sum = 0;
            for (int number = 0; number < many; number++) {
                sum += strength(number);
            }
            return sum;
        }

        void takeWeather(int rain) {
            for (int number = 0; number < many; number++) {
                if (water[number] > 0) {
                    int wet = Math.min(MOST_PIT_WATER, water[number] + rain);
                    water[number] = rain == 0 ? Math.max(0, wet - SUN_WATER) : wet;
                }
            }
        }

        void copyOf(Liquors other) {
            many = other.many;
            for (int number = 0; number < many; number++) {
                water[number] = other.water[number];
                alum[number] = other.alum[number];
                boils[number] = other.boils[number];
            }
        }
    }
}
