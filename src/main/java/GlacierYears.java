/**
 * A glacier that remembers its years.
 *
 * <p>Snow falls on eight places and melts, ice flows down from place to place. Each year is written
 * as a layer under a seal, cores keep the glacier as it stood, and the beginnings of years are
 * replayed from them.
 *
 * <p>The methods of the classes inside answer something harmless for numbers that are out of range,
 * so that no array is ever asked for an element that it does not have. All exceptions are thrown by
 * the outer class, before anything is changed.
 */
public final class GlacierYears {
    private static final int PLACES = 8;
    private static final int MOST_ICE = 999;
    private static final int MOST_OF_A_DEED = 99;
    private static final int DEEDS_OF_A_YEAR = 12;
    private static final int MOST_LAYERS = 40;
    private static final int MOST_CORES = 6;
    private static final int MOST_YEARS_AHEAD = 30;

    private static final int SNOW = 0;
    private static final int MELTING = 1;
    private static final int FLOW = 2;

    private static final int SEAL_AHEAD_OF_ALL = 17;
    private static final int SEAL_DIVISOR = 10007;

    private static final int NONE = -1;

    private final Slope slope;
    /** Made once and used again by every replay and outlook, so that no call makes rows. */
    private final Slope trial;
    private final Layers layers;
    private final Shelf shelf;

    public GlacierYears() {
        slope = new Slope();
        trial = new Slope();
        layers = new Layers();
        shelf = new Shelf();
    }

    // ---- deeds and years

    public int snow(int place, int many)
            throws IndexOutOfBoundsException, IllegalArgumentException, IllegalStateException {
        requirePlace(place);
        requireAmount(many);
        requireRoomForDeed();
        return act(SNOW, place, many);
    }

    public int melt(int place, int many)
            throws IndexOutOfBoundsException, IllegalArgumentException, IllegalStateException {
        requirePlace(place);
        requireAmount(many);
        requireRoomForDeed();
        return act(MELTING, place, many);
    }

    public int flow(int place) throws IndexOutOfBoundsException, IllegalStateException {
        requirePlace(place);
        requireRoomForDeed();
        return act(FLOW, place, 0);
    }

    public int endYear(boolean drawsCore) throws IllegalStateException {
        if (layers.areFull()) {
            throw new IllegalStateException("there are 40 layers");
        }
        layers.close();
        if (drawsCore) {
            shelf.draw(layers.count(), slope);
        }
        return layers.count();
    }

    public int compact(int year) throws IllegalArgumentException, IllegalStateException {
        if (year < 1 || year > layers.count()) {
            throw new IllegalArgumentException("year is not 1 to the year of now");
        }
        if (shelf.find(year) == NONE) {
            throw new IllegalStateException("there is no core of this year");
        }
        return layers.forgetBelow(year);
    }

    public int forge(int layer, int deed, int two)
            throws IndexOutOfBoundsException, IllegalArgumentException {
        requireLayer(layer);
        int slot = layers.slotOf(layer, deed);
        if (slot == NONE) {
            throw new IndexOutOfBoundsException("the layer has no such deed");
        }
        if (layers.kindAt(slot) != FLOW) {
            requireAmount(two);
        } else if (two != 0) {
            throw new IllegalArgumentException("two of a flow is not 0");
        }
        int before = layers.twoAt(slot);
        layers.rewriteTwo(slot, two);
        return before;
    }

    public int throwAway(int year) throws IllegalArgumentException, IllegalStateException {
        int core = shelf.find(year);
        if (core == NONE) {
            throw new IllegalArgumentException("there is no core of this year");
        }
        if (layers.isForgotten(year - 1)) {
            throw new IllegalStateException("the layer of the year ahead of it is compacted");
        }
        shelf.remove(core);
        return shelf.count();
    }

    // ---- what there is

    public int year() {
        return layers.count();
    }

    public int iceAt(int place) throws IndexOutOfBoundsException {
        requirePlace(place);
        return slope.heightAt(place);
    }

    public int ice() {
        return slope.total();
    }

    public int thickest() {
        int best = 0;
        for (int place = 1; place < PLACES; place++) {
            if (slope.heightAt(place) > slope.heightAt(best)) {
                best = place;
            }
        }
        return best;
    }

    public int deeds() {
        return layers.deedsIn(layers.count());
    }

    // ---- layers and cores

    public int deedsOf(int layer) throws IndexOutOfBoundsException {
        requireLayer(layer);
        return layers.deedsIn(layer);
    }

    public int sealOf(int layer) throws IndexOutOfBoundsException {
        requireLayer(layer);
        return layers.writtenSeal(layer);
    }

    public boolean isCompacted(int layer) throws IndexOutOfBoundsException {
        requireLayer(layer);
        return layers.isForgotten(layer);
    }

    public boolean isFalse(int layer) throws IndexOutOfBoundsException {
        requireLayer(layer);
        return layers.isUntrue(layer);
    }

    public int firstFalse() {
        for (int layer = 0; layer < layers.count(); layer++) {
            if (layers.isUntrue(layer)) {
                return layer;
            }
        }
        return NONE;
    }

    public int cores() {
        return shelf.count();
    }

    public int yearOf(int core) throws IndexOutOfBoundsException {
        requireCore(core);
        return shelf.yearAt(core);
    }

    public int iceOfCore(int core) throws IndexOutOfBoundsException {
        requireCore(core);
        return shelf.totalOf(core);
    }

    // ---- years that were

    public boolean canReplay(int year) throws IllegalArgumentException {
        requireYear(year);
        return isReplayable(year);
    }

    public int replayedFrom(int year) throws IllegalArgumentException {
        requireYear(year);
        return shelf.yearAt(shelf.latestUpTo(year));
    }

    public int replayCost(int year) throws IllegalArgumentException, IllegalStateException {
        requireYear(year);
        requireReplayable(year);
        return deedsAgain(year);
    }

    public int iceInYear(int year, int place)
            throws IndexOutOfBoundsException, IllegalArgumentException, IllegalStateException {
        requirePlace(place);
        requireYear(year);
        requireReplayable(year);
        replay(year);
        return trial.heightAt(place);
    }

    public int richestYear() {
        // The year 0 begins without ice and can always be replayed.
        int richest = 0;
        int most = 0;
        trial.clear();
        for (int year = 1; year <= layers.count(); year++) {
            stepInto(year);
            if (isReplayable(year) && trial.total() > most) {
                richest = year;
                most = trial.total();
            }
        }
        return richest;
    }

    // ---- what would be

    public int iceAfter(int years) throws IllegalArgumentException {
        if (years < 1 || years > MOST_YEARS_AHEAD) {
            throw new IllegalArgumentException("years is not 1 to 30");
        }
        trial.copyFrom(slope);
        int latest = layers.count() - 1;
        for (int i = 0; i < years; i++) {
            layers.doAgain(latest, trial);
        }
        return trial.total();
    }

    public int bestCore() {
        int best = NONE;
        int most = 0;
        for (int year = 0; year <= layers.count(); year++) {
            int spared = sparedByCore(year);
            if (spared > most) {
                best = year;
                most = spared;
            }
        }
        return best;
    }

    public double meanIce() {
        return slope.total() / (double) PLACES;
    }

    public long digest() {
        long d = 2273;
        d = d * 31 + year();
        d = d * 31 + ice();
        d = d * 31 + thickest();
        d = d * 31 + deeds();
        d = d * 31 + firstFalse();
        d = d * 31 + cores();
        d = d * 31 + richestYear();
        d = d * 31 + bestCore();
        for (int place = 0; place < PLACES; place++) {
            d = d * 31 + slope.heightAt(place);
        }
        d = addLayers(d);
        d = addCores(d);
        return addYears(d);
    }

    private long addLayers(long sum) {
        long d = sum;
        for (int layer = 0; layer < layers.count(); layer++) {
            d = d * 31 + layers.deedsIn(layer);
            d = d * 31 + layers.writtenSeal(layer);
            d = d * 31 + (layers.isForgotten(layer) ? 1 : 0);
            d = d * 31 + (layers.isUntrue(layer) ? 1 : 0);
        }
        return d;
    }

    private long addCores(long sum) {
        long d = sum;
        for (int core = 0; core < shelf.count(); core++) {
            d = d * 31 + shelf.yearAt(core);
            d = d * 31 + shelf.totalOf(core);
        }
        return d;
    }

    private long addYears(long sum) {
        long d = sum;
        for (int year = 0; year <= layers.count(); year++) {
            d = d * 31 + (isReplayable(year) ? 1 : 0);
            d = d * 31 + shelf.yearAt(shelf.latestUpTo(year));
        }
        return d;
    }

    // ---- what must hold before a call does anything

    private static void requirePlace(int place) {
        if (place < 0 || place >= PLACES) {
            throw new IndexOutOfBoundsException("there is no such place");
        }
    }

    private static void requireAmount(int many) {
        if (many < 1 || many > MOST_OF_A_DEED) {
            throw new IllegalArgumentException("the number is not 1 to 99");
        }
    }

    private void requireRoomForDeed() {
        if (!layers.hasRoomForDeed()) {
            throw new IllegalStateException("12 deeds were done in this year, or there are 40 layers");
        }
    }

    private void requireLayer(int layer) {
        if (layer < 0 || layer >= layers.count()) {
            throw new IndexOutOfBoundsException("there is no such layer");
        }
    }

    private void requireCore(int core) {
        if (core < 0 || core >= shelf.count()) {
            throw new IndexOutOfBoundsException("there is no such core");
        }
    }

    private void requireYear(int year) {
        if (year < 0 || year > layers.count()) {
            throw new IllegalArgumentException("year is not 0 to the year of now");
        }
    }

    private void requireReplayable(int year) {
        if (!isReplayable(year)) {
            throw new IllegalStateException("the year cannot be replayed");
        }
    }

    // ---- deeds and replays

    private int act(int kind, int place, int many) {
        layers.note(kind, place, many);
        slope.perform(kind, place, many);
        return slope.heightAt(place);
    }

    private int firstLayerAgain(int year) {
        return Math.max(0, shelf.yearAt(shelf.latestUpTo(year)));
    }

    private boolean isReplayable(int year) {
        int first = firstLayerAgain(year);
        // Layers are compacted from 0 on without a gap: if the first one is not, none behind it is.
        return first >= year || !layers.isForgotten(first);
    }

    private int deedsAgain(int year) {
        int many = 0;
        for (int layer = firstLayerAgain(year); layer < year; layer++) {
            many += layers.deedsIn(layer);
        }
        return many;
    }

    private void replay(int year) {
        int core = shelf.latestUpTo(year);
        if (core == NONE) {
            trial.clear();
        } else {
            shelf.putBack(core, trial);
        }
        for (int layer = firstLayerAgain(year); layer < year; layer++) {
            layers.doAgain(layer, trial);
        }
    }

    /**
     * Brings the trial from the beginning of the year before to that of this one. One walk through
     * all years does each layer once, where a replay of every year would do it up to forty times.
     */
    private void stepInto(int year) {
        int core = shelf.find(year);
        if (core == NONE) {
            layers.doAgain(year - 1, trial);
        } else {
            shelf.putBack(core, trial);
        }
    }

    /**
     * How many deeds less are done again for all years, if there is one more core of this one. Each
     * year from it up to the next core starts from the same core as it does now, and so would be
     * spared just the deeds that are done again for this one.
     */
    private int sparedByCore(int year) {
        if (!isReplayable(year)) {
            return 0;
        }
        int end = shelf.firstYearBehind(year, layers.count() + 1);
        return deedsAgain(year) * (end - year);
    }

    /** The ice of all places at one time. */
    private static final class Slope {
        private final int[] heights;

        Slope() {
            heights = new int[PLACES];
        }

        private static boolean has(int place) {
            return place >= 0 && place < PLACES;
        }

        int heightAt(int place) {
            return has(place) ? heights[place] : 0;
        }

        void setHeight(int place, int height) {
            if (has(place)) {
                heights[place] = height;
            }
        }

        int total() {
            int sum = 0;
            for (int place = 0; place < PLACES; place++) {
                sum += heights[place];
            }
            return sum;
        }

        void clear() {
            for (int place = 0; place < PLACES; place++) {
                heights[place] = 0;
            }
        }

        void copyFrom(Slope other) {
            for (int place = 0; place < PLACES; place++) {
                heights[place] = other.heights[place];
            }
        }

        void perform(int kind, int one, int two) {
            if (kind == SNOW) {
                setHeight(one, Math.min(MOST_ICE, heightAt(one) + two));
            } else if (kind == MELTING) {
                setHeight(one, Math.max(0, heightAt(one) - two));
            } else {
                slide(one);
            }
        }

        private void slide(int place) {
            int next = place + 1;
            int part = heightAt(place) / 10;
            if (has(next)) {
                part = Math.min(part, MOST_ICE - heightAt(next));
                setHeight(next, heightAt(next) + part);
            }
            setHeight(place, heightAt(place) - part);
        }
    }

    /**
     * The layers, and behind them the row of the year of now: its deeds are noted where its layer
     * will be, so the end of a year only seals them.
     */
    private static final class Layers {
        private final int[] kinds;
        private final int[] ones;
        private final int[] twos;
        private final int[] manies;
        private final int[] seals;
        private int closed;
        private int forgotten;

        Layers() {
            kinds = new int[MOST_LAYERS * DEEDS_OF_A_YEAR];
            ones = new int[MOST_LAYERS * DEEDS_OF_A_YEAR];
            twos = new int[MOST_LAYERS * DEEDS_OF_A_YEAR];
            manies = new int[MOST_LAYERS];
            seals = new int[MOST_LAYERS];
        }

        int count() {
            return closed;
        }

        private static boolean hasRow(int layer) {
            return layer >= 0 && layer < MOST_LAYERS;
        }

        boolean areFull() {
            return closed >= MOST_LAYERS;
        }

        boolean hasRoomForDeed() {
            return !areFull() && deedsIn(closed) < DEEDS_OF_A_YEAR;
        }

        int deedsIn(int layer) {
            return hasRow(layer) ? manies[layer] : 0;
        }

        void note(int kind, int one, int two) {
            int layer = closed;
            if (!hasRow(layer) || !hasRoomForDeed()) {
                return;
            }
            int slot = layer * DEEDS_OF_A_YEAR + manies[layer];
            if (isSlot(slot)) {
                kinds[slot] = kind;
                ones[slot] = one;
                twos[slot] = two;
                manies[layer]++;
            }
        }

        void close() {
            int layer = closed;
            if (hasRow(layer)) {
                seals[layer] = reckonSeal(layer);
                closed++;
            }
        }

        int forgetBelow(int year) {
            int before = forgotten;
            int end = Math.min(year, closed);
            for (int layer = before; layer < end; layer++) {
                if (hasRow(layer)) {
                    manies[layer] = 0;
                }
            }
            forgotten = Math.max(before, end);
            return forgotten - before;
        }

        boolean isForgotten(int layer) {
            return layer >= 0 && layer < forgotten;
        }

        /** Where the deed stands in the rows, or NONE if the layer has no such deed. */
        int slotOf(int layer, int deed) {
            return deed >= 0 && deed < deedsIn(layer) ? layer * DEEDS_OF_A_YEAR + deed : NONE;
        }

        private static boolean isSlot(int slot) {
            return slot >= 0 && slot < MOST_LAYERS * DEEDS_OF_A_YEAR;
        }

        int kindAt(int slot) {
            return isSlot(slot) ? kinds[slot] : 0;
        }

        private int oneAt(int slot) {
            return isSlot(slot) ? ones[slot] : 0;
        }

        int twoAt(int slot) {
            return isSlot(slot) ? twos[slot] : 0;
        }

        void rewriteTwo(int slot, int two) {
            if (isSlot(slot)) {
                twos[slot] = two;
            }
        }

        int writtenSeal(int layer) {
            return hasRow(layer) ? seals[layer] : SEAL_AHEAD_OF_ALL;
        }

        boolean isUntrue(int layer) {
            return !isForgotten(layer) && reckonSeal(layer) != writtenSeal(layer);
        }

        private int reckonSeal(int layer) {
            int seal = writtenSeal(layer - 1);
            int many = deedsIn(layer);
            for (int deed = 0; deed < many; deed++) {
                int slot = slotOf(layer, deed);
                seal = (seal * 31 + kindAt(slot) + oneAt(slot) * 5 + twoAt(slot) * 7) % SEAL_DIVISOR;
            }
            return seal;
        }

        void doAgain(int layer, Slope where) {
            int many = deedsIn(layer);
            for (int deed = 0; deed < many; deed++) {
                int slot = slotOf(layer, deed);
                where.perform(kindAt(slot), oneAt(slot), twoAt(slot));
            }
        }
    }

    /** The cores, in the order of their years. */
    private static final class Shelf {
        private final int[] years;
        private final int[] heights;
        private int kept;

        Shelf() {
            years = new int[MOST_CORES];
            heights = new int[MOST_CORES * PLACES];
        }

        int count() {
            return kept;
        }

        private boolean has(int core) {
            return core >= 0 && core < kept && core < MOST_CORES;
        }

        /** The year of the core, or NONE for a core that there is not. */
        int yearAt(int core) {
            return has(core) ? years[core] : NONE;
        }

        int find(int year) {
            int core = latestUpTo(year);
            return core != NONE && yearAt(core) == year ? core : NONE;
        }

        int latestUpTo(int year) {
            int latest = NONE;
            for (int core = 0; core < kept; core++) {
                if (yearAt(core) <= year) {
                    latest = core;
                }
            }
            return latest;
        }

        int firstYearBehind(int year, int otherwise) {
            for (int core = 0; core < kept; core++) {
                if (yearAt(core) > year) {
                    return yearAt(core);
                }
            }
            return otherwise;
        }

        /** Years only grow, so a new core always belongs at the end. */
        void draw(int year, Slope from) {
            if (kept >= MOST_CORES) {
                remove(0);
            }
            int core = kept;
            if (core < 0 || core >= MOST_CORES) {
                return;
            }
            kept++;
            years[core] = year;
            for (int place = 0; place < PLACES; place++) {
                heights[core * PLACES + place] = from.heightAt(place);
            }
        }

        void remove(int core) {
            if (!has(core)) {
                return;
            }
            for (int to = core; to + 1 < kept && to + 1 < MOST_CORES; to++) {
                years[to] = years[to + 1];
                for (int place = 0; place < PLACES; place++) {
                    heights[to * PLACES + place] = heights[(to + 1) * PLACES + place];
                }
            }
            kept--;
        }

        int totalOf(int core) {
            int sum = 0;
            for (int place = 0; place < PLACES; place++) {
                sum += heightAt(core, place);
            }
            return sum;
        }

        void putBack(int core, Slope where) {
            for (int place = 0; place < PLACES; place++) {
                where.setHeight(place, heightAt(core, place));
            }
        }

        private int heightAt(int core, int place) {
            return has(core) && place >= 0 && place < PLACES ? heights[core * PLACES + place] : 0;
        }
    }
}
