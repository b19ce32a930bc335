import java.util.ArrayList;
import java.util.List;

/**
 * Long runs of calls, each answer held against a model that follows the document's words with no
 * thought of speed: it replays each year from its own core, and tries each core for bestCore().
 */
public final class ModelTest {
    private static final int RUNS = 3000;
    private static final int CALLS = 512;

    private long state;
    private int calls;

    public static void main(String[] args) {
        for (int run = 0; run < RUNS; run++) {
            new ModelTest().walk(run);
        }
        Checks.end();
    }

    /** The same numbers each time, so that a run that fails can be looked at again. */
    private int pick(int bound) {
        state = state * 6364136223846793005L + 1442695040888963407L;
        return (int) ((state >>> 33) % bound);
    }

    /** Mostly a number of the range, now and then one just or far beyond it. */
    private int near(int low, int high) {
        int how = pick(24);
        if (how == 0) {
            return low - 1;
        }
        if (how == 1) {
            return high + 1;
        }
        if (how == 2) {
            return pick(2) == 0 ? Integer.MIN_VALUE : Integer.MAX_VALUE;
        }
        return high < low ? low : low + pick(high - low + 1);
    }

    private void walk(int run) {
        state = run * 7919L + 1;
        GlacierYears real = new GlacierYears();
        Model model = new Model();
        int deedsWeight = 20 + pick(200);
        int yearsWeight = 5 + pick(60);
        int historyWeight = 5 + pick(40);
        int questionsWeight = 10 + pick(100);
        int coresOf = 1 + pick(4);
        while (calls < CALLS) {
            String at = run + "/" + calls + " ";
            int what = pick(deedsWeight + yearsWeight + historyWeight + questionsWeight);
            if (what < deedsWeight) {
                deed(at, real, model);
            } else if (what < deedsWeight + yearsWeight) {
                boolean core = pick(coresOf) == 0;
                hold(at + "endYear " + core, () -> real.endYear(core), () -> model.endYear(core));
            } else if (what < deedsWeight + yearsWeight + historyWeight) {
                history(at, real, model);
            } else {
                ask(at, real, model);
            }
        }
    }

    /** Behind the last call that the document speaks of, what a glacier answers is free. */
    private void hold(String what, Checks.Call real, Checks.Call model) {
        if (calls < CALLS) {
            calls++;
            Checks.same(what, Checks.outcome(real), Checks.outcome(model));
        }
    }

    private void deed(String at, GlacierYears real, Model model) {
        int place = pick(3) == 0 ? near(0, 7) : near(5, 7);
        int many = pick(2) == 0 ? near(1, 99) : near(80, 99);
        switch (pick(5)) {
            case 0 -> hold(at + "melt", () -> real.melt(place, many), () -> model.melt(place, many));
            case 1 -> hold(at + "flow", () -> real.flow(place), () -> model.flow(place));
            default -> hold(at + "snow", () -> real.snow(place, many), () -> model.snow(place, many));
        }
    }

    private void history(String at, GlacierYears real, Model model) {
        int year = near(0, model.year());
        int deed = near(0, 5);
        int two = pick(3) == 0 ? 0 : near(1, 99);
        switch (pick(6)) {
            case 0 -> hold(at + "compact " + year, () -> real.compact(year), () -> model.compact(year));
            case 1, 2 ->
                hold(at + "throwAway " + year, () -> real.throwAway(year), () -> model.throwAway(year));
            default -> hold(at + "forge", () -> real.forge(year, deed, two),
                    () -> model.forge(year, deed, two));
        }
        hold(at + "digest behind it", real::digest, model::digest);
    }

    private void ask(String at, GlacierYears real, Model model) {
        switch (pick(3)) {
            case 0 -> askWhatThereIs(at, real, model);
            case 1 -> askOfLayersAndCores(at, real, model);
            default -> askOfYears(at, real, model);
        }
    }

    private void askWhatThereIs(String at, GlacierYears real, Model model) {
        int place = near(0, 7);
        int years = near(1, 30);
        switch (pick(8)) {
            case 0 -> hold(at + "year", real::year, model::year);
            case 1 -> hold(at + "iceAt " + place, () -> real.iceAt(place), () -> model.iceAt(place));
            case 2 -> hold(at + "ice", real::ice, model::ice);
            case 3 -> hold(at + "thickest", real::thickest, model::thickest);
            case 4 -> hold(at + "deeds", real::deeds, model::deeds);
            case 5 -> hold(at + "iceAfter " + years, () -> real.iceAfter(years), () -> model.iceAfter(years));
            case 6 -> hold(at + "meanIce", real::meanIce, model::meanIce);
            default -> hold(at + "digest", real::digest, model::digest);
        }
    }

    private void askOfLayersAndCores(String at, GlacierYears real, Model model) {
        int layer = near(0, model.year() - 1);
        int core = near(0, model.cores() - 1);
        switch (pick(8)) {
            case 0 -> hold(at + "deedsOf " + layer, () -> real.deedsOf(layer), () -> model.deedsOf(layer));
            case 1 -> hold(at + "sealOf " + layer, () -> real.sealOf(layer), () -> model.sealOf(layer));
            case 2 -> hold(at + "isCompacted " + layer, () -> real.isCompacted(layer), () -> model.isCompacted(layer));
            case 3 -> hold(at + "isFalse " + layer, () -> real.isFalse(layer), () -> model.isFalse(layer));
            case 4 -> hold(at + "firstFalse", real::firstFalse, model::firstFalse);
            case 5 -> hold(at + "cores", real::cores, model::cores);
            case 6 -> hold(at + "yearOf " + core, () -> real.yearOf(core), () -> model.yearOf(core));
            default -> hold(at + "iceOfCore " + core, () -> real.iceOfCore(core), () -> model.iceOfCore(core));
        }
    }

    private void askOfYears(String at, GlacierYears real, Model model) {
        int year = near(0, model.year());
        int place = near(0, 7);
        String of = year + " ";
        switch (pick(6)) {
            case 0 -> hold(at + "canReplay " + of, () -> real.canReplay(year), () -> model.canReplay(year));
            case 1 -> hold(at + "replayedFrom " + of, () -> real.replayedFrom(year), () -> model.replayedFrom(year));
            case 2 -> hold(at + "replayCost " + of, () -> real.replayCost(year), () -> model.replayCost(year));
            case 3 -> hold(at + "iceInYear " + of + place, () -> real.iceInYear(year, place),
                    () -> model.iceInYear(year, place));
            case 4 -> hold(at + "richestYear", real::richestYear, model::richestYear);
            default -> hold(at + "bestCore", real::bestCore, model::bestCore);
        }
    }

    private static final class Core {
        final int year;
        final int[] ice;

        Core(int year, int[] ice) {
            this.year = year;
            this.ice = ice;
        }
    }

    private static final class Layer {
        List<int[]> deeds;
        int seal;
        boolean compacted;
    }

    private static final class Model {
        private final int[] now = new int[8];
        private List<int[]> today = new ArrayList<>();
        private final List<Layer> layers = new ArrayList<>();
        private final List<Core> cores = new ArrayList<>();

        private static void index(boolean good) {
            if (!good) {
                throw new IndexOutOfBoundsException();
            }
        }

        private static void argument(boolean good) {
            if (!good) {
                throw new IllegalArgumentException();
            }
        }

        private static void state(boolean good) {
            if (!good) {
                throw new IllegalStateException();
            }
        }

        private static void apply(int[] ice, int[] deed) {
            int place = deed[1];
            if (deed[0] == 0) {
                ice[place] += deed[2];
                if (ice[place] > 999) {
                    ice[place] = 999;
                }
            } else if (deed[0] == 1) {
                ice[place] -= deed[2];
                if (ice[place] < 0) {
                    ice[place] = 0;
                }
            } else {
                int part = (ice[place] - ice[place] % 10) / 10;
                while (place < 7 && ice[place + 1] + part > 999) {
                    part--;
                }
                ice[place] -= part;
                if (place < 7) {
                    ice[place + 1] += part;
                }
            }
        }

        private int act(int kind, int place, int many) {
            state(layers.size() < 40 && today.size() < 12);
            int[] deed = {kind, place, many};
            today.add(deed);
            apply(now, deed);
            return now[place];
        }

        private static int sum(int[] numbers) {
            int all = 0;
            for (int number : numbers) {
                all += number;
            }
            return all;
        }

        private Core coreOf(int year) {
            for (Core core : cores) {
                if (core.year == year) {
                    return core;
                }
            }
            return null;
        }

        private Core base(int year) {
            Core base = null;
            for (Core core : cores) {
                if (core.year <= year && (base == null || core.year > base.year)) {
                    base = core;
                }
            }
            return base;
        }

        private int reckoned(int layer) {
            int seal = layer == 0 ? 17 : layers.get(layer - 1).seal;
            for (int[] deed : layers.get(layer).deeds) {
                seal = (seal * 31 + deed[0] + deed[1] * 5 + deed[2] * 7) % 10007;
            }
            return seal;
        }

        private int[] beginning(int year) {
            Core base = base(year);
            int[] ice = base == null ? new int[8] : base.ice.clone();
            for (int layer = base == null ? 0 : base.year; layer < year; layer++) {
                for (int[] deed : layers.get(layer).deeds) {
                    apply(ice, deed);
                }
            }
            return ice;
        }

        private boolean knows(int year) {
            Core base = base(year);
            for (int layer = base == null ? 0 : base.year; layer < year; layer++) {
                if (layers.get(layer).compacted) {
                    return false;
                }
            }
            return true;
        }

        int snow(int place, int many) {
            index(place >= 0 && place <= 7);
            argument(many >= 1 && many <= 99);
            return act(0, place, many);
        }

        int melt(int place, int many) {
            index(place >= 0 && place <= 7);
            argument(many >= 1 && many <= 99);
            return act(1, place, many);
        }

        int flow(int place) {
            index(place >= 0 && place <= 7);
            return act(2, place, 0);
        }

        int endYear(boolean drawsCore) {
            state(layers.size() < 40);
            Layer layer = new Layer();
            layer.deeds = today;
            layers.add(layer);
            layer.seal = reckoned(layers.size() - 1);
            today = new ArrayList<>();
            if (drawsCore) {
                if (cores.size() == 6) {
                    cores.remove(0);
                }
                cores.add(new Core(layers.size(), now.clone()));
            }
            return layers.size();
        }

        int compact(int year) {
            argument(year >= 1 && year <= layers.size());
            state(coreOf(year) != null);
            int many = 0;
            for (Layer layer : layers.subList(0, year)) {
                if (!layer.compacted) {
                    layer.compacted = true;
                    layer.deeds = new ArrayList<>();
                    many++;
                }
            }
            return many;
        }

        int forge(int layer, int deed, int two) {
            index(layer >= 0 && layer < layers.size());
            index(deed >= 0 && deed < layers.get(layer).deeds.size());
            int[] old = layers.get(layer).deeds.get(deed);
            argument(old[0] == 2 ? two == 0 : two >= 1 && two <= 99);
            int before = old[2];
            old[2] = two;
            return before;
        }

        int throwAway(int year) {
            Core core = coreOf(year);
            argument(core != null);
            state(!layers.get(year - 1).compacted);
            cores.remove(core);
            return cores.size();
        }

        int year() {
            return layers.size();
        }

        int iceAt(int place) {
            index(place >= 0 && place <= 7);
            return now[place];
        }

        int ice() {
            return sum(now);
        }

        int thickest() {
            int best = 7;
            for (int place = 6; place >= 0; place--) {
                best = now[place] >= now[best] ? place : best;
            }
            return best;
        }

        int deeds() {
            return today.size();
        }

        int deedsOf(int layer) {
            index(layer >= 0 && layer < layers.size());
            return layers.get(layer).deeds.size();
        }

        int sealOf(int layer) {
            index(layer >= 0 && layer < layers.size());
            return layers.get(layer).seal;
        }

        boolean isCompacted(int layer) {
            index(layer >= 0 && layer < layers.size());
            return layers.get(layer).compacted;
        }

        boolean isFalse(int layer) {
            index(layer >= 0 && layer < layers.size());
            return !layers.get(layer).compacted && reckoned(layer) != layers.get(layer).seal;
        }

        int firstFalse() {
            for (int layer = 0; layer < layers.size(); layer++) {
                if (isFalse(layer)) {
                    return layer;
                }
            }
            return -1;
        }

        int cores() {
            return cores.size();
        }

        int yearOf(int core) {
            index(core >= 0 && core < cores.size());
            return cores.get(core).year;
        }

        int iceOfCore(int core) {
            index(core >= 0 && core < cores.size());
            return sum(cores.get(core).ice);
        }

        boolean canReplay(int year) {
            argument(year >= 0 && year <= layers.size());
            return knows(year);
        }

        int replayedFrom(int year) {
            argument(year >= 0 && year <= layers.size());
            Core base = base(year);
            return base == null ? -1 : base.year;
        }

        int replayCost(int year) {
            argument(year >= 0 && year <= layers.size());
            state(knows(year));
            int many = 0;
            for (int layer = Math.max(replayedFrom(year), 0); layer < year; layer++) {
                many += layers.get(layer).deeds.size();
            }
            return many;
        }

        int iceInYear(int year, int place) {
            index(place >= 0 && place <= 7);
            argument(year >= 0 && year <= layers.size());
            state(knows(year));
            return beginning(year)[place];
        }

        int richestYear() {
            int best = -1;
            for (int year = 0; year <= layers.size(); year++) {
                if (knows(year) && (best < 0 || sum(beginning(year)) > sum(beginning(best)))) {
                    best = year;
                }
            }
            return best;
        }

        int iceAfter(int years) {
            argument(years >= 1 && years <= 30);
            int[] ice = now.clone();
            for (int i = 0; i < years && !layers.isEmpty(); i++) {
                for (int[] deed : layers.get(layers.size() - 1).deeds) {
                    apply(ice, deed);
                }
            }
            return sum(ice);
        }

        private int costOf(List<Integer> years) {
            int all = 0;
            for (int year : years) {
                all += replayCost(year);
            }
            return all;
        }

        int bestCore() {
            List<Integer> known = new ArrayList<>();
            for (int year = 0; year <= layers.size(); year++) {
                if (knows(year)) {
                    known.add(year);
                }
            }
            int least = costOf(known);
            int best = -1;
            for (int year : known) {
                Core more = new Core(year, new int[8]);
                cores.add(more);
                int cost = costOf(known);
                cores.remove(more);
                if (cost < least) {
                    least = cost;
                    best = year;
                }
            }
            return best;
        }

        double meanIce() {
            return sum(now) / 8.0;
        }

        long digest() {
            List<Integer> numbers = new ArrayList<>(List.of(year(), ice(), thickest(), deeds(),
                    firstFalse(), cores(), richestYear(), bestCore()));
            for (int place = 0; place < 8; place++) {
                numbers.add(iceAt(place));
            }
            for (int layer = 0; layer < layers.size(); layer++) {
                numbers.add(deedsOf(layer));
                numbers.add(sealOf(layer));
                numbers.add(isCompacted(layer) ? 1 : 0);
                numbers.add(isFalse(layer) ? 1 : 0);
            }
            for (int core = 0; core < cores.size(); core++) {
                numbers.add(yearOf(core));
                numbers.add(iceOfCore(core));
            }
            for (int year = 0; year <= layers.size(); year++) {
                numbers.add(canReplay(year) ? 1 : 0);
                numbers.add(replayedFrom(year));
            }
            long d = 2273;
            for (int number : numbers) {
                d = d * 31 + number;
            }
            return d;
        }
    }
}
