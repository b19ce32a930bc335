/**
 * The sentences of the promises 9 to 21, what there is and the layers and cores, that name a boundary,
 * each with a test of its own.
 */
final class AnswerBoundaries {
    private static final int LOWEST = Integer.MIN_VALUE;
    private static final int HIGHEST = Integer.MAX_VALUE;

    private static final String NO_SUCH_LAYER = "Throws `IndexOutOfBoundsException` if there is no such layer";
    private static final String NO_SUCH_CORE = "Throws `IndexOutOfBoundsException` if there is no such core";

    private AnswerBoundaries() {
    }

    static void all() {
        year();
        iceAt();
        iceAtNoPlace();
        ice();
        thickest();
        thickestOfSeveral();
        deeds();
        deedsOf();
        deedsOfCompacted();
        deedsOfNoLayer();
        sealOf();
        sealOfNoLayer();
        isCompacted();
        isCompactedNoLayer();
        isFalse();
        isFalseCompacted();
        isFalseNoLayer();
        firstFalse();
        firstFalseNone();
        cores();
        yearOf();
        yearOfByYears();
        yearOfNoCore();
        iceOfCore();
        iceOfCoreNoCore();
    }

    /** All places full, in the year 8. */
    private static Past allFull() {
        return g -> {
            for (int place = 0; place < 8; place++) {
                Past.full(place).live(g);
                g.endYear(true);
            }
        };
    }

    /** Four years of two deeds each, the year 4 as that of now with one deed, cores of 1 to 4. */
    private static Past fourYears() {
        return g -> {
            for (int year = 0; year < 4; year++) {
                g.snow(year, 10);
                g.flow(year);
                g.endYear(true);
            }
            g.snow(0, 5);
        };
    }

    private static void year() {
        Sentences.promise(9, "Returns the year.");
        Checks.answers("at first", Past.none(), GlacierYears::year, 0);
        Checks.answers("deeds do not end it", Past.deeds(12), GlacierYears::year, 0);
        Checks.answers("behind one", Past.year(), GlacierYears::year, 1);
        Checks.answers("behind 39", Past.years(39), GlacierYears::year, 39);
        Checks.answers("behind 40", Past.years(40), GlacierYears::year, 40);
        Past refused = Past.years(40).then(g -> Checks.outcome(() -> g.endYear(false)));
        Checks.answers("behind a refused one", refused, GlacierYears::year, 40);
        Checks.answers("compacting takes none away", Past.coredYears(5).then(g -> g.compact(5)),
                GlacierYears::year, 5);
    }

    private static void iceAt() {
        Sentences.promise(10, "Returns its ice.");
        for (int place : new int[] {0, 7}) {
            Checks.answers("none at " + place, Past.none(), g -> g.iceAt(place), 0);
            Checks.answers("one at " + place, Past.snow(place, 1), g -> g.iceAt(place), 1);
            Checks.answers("the most at " + place, Past.full(place), g -> g.iceAt(place), 999);
        }
    }

    private static void iceAtNoPlace() {
        Sentences.promise(10, "Throws `IndexOutOfBoundsException` if there is no such place");
        Checks.answers("the first", Past.snow(0, 3), g -> g.iceAt(0), 3);
        Checks.answers("the last", Past.snow(7, 3), g -> g.iceAt(7), 3);
        for (int place : new int[] {-1, 8, LOWEST, HIGHEST}) {
            Checks.refusesIndex("place " + place, Past.rich(), g -> g.iceAt(place));
        }
    }

    private static void ice() {
        Sentences.promise(11, "Returns all ice.");
        Checks.answers("none", Past.none(), GlacierYears::ice, 0);
        Checks.answers("on the first", Past.snow(0, 1), GlacierYears::ice, 1);
        Checks.answers("on the last", Past.snow(7, 1), GlacierYears::ice, 1);
        Checks.answers("all there can be", allFull(), GlacierYears::ice, 7992);
        Checks.answers("no more", allFull().then(Past.snow(7, 99)), GlacierYears::ice, 7992);
        Checks.answers("one less", allFull().then(g -> g.melt(7, 1)), GlacierYears::ice, 7991);
    }

    private static void thickest() {
        Sentences.promise(12, "Returns the place with the most ice, of several the smallest number.", "the most");
        for (int place = 0; place < 8; place++) {
            Checks.answers("a single ice on " + place, Past.snow(place, 1), GlacierYears::thickest, place);
        }
        Past even = g -> {
            for (int place = 0; place < 8; place++) {
                g.snow(place, 50);
            }
        };
        Checks.answers("one more on the last", even.then(Past.snow(7, 1)), GlacierYears::thickest, 7);
        Checks.answers("one less on the first", even.then(g -> g.melt(0, 1)), GlacierYears::thickest, 1);
        Checks.answers("998 of all but the last", allFull().then(g -> {
            for (int place = 0; place < 7; place++) {
                g.melt(place, 1);
            }
        }), GlacierYears::thickest, 7);
    }

    private static void thickestOfSeveral() {
        Sentences.promise(12, "Returns the place with the most ice, of several the smallest number.", "several");
        Checks.answers("all without ice", Past.none(), GlacierYears::thickest, 0);
        Checks.answers("all full", allFull(), GlacierYears::thickest, 0);
        Checks.answers("the last two", Past.snow(7, 9).then(Past.snow(6, 9)), GlacierYears::thickest, 6);
        Checks.answers("the first and the last", Past.snow(7, 9).then(Past.snow(0, 9)), GlacierYears::thickest, 0);
        Checks.answers("two behind a thinner one", Past.snow(0, 8).then(Past.snow(5, 9)).then(Past.snow(3, 9)),
                GlacierYears::thickest, 3);
    }

    private static void deeds() {
        Sentences.promise(13, "Returns how many deeds were done in this year.");
        for (int many = 0; many <= 12; many++) {
            Checks.answers("deeds", Past.deeds(many), GlacierYears::deeds, many);
        }
        Past refused = Past.deeds(12).then(g -> Checks.outcome(() -> g.flow(0)));
        Checks.answers("a refused one does not count", refused, GlacierYears::deeds, 12);
        Checks.answers("a new year has none", Past.deeds(12).then(Past.year()), GlacierYears::deeds, 0);
        Checks.answers("one that changes no ice counts", Past.none().then(g -> g.melt(7, 1)), GlacierYears::deeds, 1);
        Past last = Past.years(39).then(Past.deeds(12)).then(Past.year());
        Checks.answers("none with 40 layers", last, GlacierYears::deeds, 0);
        Checks.answers("compacting keeps those of now", Past.coredYear().then(Past.deeds(5)).then(g -> g.compact(1)),
                GlacierYears::deeds, 5);
    }

    private static void deedsOf() {
        Sentences.promise(14, "Returns how many deeds are written in it; 0 if it is compacted.", "not compacted");
        for (int many : new int[] {0, 1, 11, 12}) {
            Checks.answers("in the layer 0", Past.deeds(many).then(Past.year()), g -> g.deedsOf(0), many);
            Checks.answers("in the layer 39", Past.years(39).then(Past.deeds(many)).then(Past.year()),
                    g -> g.deedsOf(39), many);
        }
        Past forged = fourYears().then(g -> g.forge(1, 0, 99));
        Checks.answers("in a forged one", forged, g -> g.deedsOf(1), 2);
    }

    private static void deedsOfCompacted() {
        Sentences.promise(14, "Returns how many deeds are written in it; 0 if it is compacted.", "compacted");
        Past past = fourYears().then(g -> g.compact(2));
        int[] due = {0, 0, 2, 2};
        for (int layer = 0; layer < 4; layer++) {
            int l = layer;
            Checks.answers("in the layer " + l, past, g -> g.deedsOf(l), due[l]);
        }
    }

    private static void deedsOfNoLayer() {
        Sentences.promise(14, NO_SUCH_LAYER);
        for (int layer : new int[] {-1, 4, 5, 40, LOWEST, HIGHEST}) {
            Checks.refusesIndex("layer " + layer, fourYears(), g -> g.deedsOf(layer));
        }
        Checks.answers("the last", fourYears(), g -> g.deedsOf(3), 2);
        Checks.answers("the layer 39", Past.years(40), g -> g.deedsOf(39), 0);
        Checks.refusesIndex("the layer 40", Past.years(40), g -> g.deedsOf(40));
    }

    private static void sealOf() {
        Sentences.promise(15, "Returns its seal as it is written.");
        int first = (17 * 31 + 70) * 31 + 2;
        int due = first % 10007;
        Checks.answers("the first", fourYears(), g -> g.sealOf(0), due);
        Checks.answers("forged", fourYears().then(g -> g.forge(0, 0, 99)), g -> g.sealOf(0), due);
        Checks.answers("compacted", fourYears().then(g -> g.compact(1)), g -> g.sealOf(0), due);
        Checks.answers("forged and compacted", fourYears().then(g -> g.forge(0, 0, 99)).then(g -> g.compact(4)),
                g -> g.sealOf(0), due);
        Checks.answers("none of a new one is another", fourYears().then(Past.years(36)), g -> g.sealOf(0), due);
    }

    private static void sealOfNoLayer() {
        Sentences.promise(15, NO_SUCH_LAYER);
        for (int layer : new int[] {-1, 4, 5, 40, LOWEST, HIGHEST}) {
            Checks.refusesIndex("layer " + layer, fourYears(), g -> g.sealOf(layer));
        }
        Checks.answers("the layer 39", Past.years(40), g -> g.sealOf(39), 17);
        Checks.refusesIndex("the layer 40", Past.years(40), g -> g.sealOf(40));
    }

    private static void isCompacted() {
        Sentences.promise(16, "Returns whether it is compacted.");
        for (int year = 1; year <= 4; year++) {
            int upTo = year;
            Past past = fourYears().then(g -> g.compact(upTo));
            for (int layer = 0; layer < 4; layer++) {
                int l = layer;
                Checks.answers("up to " + upTo + ", " + l, past, g -> g.isCompacted(l), l < upTo);
            }
            Checks.answers("the next layer", past.then(Past.year()), g -> g.isCompacted(4), false);
        }
        Checks.answers("never compacted", fourYears(), g -> g.isCompacted(0), false);
        Checks.answers("without deeds it is not", Past.years(2), g -> g.isCompacted(1), false);
        Checks.answers("without deeds it can be", Past.coredYears(2).then(g -> g.compact(2)),
                g -> g.isCompacted(1), true);
        Past smallerThen = fourYears().then(g -> g.compact(3)).then(g -> g.compact(1));
        Checks.answers("it stays by a smaller year", smallerThen, g -> g.isCompacted(2), true);
    }

    private static void isCompactedNoLayer() {
        Sentences.promise(16, NO_SUCH_LAYER);
        Past past = fourYears().then(g -> g.compact(4));
        for (int layer : new int[] {-1, 4, 5, 40, LOWEST, HIGHEST}) {
            Checks.refusesIndex("layer " + layer, past, g -> g.isCompacted(layer));
        }
        Checks.answers("the last", past, g -> g.isCompacted(3), true);
        Checks.answers("the layer 39", Past.years(40), g -> g.isCompacted(39), false);
        Checks.refusesIndex("the layer 40", Past.years(40), g -> g.isCompacted(40));
    }

    private static void isFalse() {
        Sentences.promise(17, "Returns whether it is false; a compacted one is not.", "not compacted");
        for (int forged = 0; forged < 4; forged++) {
            int f = forged;
            Past past = fourYears().then(g -> g.forge(f, 0, 11));
            for (int layer = 0; layer < 4; layer++) {
                int l = layer;
                Checks.answers("forged " + f + ", " + l, past, g -> g.isFalse(l), l == f);
            }
        }
        Checks.answers("without deeds", Past.years(2), g -> g.isFalse(1), false);
        Checks.answers("the least to the most", Past.deeds(1).then(Past.year()).then(g -> g.forge(0, 0, 99)),
                g -> g.isFalse(0), true);
        Checks.answers("to what it was", fourYears().then(g -> g.forge(2, 0, 10)), g -> g.isFalse(2), false);
    }

    private static void isFalseCompacted() {
        Sentences.promise(17, "Returns whether it is false; a compacted one is not.", "compacted");
        Past past = fourYears().then(g -> {
            g.forge(1, 0, 11);
            g.forge(2, 0, 11);
            g.compact(2);
        });
        boolean[] due = {false, false, true, false};
        for (int layer = 0; layer < 4; layer++) {
            int l = layer;
            Checks.answers("layer " + l, past, g -> g.isFalse(l), due[l]);
        }
        Checks.answers("never forged", fourYears().then(g -> g.compact(4)), g -> g.isFalse(3), false);
    }

    private static void isFalseNoLayer() {
        Sentences.promise(17, NO_SUCH_LAYER);
        for (int layer : new int[] {-1, 4, 5, 40, LOWEST, HIGHEST}) {
            Checks.refusesIndex("layer " + layer, fourYears(), g -> g.isFalse(layer));
        }
        Past forged = Past.years(39).then(Past.deeds(12)).then(Past.year()).then(g -> g.forge(39, 11, 2));
        Checks.answers("the layer 39", forged, g -> g.isFalse(39), true);
        Checks.refusesIndex("the layer 40", forged, g -> g.isFalse(40));
    }

    private static void firstFalse() {
        Sentences.promise(18, "Returns the first layer that is false; -1 if there is none.", "the first");
        for (int layer = 0; layer < 4; layer++) {
            int l = layer;
            Past past = fourYears().then(g -> {
                for (int forged = 3; forged >= l; forged--) {
                    g.forge(forged, 0, 11);
                }
            });
            Checks.answers("from " + l + " on", past, GlacierYears::firstFalse, l);
        }
        Past last = Past.years(39).then(Past.deeds(1)).then(Past.year()).then(g -> g.forge(39, 0, 2));
        Checks.answers("the layer 39", last, GlacierYears::firstFalse, 39);
        Past compacted = fourYears().then(g -> {
            g.forge(0, 0, 11);
            g.forge(2, 0, 11);
            g.compact(2);
        });
        Checks.answers("behind a compacted one", compacted, GlacierYears::firstFalse, 2);
    }

    private static void firstFalseNone() {
        Sentences.promise(18, "Returns the first layer that is false; -1 if there is none.", "none");
        Checks.answers("without layers", Past.none(), GlacierYears::firstFalse, -1);
        Checks.answers("never forged", fourYears(), GlacierYears::firstFalse, -1);
        Checks.answers("forged and back", fourYears().then(g -> g.forge(0, 0, 11)).then(g -> g.forge(0, 0, 10)),
                GlacierYears::firstFalse, -1);
        Checks.answers("compacted", fourYears().then(g -> g.forge(3, 0, 11)).then(g -> g.compact(4)),
                GlacierYears::firstFalse, -1);
        Checks.answers("40 layers", Past.years(40), GlacierYears::firstFalse, -1);
    }

    private static void cores() {
        Sentences.promise(19, "Returns how many cores there are.");
        Checks.answers("none", Past.years(5), GlacierYears::cores, 0);
        for (int many = 1; many <= 8; many++) {
            Checks.answers("drawn " + many, Past.coredYears(many), GlacierYears::cores, Math.min(many, 6));
        }
        Checks.answers("the only one thrown away", Past.coredYear().then(g -> g.throwAway(1)), GlacierYears::cores, 0);
        Checks.answers("compacting keeps them", Past.coredYears(6).then(g -> g.compact(6)), GlacierYears::cores, 6);
    }

    private static void yearOf() {
        Sentences.promise(20, "Returns its year.");
        Checks.answers("the least", Past.coredYear(), g -> g.yearOf(0), 1);
        Checks.answers("the most", Past.years(39).then(Past.coredYear()), g -> g.yearOf(0), 40);
        Checks.answers("the first of six", Past.coredYears(6), g -> g.yearOf(0), 1);
        Checks.answers("the last of six", Past.coredYears(6), g -> g.yearOf(5), 6);
    }

    private static void yearOfByYears() {
        Sentences.promise(20, "- `core`: a core, by their years, from 0 on, that of the smallest year");
        Past past = Past.coredYears(6).then(g -> {
            g.throwAway(1);
            g.throwAway(4);
        }).then(Past.coredYears(3));
        int[] due = {3, 5, 6, 7, 8, 9};
        for (int core = 0; core < 6; core++) {
            int c = core;
            Checks.answers("core " + c, past, g -> g.yearOf(c), due[c]);
        }
    }

    private static void yearOfNoCore() {
        Sentences.promise(20, NO_SUCH_CORE);
        for (int core : new int[] {-1, 3, 4, 6, LOWEST, HIGHEST}) {
            Checks.refusesIndex("of three, " + core, Past.rich(), g -> g.yearOf(core));
        }
        for (int core : new int[] {-1, 6, 7}) {
            Checks.refusesIndex("of six, " + core, Past.coredYears(7), g -> g.yearOf(core));
        }
        Checks.refusesIndex("of none", Past.years(3), g -> g.yearOf(0));
        Checks.refusesIndex("thrown away", Past.coredYear().then(g -> g.throwAway(1)), g -> g.yearOf(0));
        Checks.answers("the last of three", Past.rich(), g -> g.yearOf(2), 5);
    }

    private static void iceOfCore() {
        Sentences.promise(21, "Returns all ice that it keeps.");
        Checks.answers("none", Past.coredYear(), g -> g.iceOfCore(0), 0);
        Checks.answers("a single one on the first place", Past.snow(0, 1).then(Past.coredYear()), g -> g.iceOfCore(0), 1);
        Checks.answers("a single one on the last place", Past.snow(7, 1).then(Past.coredYear()), g -> g.iceOfCore(0), 1);
        Checks.answers("all there can be", allFull(), g -> g.iceOfCore(5), 7992);
        Checks.answers("the smallest of six", allFull(), g -> g.iceOfCore(0), 2997);
        Past later = Past.snow(0, 9).then(Past.coredYear()).then(Past.snow(0, 9)).then(g -> g.forge(0, 0, 50));
        Checks.answers("as it was", later, g -> g.iceOfCore(0), 9);
    }

    private static void iceOfCoreNoCore() {
        Sentences.promise(21, NO_SUCH_CORE);
        for (int core : new int[] {-1, 3, 4, 6, LOWEST, HIGHEST}) {
            Checks.refusesIndex("of three, " + core, Past.rich(), g -> g.iceOfCore(core));
        }
        for (int core : new int[] {-1, 6, 7}) {
            Checks.refusesIndex("of six, " + core, Past.coredYears(7), g -> g.iceOfCore(core));
        }
        Checks.refusesIndex("of none", Past.years(3), g -> g.iceOfCore(0));
        Checks.answers("the last of three", fourYears().then(g -> g.throwAway(1)), g -> g.iceOfCore(2), 40);
    }
}
