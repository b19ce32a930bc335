/** The sentences of the promises 1 to 8, deeds and years, that name a boundary, each with a test of its own. */
final class DeedBoundaries {
    private static final int LOWEST = Integer.MIN_VALUE;
    private static final int HIGHEST = Integer.MAX_VALUE;
    private static final int[] NO_PLACES = {-1, 8, LOWEST, HIGHEST};
    private static final int[] NO_AMOUNTS = {0, 100, -1, LOWEST, HIGHEST};

    private static final String NO_SUCH_PLACE = "Throws `IndexOutOfBoundsException` if there is no such place";
    private static final String NOT_AN_AMOUNT = "Throws `IllegalArgumentException` if many is not 1 to 99";
    private static final String NO_ROOM =
            "Throws `IllegalStateException` if 12 deeds were done in this year, or there are 40 layers";
    private static final String ICE_THEN = "Returns the ice that it has then.";

    private DeedBoundaries() {
    }

    static void all() {
        newWithoutIce();
        newYear();
        newHasNothing();
        newForLaterCalls();
        snowReturns();
        snowNoPlace();
        snowNoAmount();
        snowTwelveDeeds();
        snowFortyLayers();
        meltReturns();
        meltNoPlace();
        meltNoAmount();
        meltTwelveDeeds();
        meltFortyLayers();
        flowReturns();
        flowNoPlace();
        flowTwelveDeeds();
        flowFortyLayers();
        endYearReturns();
        endYearDrawsCore();
        endYearFortyLayers();
        compactReturns();
        compactNoYear();
        compactNoCore();
        forgeReturns();
        forgeNoLayer();
        forgeNoDeed();
        forgeNoAmount();
        forgeFlow();
        forgeDeedFromZero();
        forgeFromNowOn();
        throwAwayReturns();
        throwAwayNoCore();
        throwAwayCompacted();
    }

    private static void newWithoutIce() {
        Sentences.promise(1, "Creates a glacier without ice, in the year 0.", "without ice");
        for (int place = 0; place < 8; place++) {
            int p = place;
            Checks.answers("iceAt " + p, Past.none(), g -> g.iceAt(p), 0);
            Checks.answers("iceInYear at " + p, Past.none(), g -> g.iceInYear(0, p), 0);
        }
        Checks.answers("ice", Past.none(), GlacierYears::ice, 0);
        Checks.answers("thickest", Past.none(), GlacierYears::thickest, 0);
        Checks.answers("meanIce", Past.none(), GlacierYears::meanIce, 0.0);
        Checks.answers("iceAfter", Past.none(), g -> g.iceAfter(30), 0);
    }

    private static void newYear() {
        Sentences.promise(1, "Creates a glacier without ice, in the year 0.", "in the year 0");
        Checks.answers("year", Past.none(), GlacierYears::year, 0);
        Checks.answers("deeds", Past.none(), GlacierYears::deeds, 0);
        Checks.answers("canReplay", Past.none(), g -> g.canReplay(0), true);
        Checks.refusesArgument("year 1 is not yet", Past.none(), g -> g.canReplay(1));
        Checks.answers("richestYear", Past.none(), GlacierYears::richestYear, 0);
    }

    private static void newHasNothing() {
        Sentences.promise(1, "Creates a glacier without ice, in the year 0.", "no layers and no cores");
        Checks.answers("cores", Past.none(), GlacierYears::cores, 0);
        Checks.refusesIndex("yearOf", Past.none(), g -> g.yearOf(0));
        Checks.refusesIndex("iceOfCore", Past.none(), g -> g.iceOfCore(0));
        Checks.refusesIndex("deedsOf", Past.none(), g -> g.deedsOf(0));
        Checks.refusesIndex("sealOf", Past.none(), g -> g.sealOf(0));
        Checks.refusesIndex("isCompacted", Past.none(), g -> g.isCompacted(0));
        Checks.refusesIndex("isFalse", Past.none(), g -> g.isFalse(0));
        Checks.refusesIndex("forge", Past.none(), g -> g.forge(0, 0, 1));
        Checks.refusesArgument("compact", Past.none(), g -> g.compact(1));
        Checks.refusesArgument("throwAway", Past.none(), g -> g.throwAway(0));
        Checks.answers("firstFalse", Past.none(), GlacierYears::firstFalse, -1);
        Checks.answers("replayedFrom", Past.none(), g -> g.replayedFrom(0), -1);
        Checks.answers("replayCost", Past.none(), g -> g.replayCost(0), 0);
        Checks.answers("bestCore", Past.none(), GlacierYears::bestCore, -1);
    }

    private static void newForLaterCalls() {
        Sentences.promise(1, "Creates a glacier without ice, in the year 0.", "one beside another");
        Past beside = g -> Past.rich().lived();
        Checks.alike("what another one lives", beside, Past.none());
    }

    private static void snowReturns() {
        Sentences.promise(2, ICE_THEN);
        Checks.answers("one on none", Past.none(), g -> g.snow(0, 1), 1);
        Checks.answers("99 on none", Past.none(), g -> g.snow(7, 99), 99);
        Checks.answers("99 on 900", Past.snow(7, 900), g -> g.snow(7, 99), 999);
        Checks.answers("99 on 999", Past.full(7), g -> g.snow(7, 99), 999);
        Checks.answers("not that of others", Past.snow(6, 50), g -> g.snow(7, 9), 9);
        Checks.answers("as the place answers", Past.full(7).then(Past.snow(7, 99)), g -> g.iceAt(7), 999);
    }

    private static void snowNoPlace() {
        Sentences.promise(2, NO_SUCH_PLACE);
        Checks.answers("the first", Past.none(), g -> g.snow(0, 5), 5);
        Checks.answers("the last", Past.none(), g -> g.snow(7, 5), 5);
        for (int place : NO_PLACES) {
            Checks.refusesIndex("place " + place, Past.rich(), g -> g.snow(place, 5));
        }
    }

    private static void snowNoAmount() {
        Sentences.promise(2, NOT_AN_AMOUNT);
        Checks.answers("the least", Past.none(), g -> g.snow(3, 1), 1);
        Checks.answers("the most", Past.none(), g -> g.snow(3, 99), 99);
        for (int many : NO_AMOUNTS) {
            Checks.refusesArgument("many " + many, Past.rich(), g -> g.snow(3, many));
        }
        Checks.refusesArgument("many 100 on a full place", Past.full(3), g -> g.snow(3, 100));
    }

    private static void snowTwelveDeeds() {
        Sentences.promise(2, NO_ROOM, "12 deeds");
        Checks.answers("the twelfth", Past.deeds(11), g -> g.snow(0, 1), 12);
        Checks.refusesState("the thirteenth", Past.deeds(12), g -> g.snow(0, 1));
        Checks.refusesState("the thirteenth in a later year", Past.richTwelveDeeds(), g -> g.snow(0, 1));
        Checks.answers("in the next year", Past.deeds(12).then(Past.year()), g -> g.snow(0, 1), 13);
    }

    private static void snowFortyLayers() {
        Sentences.promise(2, NO_ROOM, "40 layers");
        Checks.answers("with 39", Past.years(39), g -> g.snow(0, 1), 1);
        Checks.answers("with 39, the twelfth", Past.years(39).then(Past.deeds(11)), g -> g.snow(0, 1), 12);
        Checks.refusesState("with 40", Past.years(40), g -> g.snow(0, 1));
        Checks.refusesState("with 40, the last of twelve deeds", Past.years(39).then(Past.deeds(12)).then(Past.year()),
                g -> g.snow(0, 1));
    }

    private static void meltReturns() {
        Sentences.promise(3, ICE_THEN);
        Checks.answers("one of one", Past.snow(0, 1), g -> g.melt(0, 1), 0);
        Checks.answers("one of none", Past.none(), g -> g.melt(7, 1), 0);
        Checks.answers("99 of 98", Past.snow(7, 98), g -> g.melt(7, 99), 0);
        Checks.answers("99 of 999", Past.full(7), g -> g.melt(7, 99), 900);
        Checks.answers("not that of others", Past.snow(6, 50), g -> g.melt(7, 9), 0);
        Checks.answers("as the place answers", Past.snow(7, 98).then(g -> g.melt(7, 99)), g -> g.iceAt(7), 0);
    }

    private static void meltNoPlace() {
        Sentences.promise(3, NO_SUCH_PLACE);
        Checks.answers("the first", Past.snow(0, 50), g -> g.melt(0, 5), 45);
        Checks.answers("the last", Past.snow(7, 50), g -> g.melt(7, 5), 45);
        for (int place : NO_PLACES) {
            Checks.refusesIndex("place " + place, Past.rich(), g -> g.melt(place, 5));
        }
    }

    private static void meltNoAmount() {
        Sentences.promise(3, NOT_AN_AMOUNT);
        Checks.answers("the least", Past.snow(3, 500), g -> g.melt(3, 1), 499);
        Checks.answers("the most", Past.snow(3, 500), g -> g.melt(3, 99), 401);
        for (int many : NO_AMOUNTS) {
            Checks.refusesArgument("many " + many, Past.rich(), g -> g.melt(3, many));
        }
        Checks.refusesArgument("many 0 without ice", Past.none(), g -> g.melt(3, 0));
    }

    private static void meltTwelveDeeds() {
        Sentences.promise(3, NO_ROOM, "12 deeds");
        Checks.answers("the twelfth", Past.deeds(11), g -> g.melt(0, 1), 10);
        Checks.refusesState("the thirteenth", Past.deeds(12), g -> g.melt(0, 1));
        Checks.refusesState("the thirteenth in a later year", Past.richTwelveDeeds(), g -> g.melt(0, 1));
        Checks.answers("in the next year", Past.deeds(12).then(Past.year()), g -> g.melt(0, 1), 11);
    }

    private static void meltFortyLayers() {
        Sentences.promise(3, NO_ROOM, "40 layers");
        Past ice = Past.snow(0, 50);
        Checks.answers("with 39", ice.then(Past.years(39)), g -> g.melt(0, 1), 49);
        Checks.refusesState("with 40", ice.then(Past.years(40)), g -> g.melt(0, 1));
    }

    private static void flowReturns() {
        Sentences.promise(4, ICE_THEN);
        Checks.answers("of none", Past.none(), g -> g.flow(0), 0);
        Checks.answers("of 9", Past.snow(0, 9), g -> g.flow(0), 9);
        Checks.answers("of 10", Past.snow(0, 10), g -> g.flow(0), 9);
        Checks.answers("of 999", Past.full(0), g -> g.flow(0), 900);
        Checks.answers("of 999, from the last", Past.full(7), g -> g.flow(7), 900);
        Checks.answers("no room", Past.full(1).then(Past.year()).then(Past.snow(0, 50)), g -> g.flow(0), 50);
        Checks.answers("room for one", Past.snow(1, 998).then(Past.year()).then(Past.snow(0, 50)),
                g -> g.flow(0), 49);
    }

    private static void flowNoPlace() {
        Sentences.promise(4, NO_SUCH_PLACE);
        Checks.answers("the first", Past.snow(0, 50), g -> g.flow(0), 45);
        Checks.answers("the last", Past.snow(7, 50), g -> g.flow(7), 45);
        for (int place : NO_PLACES) {
            Checks.refusesIndex("place " + place, Past.rich(), g -> g.flow(place));
        }
    }

    private static void flowTwelveDeeds() {
        Sentences.promise(4, NO_ROOM, "12 deeds");
        Checks.answers("the twelfth", Past.deeds(11), g -> g.flow(0), 10);
        Checks.refusesState("the thirteenth", Past.deeds(12), g -> g.flow(0));
        Checks.refusesState("the thirteenth in a later year", Past.richTwelveDeeds(), g -> g.flow(0));
        Checks.answers("in the next year", Past.deeds(12).then(Past.year()), g -> g.flow(0), 11);
    }

    private static void flowFortyLayers() {
        Sentences.promise(4, NO_ROOM, "40 layers");
        Past ice = Past.snow(0, 50);
        Checks.answers("with 39", ice.then(Past.years(39)), g -> g.flow(0), 45);
        Checks.refusesState("with 40", ice.then(Past.years(40)), g -> g.flow(0));
    }

    private static void endYearReturns() {
        Sentences.promise(5, "Returns the year that begins.");
        for (int years : new int[] {0, 1, 38, 39}) {
            Checks.answers("without a core, behind " + years, Past.years(years), g -> g.endYear(false), years + 1);
            Checks.answers("with a core, behind " + years, Past.coredYears(years), g -> g.endYear(true), years + 1);
        }
    }

    private static void endYearDrawsCore() {
        Sentences.promise(5, "- `drawsCore`: whether a core is drawn");
        Past past = Past.deeds(12);
        Checks.answers("drawn", past.then(Past.coredYear()), GlacierYears::cores, 1);
        Checks.answers("not drawn", past.then(Past.year()), GlacierYears::cores, 0);
        Checks.answers("drawn in the last year", Past.years(39).then(Past.coredYear()), GlacierYears::cores, 1);
        Checks.answers("not drawn in the last year", Past.years(40), GlacierYears::cores, 0);
    }

    private static void endYearFortyLayers() {
        Sentences.promise(5, "Throws `IllegalStateException` if there are 40 layers");
        Checks.answers("with 39", Past.years(39), g -> g.endYear(false), 40);
        Checks.refusesState("with 40", Past.years(40), g -> g.endYear(false));
        Checks.refusesState("with 40 and a core", Past.years(40), g -> g.endYear(true));
        Checks.refusesState("with 40 and six cores", Past.richFortyLayers(), g -> g.endYear(true));
    }

    private static void compactReturns() {
        Sentences.promise(6, "Returns how many layers are compacted by this that were not.");
        Past past = Past.coredYears(5);
        Checks.answers("one", past, g -> g.compact(1), 1);
        Checks.answers("all", past, g -> g.compact(5), 5);
        Past compacted = past.then(g -> g.compact(3));
        Checks.answers("none, the same year", compacted, g -> g.compact(3), 0);
        Checks.answers("none, a smaller year", compacted, g -> g.compact(1), 0);
        Checks.answers("one more", compacted, g -> g.compact(4), 1);
        Checks.answers("two more", compacted, g -> g.compact(5), 2);
        Checks.alike("none compacted changes nothing", compacted.then(g -> g.compact(1)), compacted);
        Checks.answers("forty", Past.coredYears(40), g -> g.compact(40), 40);
    }

    private static void compactNoYear() {
        Sentences.promise(6, "Throws `IllegalArgumentException` if year is not 1 to the year of now");
        Past past = Past.coredYears(4);
        Checks.answers("the least", past, g -> g.compact(1), 1);
        Checks.answers("the year of now", past, g -> g.compact(4), 4);
        for (int year : new int[] {0, 5, -1, LOWEST, HIGHEST}) {
            Checks.refusesArgument("year " + year, past, g -> g.compact(year));
        }
        Checks.refusesArgument("year 0 in the year 0", Past.none(), g -> g.compact(0));
        Checks.refusesArgument("year 41 in the year 40", Past.richFortyLayers(), g -> g.compact(41));
        Checks.answers("year 40 in the year 40", Past.richFortyLayers(), g -> g.compact(40), 38);
    }

    private static void compactNoCore() {
        Sentences.promise(6, "Throws `IllegalStateException` if there is no core of this year");
        Past past = Past.rich();
        for (int year : new int[] {1, 3, 6}) {
            Checks.refusesState("year " + year, past, g -> g.compact(year));
        }
        Checks.answers("year 2", past, g -> g.compact(2), 0);
        Checks.answers("year 4", past, g -> g.compact(4), 2);
        Checks.answers("year 5", past, g -> g.compact(5), 3);
        Checks.refusesState("thrown away", past.then(g -> g.throwAway(5)), g -> g.compact(5));
        Checks.refusesState("lost for a seventh", Past.coredYears(7), g -> g.compact(1));
        Checks.answers("not lost", Past.coredYears(6), g -> g.compact(1), 1);
        Checks.refusesState("no core at all", Past.year(), g -> g.compact(1));
    }

    private static void forgeReturns() {
        Sentences.promise(7, "Returns its two before.");
        Past past = Past.rich();
        Checks.answers("of snow, the first deed", past, g -> g.forge(5, 0, 1), 95);
        Checks.answers("of melting, the last deed", past, g -> g.forge(5, 3, 99), 5);
        Checks.answers("of a flow", past, g -> g.forge(5, 2, 0), 0);
        Checks.answers("forged before", past, g -> g.forge(3, 0, 93), 17);
        Checks.answers("forged to the least before", past.then(g -> g.forge(5, 0, 1)), g -> g.forge(5, 0, 99), 1);
        Checks.answers("forged to the most before", past.then(g -> g.forge(5, 3, 99)), g -> g.forge(5, 3, 5), 99);
        Checks.alike("forged and back", past.then(g -> g.forge(5, 0, 1)).then(g -> g.forge(5, 0, 95)), past);
    }

    private static final String NO_LAYER_OR_DEED =
            "Throws `IndexOutOfBoundsException` if there is no such layer, or it has no such deed";

    private static void forgeNoLayer() {
        Sentences.promise(7, NO_LAYER_OR_DEED, "layers");
        Past past = Past.deeds(3).then(Past.year()).then(Past.deeds(3)).then(Past.year()).then(Past.deeds(3));
        Checks.answers("the first", past, g -> g.forge(0, 0, 50), 1);
        Checks.answers("the last", past, g -> g.forge(1, 0, 50), 1);
        for (int layer : new int[] {-1, 2, 3, LOWEST, HIGHEST}) {
            Checks.refusesIndex("layer " + layer, past, g -> g.forge(layer, 0, 50));
        }
        Past most = Past.years(39).then(Past.deeds(12)).then(Past.year());
        Checks.answers("the layer 39", most, g -> g.forge(39, 11, 50), 1);
        Checks.refusesIndex("the layer 40", most, g -> g.forge(40, 0, 50));
    }

    private static void forgeNoDeed() {
        Sentences.promise(7, NO_LAYER_OR_DEED, "deeds");
        Past past = Past.deeds(3).then(Past.year()).then(Past.deeds(12)).then(Past.coredYear()).then(Past.year());
        Checks.answers("the first", past, g -> g.forge(0, 0, 50), 1);
        Checks.answers("the last of three", past, g -> g.forge(0, 2, 50), 1);
        Checks.answers("the last of twelve", past, g -> g.forge(1, 11, 50), 1);
        for (int deed : new int[] {-1, 3, 4, 12, LOWEST, HIGHEST}) {
            Checks.refusesIndex("of three, deed " + deed, past, g -> g.forge(0, deed, 50));
        }
        for (int deed : new int[] {-1, 12, LOWEST, HIGHEST}) {
            Checks.refusesIndex("of twelve, deed " + deed, past, g -> g.forge(1, deed, 50));
        }
        Checks.refusesIndex("of none", past, g -> g.forge(2, 0, 50));
        Checks.refusesIndex("of a compacted layer", past.then(g -> g.compact(2)), g -> g.forge(1, 0, 50));
    }

    private static final String NO_TWO = "Throws `IllegalArgumentException` if two is not 1 to 99, or for a flow not 0";

    private static void forgeNoAmount() {
        Sentences.promise(7, NO_TWO, "snow and melting");
        Past past = Past.rich();
        for (int two : new int[] {1, 99}) {
            Checks.answers("snow, " + two, past, g -> g.forge(4, 0, two), 94);
            Checks.answers("melting, " + two, past, g -> g.forge(4, 3, two), 5);
        }
        for (int two : NO_AMOUNTS) {
            Checks.refusesArgument("snow, " + two, past, g -> g.forge(4, 0, two));
            Checks.refusesArgument("melting, " + two, past, g -> g.forge(4, 3, two));
        }
    }

    private static void forgeFlow() {
        Sentences.promise(7, NO_TWO, "a flow");
        Past past = Past.rich();
        Checks.answers("0", past, g -> g.forge(4, 2, 0), 0);
        Checks.alike("0 changes nothing", past.then(g -> g.forge(4, 2, 0)), past);
        for (int two : new int[] {1, -1, 99, 100, LOWEST, HIGHEST}) {
            Checks.refusesArgument("" + two, past, g -> g.forge(4, 2, two));
        }
    }

    private static void forgeDeedFromZero() {
        Sentences.promise(7, "- `deed`: the deed, from 0 on");
        Past past = g -> {
            for (int deed = 0; deed < 12; deed++) {
                g.snow(deed % 8, deed + 1);
            }
            g.endYear(false);
        };
        for (int deed = 0; deed < 12; deed++) {
            int d = deed;
            Checks.answers("deed " + d, past, g -> g.forge(0, d, 99), d + 1);
        }
        Past first = past.then(g -> g.forge(0, 0, 99));
        Checks.answers("the deed 0 is that of the place 0", first, g -> g.iceInYear(1, 0), 108);
        Past last = past.then(g -> g.forge(0, 11, 99));
        Checks.answers("the deed 11 is that of the place 3", last, g -> g.iceInYear(1, 3), 103);
    }

    private static void forgeFromNowOn() {
        Sentences.promise(7, "- `two`: its two from now on");
        Past past = Past.snow(0, 10).then(Past.year()).then(Past.snow(0, 20)).then(Past.coredYear());
        Past forged = past.then(g -> g.forge(0, 0, 50)).then(g -> g.forge(1, 0, 70));
        Checks.answers("a replay", forged, g -> g.iceInYear(1, 0), 50);
        Checks.answers("a core is as it was", forged, g -> g.iceInYear(2, 0), 30);
        Checks.answers("without the core", forged.then(g -> g.throwAway(2)), g -> g.iceInYear(2, 0), 120);
        Checks.answers("a year that would be", forged, g -> g.iceAfter(1), 100);
        Checks.answers("the ice of now is as it was", forged, g -> g.iceAt(0), 30);
        Checks.answers("forged again", forged, g -> g.forge(0, 0, 10), 50);
    }

    private static void throwAwayReturns() {
        Sentences.promise(8, "Returns how many cores there are then.");
        for (int many = 1; many <= 6; many++) {
            int left = many - 1;
            int last = many;
            Checks.answers("the first of " + many, Past.coredYears(many), g -> g.throwAway(1), left);
            Checks.answers("the last of " + many, Past.coredYears(many), g -> g.throwAway(last), left);
        }
        Past past = Past.rich().then(g -> g.throwAway(4));
        Checks.answers("cores", past, GlacierYears::cores, 2);
        Checks.answers("the one before it stays", past, g -> g.yearOf(0), 2);
        Checks.answers("the one behind it stays", past, g -> g.yearOf(1), 5);
        Checks.answers("with its ice", past, g -> g.iceOfCore(1), Past.rich().lived().iceOfCore(2));
        for (int place = 0; place < 8; place++) {
            int p = place;
            Checks.answers("with the ice of " + p, past, g -> g.iceInYear(5, p), Past.rich().lived().iceInYear(5, p));
        }
        Checks.refusesIndex("there is no third one", past, g -> g.yearOf(2));
    }

    private static void throwAwayNoCore() {
        Sentences.promise(8, "Throws `IllegalArgumentException` if there is no core of this year");
        Past past = Past.year().then(Past.coredYears(2)).then(Past.years(2));
        Checks.answers("the first", past, g -> g.throwAway(2), 1);
        Checks.answers("the last", past, g -> g.throwAway(3), 1);
        for (int year : new int[] {0, 1, 4, 5, 6, -1, LOWEST, HIGHEST}) {
            Checks.refusesArgument("year " + year, past, g -> g.throwAway(year));
        }
        Checks.refusesArgument("thrown away", past.then(g -> g.throwAway(2)), g -> g.throwAway(2));
        Checks.refusesArgument("lost for a seventh", Past.coredYears(7), g -> g.throwAway(1));
        Checks.answers("the smallest of six behind it", Past.coredYears(7), g -> g.throwAway(2), 5);
        Checks.refusesArgument("no core at all", Past.year(), g -> g.throwAway(1));
    }

    private static void throwAwayCompacted() {
        Sentences.promise(8, "Throws `IllegalStateException` if the layer of the year ahead of it is compacted");
        Past past = Past.coredYears(5).then(g -> g.compact(3));
        for (int year : new int[] {1, 2, 3}) {
            Checks.refusesState("year " + year, past, g -> g.throwAway(year));
        }
        Checks.answers("the first whose layer ahead is not", past, g -> g.throwAway(4), 4);
        Checks.answers("the last", past, g -> g.throwAway(5), 4);
        Checks.answers("the year 1, not compacted", Past.coredYear(), g -> g.throwAway(1), 0);
        Checks.refusesState("the year 1, compacted", Past.coredYear().then(g -> g.compact(1)), g -> g.throwAway(1));
        Past most = Past.coredYears(40).then(g -> g.compact(40));
        Checks.refusesState("the year 40, compacted", most, g -> g.throwAway(40));
        Checks.answers("the year 40, not compacted", Past.coredYears(40).then(g -> g.compact(39)),
                g -> g.throwAway(40), 5);
    }
}
