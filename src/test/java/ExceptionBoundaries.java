/** The two sentences of the document about all exceptions, method by method. */
final class ExceptionBoundaries {
    private static final String NAMED_FIRST = "If several exceptions apply, the one that is named first is thrown.";
    private static final String CHANGES_NOTHING = "A method that throws an exception changes nothing.";

    private static final int LOWEST = Integer.MIN_VALUE;
    private static final int HIGHEST = Integer.MAX_VALUE;
    private static final int[] NO_PLACES = {-1, 8, LOWEST, HIGHEST};
    private static final int[] NO_AMOUNTS = {0, 100, -1, LOWEST, HIGHEST};

    private ExceptionBoundaries() {
    }

    static void all() {
        snowNamedFirst();
        meltNamedFirst();
        flowNamedFirst();
        compactNamedFirst();
        forgeNamedFirst();
        throwAwayNamedFirst();
        replayCostNamedFirst();
        iceInYearNamedFirst();
        deedsChangeNothing();
        endYearChangesNothing();
        historyChangesNothing();
        questionsChangeNothing();
        manyRefusedInARow();
        questionsAnsweredChangeNothing();
    }

    /** Pasts behind which no deed is done any more, each for another reason, and for both. */
    private static Past[] noRoom() {
        return new Past[] {Past.richTwelveDeeds(), Past.richFortyLayers(),
            Past.richTwelveDeeds().then(Past.years(34))};
    }

    private static void snowNamedFirst() {
        Sentences.term(NAMED_FIRST, "snow");
        for (int place : NO_PLACES) {
            for (int many : NO_AMOUNTS) {
                Checks.refusesIndex("place " + place + ", many " + many, Past.rich(), g -> g.snow(place, many));
            }
        }
        for (Past past : noRoom()) {
            Checks.refusesIndex("place 8, no room", past, g -> g.snow(8, 99));
            Checks.refusesIndex("place -1, no room", past, g -> g.snow(-1, 1));
            Checks.refusesArgument("many 0, no room", past, g -> g.snow(0, 0));
            Checks.refusesArgument("many 100, no room", past, g -> g.snow(7, 100));
            Checks.refusesIndex("place 8, many 100, no room", past, g -> g.snow(8, 100));
            Checks.refusesIndex("place -1, many 0, no room", past, g -> g.snow(-1, 0));
            Checks.refusesState("no room alone", past, g -> g.snow(0, 1));
        }
    }

    private static void meltNamedFirst() {
        Sentences.term(NAMED_FIRST, "melt");
        for (int place : NO_PLACES) {
            for (int many : NO_AMOUNTS) {
                Checks.refusesIndex("place " + place + ", many " + many, Past.rich(), g -> g.melt(place, many));
            }
        }
        for (Past past : noRoom()) {
            Checks.refusesIndex("place 8, no room", past, g -> g.melt(8, 99));
            Checks.refusesIndex("place -1, no room", past, g -> g.melt(-1, 1));
            Checks.refusesArgument("many 0, no room", past, g -> g.melt(0, 0));
            Checks.refusesArgument("many 100, no room", past, g -> g.melt(7, 100));
            Checks.refusesIndex("place 8, many 100, no room", past, g -> g.melt(8, 100));
            Checks.refusesIndex("place -1, many 0, no room", past, g -> g.melt(-1, 0));
            Checks.refusesState("no room alone", past, g -> g.melt(0, 1));
        }
    }

    private static void flowNamedFirst() {
        Sentences.term(NAMED_FIRST, "flow");
        for (Past past : noRoom()) {
            for (int place : NO_PLACES) {
                Checks.refusesIndex("place " + place + ", no room", past, g -> g.flow(place));
            }
            Checks.refusesState("no room alone", past, g -> g.flow(7));
        }
    }

    private static void compactNamedFirst() {
        Sentences.term(NAMED_FIRST, "compact");
        // There is never a core of such a year, so both apply to each of them.
        for (int year : new int[] {0, -1, 7, LOWEST, HIGHEST}) {
            Checks.refusesArgument("year " + year, Past.rich(), g -> g.compact(year));
        }
        Checks.refusesArgument("year 0 without cores", Past.none(), g -> g.compact(0));
        Checks.refusesArgument("year 1 without cores", Past.none(), g -> g.compact(1));
        Checks.refusesArgument("year 41", Past.richFortyLayers(), g -> g.compact(41));
        Checks.refusesState("no core alone", Past.rich(), g -> g.compact(6));
    }

    private static void forgeNamedFirst() {
        Sentences.term(NAMED_FIRST, "forge");
        for (int two : NO_AMOUNTS) {
            Checks.refusesIndex("no layer, two " + two, Past.rich(), g -> g.forge(6, 0, two));
            Checks.refusesIndex("layer -1, two " + two, Past.rich(), g -> g.forge(-1, 0, two));
            Checks.refusesIndex("no deed, two " + two, Past.rich(), g -> g.forge(5, 4, two));
            Checks.refusesIndex("deed -1, two " + two, Past.rich(), g -> g.forge(5, -1, two));
            Checks.refusesIndex("a compacted layer, two " + two, Past.rich(), g -> g.forge(1, 0, two));
            Checks.refusesArgument("two alone, " + two, Past.rich(), g -> g.forge(5, 3, two));
        }
    }

    private static void throwAwayNamedFirst() {
        Sentences.term(NAMED_FIRST, "throwAway");
        Past past = Past.rich();
        Checks.refusesArgument("no core, and the layer ahead is compacted", past, g -> g.throwAway(1));
        Past lost = Past.coredYears(6).then(g -> g.compact(3)).then(Past.coredYear());
        Checks.refusesArgument("lost for a seventh, and compacted", lost, g -> g.throwAway(1));
        Past thrown = Past.coredYears(3).then(g -> g.throwAway(1)).then(g -> g.compact(2));
        Checks.refusesArgument("thrown away, and compacted then", thrown, g -> g.throwAway(1));
        Checks.refusesState("compacted alone", past, g -> g.throwAway(2));
    }

    private static void replayCostNamedFirst() {
        Sentences.term(NAMED_FIRST, "replayCost");
        for (int year : new int[] {-1, 7, LOWEST, HIGHEST}) {
            Checks.refusesArgument("year " + year, Past.rich(), g -> g.replayCost(year));
        }
        Checks.refusesState("not replayed alone", Past.rich(), g -> g.replayCost(1));
    }

    private static void iceInYearNamedFirst() {
        Sentences.term(NAMED_FIRST, "iceInYear");
        for (int place : NO_PLACES) {
            for (int year : new int[] {-1, 7, LOWEST, HIGHEST}) {
                Checks.refusesIndex("year " + year + ", place " + place, Past.rich(), g -> g.iceInYear(year, place));
            }
            Checks.refusesIndex("not replayed, place " + place, Past.rich(), g -> g.iceInYear(1, place));
        }
        for (int year : new int[] {-1, 7, LOWEST, HIGHEST}) {
            Checks.refusesArgument("year " + year, Past.rich(), g -> g.iceInYear(year, 0));
        }
        Checks.refusesState("not replayed alone", Past.rich(), g -> g.iceInYear(1, 0));
    }

    private static void deedsChangeNothing() {
        Sentences.term(CHANGES_NOTHING, "snow, melt and flow");
        for (int place : NO_PLACES) {
            Checks.refusesIndex("snow on " + place, Past.rich(), g -> g.snow(place, 5));
            Checks.refusesIndex("melt on " + place, Past.rich(), g -> g.melt(place, 5));
            Checks.refusesIndex("flow from " + place, Past.rich(), g -> g.flow(place));
        }
        for (int many : NO_AMOUNTS) {
            Checks.refusesArgument("snow of " + many, Past.rich(), g -> g.snow(0, many));
            Checks.refusesArgument("melt of " + many, Past.rich(), g -> g.melt(0, many));
        }
        for (Past past : noRoom()) {
            Checks.refusesState("snow without room", past, g -> g.snow(0, 5));
            Checks.refusesState("melt without room", past, g -> g.melt(0, 5));
            Checks.refusesState("flow without room", past, g -> g.flow(0));
        }
    }

    private static void endYearChangesNothing() {
        Sentences.term(CHANGES_NOTHING, "endYear");
        Checks.refusesState("with six cores, one more drawn", Past.richFortyLayers(), g -> g.endYear(true));
        Checks.refusesState("with six cores, none drawn", Past.richFortyLayers(), g -> g.endYear(false));
        Past oneCore = Past.years(38).then(Past.deeds(3)).then(Past.coredYear()).then(Past.year());
        Checks.refusesState("with one core, one more drawn", oneCore, g -> g.endYear(true));
    }

    private static void historyChangesNothing() {
        Sentences.term(CHANGES_NOTHING, "compact, forge and throwAway");
        Past past = Past.rich();
        Checks.refusesArgument("compact up to 0", past, g -> g.compact(0));
        Checks.refusesArgument("compact up to 7", past, g -> g.compact(7));
        Checks.refusesState("compact without a core", past, g -> g.compact(3));
        Checks.refusesState("compact without a core of now", past, g -> g.compact(6));
        Checks.refusesIndex("forge no layer", past, g -> g.forge(6, 0, 5));
        Checks.refusesIndex("forge no deed", past, g -> g.forge(2, 4, 5));
        Checks.refusesIndex("forge a compacted layer", past, g -> g.forge(0, 0, 5));
        Checks.refusesArgument("forge to 0", past, g -> g.forge(2, 0, 0));
        Checks.refusesArgument("forge to 100", past, g -> g.forge(3, 3, 100));
        Checks.refusesArgument("forge a flow to 1", past, g -> g.forge(2, 2, 1));
        Checks.refusesArgument("throw no core away", past, g -> g.throwAway(3));
        Checks.refusesState("throw away behind a compacted layer", past, g -> g.throwAway(2));
    }

    private static void questionsChangeNothing() {
        Sentences.term(CHANGES_NOTHING, "the questions");
        Past past = Past.rich();
        for (int index : new int[] {-1, 8, LOWEST, HIGHEST}) {
            Checks.refusesIndex("iceAt " + index, past, g -> g.iceAt(index));
            Checks.refusesIndex("deedsOf " + index, past, g -> g.deedsOf(index));
            Checks.refusesIndex("sealOf " + index, past, g -> g.sealOf(index));
            Checks.refusesIndex("isCompacted " + index, past, g -> g.isCompacted(index));
            Checks.refusesIndex("isFalse " + index, past, g -> g.isFalse(index));
            Checks.refusesIndex("yearOf " + index, past, g -> g.yearOf(index));
            Checks.refusesIndex("iceOfCore " + index, past, g -> g.iceOfCore(index));
            Checks.refusesArgument("canReplay " + index, past, g -> g.canReplay(index));
            Checks.refusesArgument("replayedFrom " + index, past, g -> g.replayedFrom(index));
            Checks.refusesArgument("replayCost " + index, past, g -> g.replayCost(index));
            Checks.refusesIndex("iceInYear at " + index, past, g -> g.iceInYear(0, index));
            Checks.refusesArgument("iceInYear of " + index, past, g -> g.iceInYear(index, 0));
        }
        Checks.refusesState("replayCost of 1", past, g -> g.replayCost(1));
        Checks.refusesState("iceInYear of 1", past, g -> g.iceInYear(1, 0));
        Checks.refusesArgument("iceAfter 0", past, g -> g.iceAfter(0));
        Checks.refusesArgument("iceAfter 31", past, g -> g.iceAfter(31));
    }

    private static void manyRefusedInARow() {
        Sentences.term(CHANGES_NOTHING, "many in a row");
        Past refused = g -> {
            for (int i = 0; i < 10; i++) {
                Checks.outcome(() -> g.snow(8, 5));
                Checks.outcome(() -> g.melt(0, 100));
                Checks.outcome(() -> g.flow(-1));
                Checks.outcome(() -> g.compact(3));
                Checks.outcome(() -> g.forge(1, 0, 5));
                Checks.outcome(() -> g.throwAway(2));
                Checks.outcome(() -> g.iceInYear(1, 0));
            }
        };
        Checks.alike("seventy refused", Past.rich().then(refused), Past.rich());
    }

    // The document tells of no change by them, and of iceAfter() and bestCore() that there is none.
    private static void questionsAnsweredChangeNothing() {
        Sentences.begin("Not promised", "", "Nothing is promised beyond the answers and state changes described above,");
        Past asked = g -> {
            for (int year = 0; year <= g.year(); year++) {
                int y = year;
                Checks.outcome(() -> g.iceInYear(y, 0));
                Checks.outcome(() -> g.replayCost(y));
                g.canReplay(y);
                g.replayedFrom(y);
            }
            for (int layer = 0; layer < g.year(); layer++) {
                g.deedsOf(layer);
                g.sealOf(layer);
                g.isFalse(layer);
                g.isCompacted(layer);
            }
            g.richestYear();
            g.iceAfter(30);
            g.bestCore();
            g.meanIce();
            g.digest();
            g.thickest();
            g.firstFalse();
        };
        Checks.alike("the rich past", Past.rich().then(asked), Past.rich());
    }
}
