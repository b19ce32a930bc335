import java.math.BigInteger;
import java.util.ArrayList;
import java.util.List;

/**
 * The sentences of the promises 22 to 30, years that were and what would be, that name a boundary,
 * each with a test of its own.
 */
final class YearBoundaries {
    private static final int LOWEST = Integer.MIN_VALUE;
    private static final int HIGHEST = Integer.MAX_VALUE;

    private static final String NO_SUCH_YEAR = "Throws `IllegalArgumentException` if year is not 0 to the year of now";
    private static final String NOT_REPLAYED = "Throws `IllegalStateException` if it cannot be replayed";
    private static final String CAN_REPLAY = "Returns whether its beginning can be replayed: whether no layer is"
            + " compacted whose deeds would be done again for it.";
    private static final String REPLAYED_FROM = "Returns from the core of which year its beginning is replayed;"
            + " -1 if from the beginning without ice.";
    private static final String RICHEST = "Returns the year that can be replayed at whose beginning there was the"
            + " most ice in all, of several the smallest.";
    private static final String ICE_AFTER = "Returns all ice behind them, if in each of them the deeds of the latest"
            + " layer are done again, in their order, and nothing else; that of now without layers, or if it is"
            + " compacted (nothing is changed).";
    private static final String BEST_CORE = "Returns the year that can be replayed of which a core had best be there"
            + " more, however many there are, so that replayCost() of all years that can be replayed now, added, is"
            + " the least, of several the smallest; -1 if by none it is less than now (nothing is changed).";

    private YearBoundaries() {
    }

    static void all() {
        canReplayCompacted();
        canReplayYearZero();
        canReplayNoYear();
        replayedFromCore();
        replayedFromBeginning();
        replayedFromNoYear();
        replayCost();
        replayCostNoYear();
        replayCostNotReplayed();
        iceInYear();
        iceInYearNoPlace();
        iceInYearNoYear();
        iceInYearNotReplayed();
        richestYear();
        richestYearOfSeveral();
        richestYearReplayed();
        iceAfterOneAndThirty();
        iceAfterWithoutLayers();
        iceAfterCompacted();
        iceAfterChangesNothing();
        iceAfterNoYears();
        bestCoreOfSeveral();
        bestCoreUpToTheNextCore();
        bestCoreNone();
        bestCoreReplayed();
        bestCoreHoweverMany();
        bestCoreChangesNothing();
        meanIce();
        digestOfAll();
        digestWrapsAround();
        digestCountsOneOrZero();
        digestReturns();
    }

    /** Six years of one snow of one ice each, and cores of the years 2 and 4. */
    private static Past sixYears() {
        return g -> {
            for (int year = 0; year < 6; year++) {
                g.snow(0, 1);
                g.endYear(year == 1 || year == 3);
            }
        };
    }

    private static void canReplayCompacted() {
        Sentences.promise(22, CAN_REPLAY, "compacted layers");
        Past first = sixYears().then(g -> g.compact(2));
        boolean[] behindFirst = {true, false, true, true, true, true, true};
        Past second = sixYears().then(g -> g.compact(4));
        boolean[] behindSecond = {true, false, true, false, true, true, true};
        for (int year = 0; year <= 6; year++) {
            int y = year;
            Checks.answers("not compacted, " + y, sixYears(), g -> g.canReplay(y), true);
            Checks.answers("compacted up to 2, " + y, first, g -> g.canReplay(y), behindFirst[y]);
            Checks.answers("compacted up to 4, " + y, second, g -> g.canReplay(y), behindSecond[y]);
        }
        Past withoutDeeds = Past.coredYears(1).then(Past.coredYears(1)).then(g -> g.throwAway(1)).then(g -> g.compact(2));
        Checks.answers("compacted without deeds", withoutDeeds, g -> g.canReplay(1), false);
        Past lost = Past.coredYears(1).then(g -> g.compact(1)).then(Past.year()).then(Past.coredYears(5));
        Checks.answers("six cores", lost, g -> g.canReplay(2), true);
        Past seventh = lost.then(Past.coredYear());
        Checks.answers("its core lost for a seventh", seventh, g -> g.canReplay(2), false);
        Checks.answers("the core's own year", seventh, g -> g.canReplay(1), false);
        Checks.answers("the next core's year", seventh, g -> g.canReplay(3), true);
    }

    private static void canReplayYearZero() {
        Sentences.promise(22, CAN_REPLAY, "the year 0");
        Checks.answers("a new one", Past.none(), g -> g.canReplay(0), true);
        Checks.answers("its layer compacted", Past.coredYear().then(g -> g.compact(1)), g -> g.canReplay(0), true);
        Checks.answers("all compacted", Past.coredYears(40).then(g -> g.compact(40)), g -> g.canReplay(0), true);
        Checks.answers("all compacted, the year of now", Past.coredYears(40).then(g -> g.compact(40)),
                g -> g.canReplay(40), true);
    }

    private static void canReplayNoYear() {
        Sentences.promise(22, NO_SUCH_YEAR);
        for (int year : new int[] {-1, 7, LOWEST, HIGHEST}) {
            Checks.refusesArgument("year " + year, Past.rich(), g -> g.canReplay(year));
        }
        Checks.answers("the year 0", Past.rich(), g -> g.canReplay(0), true);
        Checks.answers("the year of now", Past.rich(), g -> g.canReplay(6), true);
        Checks.answers("the year 40", Past.richFortyLayers(), g -> g.canReplay(40), true);
        Checks.refusesArgument("the year 41", Past.richFortyLayers(), g -> g.canReplay(41));
    }

    private static void replayedFromCore() {
        Sentences.promise(23, REPLAYED_FROM, "from a core");
        int[] due = {-1, -1, 2, 2, 4, 4, 4};
        for (int year = 2; year <= 6; year++) {
            int y = year;
            Checks.answers("year " + y, sixYears(), g -> g.replayedFrom(y), due[y]);
        }
        Checks.answers("one thrown away", sixYears().then(g -> g.throwAway(4)), g -> g.replayedFrom(6), 2);
        Checks.answers("the year 40", Past.coredYears(40), g -> g.replayedFrom(40), 40);
        Checks.answers("the smallest of six", Past.coredYears(40), g -> g.replayedFrom(35), 35);
        Past compacted = sixYears().then(g -> g.compact(4));
        Checks.answers("one that cannot be replayed", compacted, g -> g.replayedFrom(3), 2);
    }

    private static void replayedFromBeginning() {
        Sentences.promise(23, REPLAYED_FROM, "from the beginning");
        Checks.answers("the year 0 of a new one", Past.none(), g -> g.replayedFrom(0), -1);
        Checks.answers("the year 0", Past.coredYear(), g -> g.replayedFrom(0), -1);
        Checks.answers("the year ahead of the first core", sixYears(), g -> g.replayedFrom(1), -1);
        Checks.answers("without cores", Past.years(40), g -> g.replayedFrom(40), -1);
        Checks.answers("ahead of the smallest of six", Past.coredYears(40), g -> g.replayedFrom(34), -1);
        Checks.answers("one that cannot be replayed", sixYears().then(g -> g.compact(2)), g -> g.replayedFrom(1), -1);
        Checks.answers("the only core thrown away", Past.coredYear().then(g -> g.throwAway(1)),
                g -> g.replayedFrom(1), -1);
    }

    private static void replayedFromNoYear() {
        Sentences.promise(23, NO_SUCH_YEAR);
        for (int year : new int[] {-1, 7, LOWEST, HIGHEST}) {
            Checks.refusesArgument("year " + year, Past.rich(), g -> g.replayedFrom(year));
        }
        Checks.answers("the year of now", Past.rich(), g -> g.replayedFrom(6), 5);
        Checks.answers("the year 40", Past.years(40), g -> g.replayedFrom(40), -1);
        Checks.refusesArgument("the year 41", Past.years(40), g -> g.replayedFrom(41));
    }

    private static void replayCost() {
        Sentences.promise(24, "Returns how many deeds are done again for it.");
        int[] due = {0, 1, 0, 1, 0, 1, 2};
        for (int year = 0; year <= 6; year++) {
            int y = year;
            Checks.answers("year " + y, sixYears().then(Past.deeds(12)), g -> g.replayCost(y), due[y]);
        }
        Past most = g -> {
            for (int year = 0; year < 39; year++) {
                Past.deeds(12).live(g);
                g.endYear(false);
            }
        };
        Checks.answers("39 layers of twelve", most, g -> g.replayCost(39), 468);
        Checks.answers("of layers without deeds", Past.years(40), g -> g.replayCost(40), 0);
        Checks.answers("the year 0, its layer compacted", sixYears().then(g -> g.compact(2)), g -> g.replayCost(0), 0);
        Checks.answers("forged deeds count", sixYears().then(g -> g.forge(5, 0, 99)), g -> g.replayCost(6), 2);
    }

    private static void replayCostNoYear() {
        Sentences.promise(24, NO_SUCH_YEAR);
        for (int year : new int[] {-1, 7, LOWEST, HIGHEST}) {
            Checks.refusesArgument("year " + year, Past.rich(), g -> g.replayCost(year));
        }
        Checks.answers("the year 0", Past.rich(), g -> g.replayCost(0), 0);
        Checks.answers("the year of now", Past.rich(), g -> g.replayCost(6), 4);
        Checks.answers("the year 40", Past.years(40), g -> g.replayCost(40), 0);
        Checks.refusesArgument("the year 41", Past.years(40), g -> g.replayCost(41));
    }

    private static void replayCostNotReplayed() {
        Sentences.promise(24, NOT_REPLAYED);
        Past past = sixYears().then(g -> g.compact(4));
        for (int year : new int[] {1, 3}) {
            Checks.refusesState("year " + year, past, g -> g.replayCost(year));
        }
        for (int year : new int[] {0, 2, 4}) {
            Checks.answers("year " + year, past, g -> g.replayCost(year), 0);
        }
        Checks.answers("behind the compacted ones", past, g -> g.replayCost(5), 1);
        Past withoutDeeds = Past.years(1).then(Past.coredYear()).then(g -> g.compact(2));
        Checks.refusesState("compacted without deeds", withoutDeeds, g -> g.replayCost(1));
    }

    private static void iceInYear() {
        Sentences.promise(25, "Returns the ice of the place at its beginning, replayed.");
        for (int year = 0; year <= 6; year++) {
            int y = year;
            Checks.answers("year " + y, sixYears().then(Past.deeds(12)), g -> g.iceInYear(y, 0), y);
            Checks.answers("another place, " + y, sixYears(), g -> g.iceInYear(y, 7), 0);
        }
        Past forged = sixYears().then(g -> g.forge(0, 0, 99)).then(g -> g.forge(2, 0, 99));
        int[] due = {0, 99, 2, 101, 4, 5, 6};
        for (int year = 0; year <= 6; year++) {
            int y = year;
            Checks.answers("forged, " + y, forged, g -> g.iceInYear(y, 0), due[y]);
        }
        Past full = Past.full(7).then(Past.year());
        Checks.answers("the most", full, g -> g.iceInYear(1, 7), 999);
        Checks.answers("the year 40", Past.snow(7, 9).then(Past.years(40)), g -> g.iceInYear(40, 7), 9);
        Checks.answers("the year 0 with its layer compacted", sixYears().then(g -> g.compact(2)),
                g -> g.iceInYear(0, 0), 0);
    }

    private static void iceInYearNoPlace() {
        Sentences.promise(25, "Throws `IndexOutOfBoundsException` if there is no such place");
        for (int place : new int[] {-1, 8, LOWEST, HIGHEST}) {
            Checks.refusesIndex("place " + place, Past.rich(), g -> g.iceInYear(6, place));
        }
        Checks.answers("the first", Past.snow(0, 5).then(Past.year()), g -> g.iceInYear(1, 0), 5);
        Checks.answers("the last", Past.snow(7, 5).then(Past.year()), g -> g.iceInYear(1, 7), 5);
    }

    private static void iceInYearNoYear() {
        Sentences.promise(25, NO_SUCH_YEAR);
        for (int year : new int[] {-1, 7, LOWEST, HIGHEST}) {
            Checks.refusesArgument("year " + year, Past.rich(), g -> g.iceInYear(year, 7));
        }
        Checks.answers("the year 0", sixYears(), g -> g.iceInYear(0, 0), 0);
        Checks.answers("the year of now", sixYears(), g -> g.iceInYear(6, 0), 6);
        Checks.refusesArgument("the year 41", Past.years(40), g -> g.iceInYear(41, 0));
    }

    private static void iceInYearNotReplayed() {
        Sentences.promise(25, NOT_REPLAYED);
        Past past = sixYears().then(g -> g.compact(4));
        for (int year : new int[] {1, 3}) {
            for (int place : new int[] {0, 7}) {
                Checks.refusesState("year " + year, past, g -> g.iceInYear(year, place));
            }
        }
        for (int year : new int[] {0, 2, 4, 5, 6}) {
            Checks.answers("year " + year, past, g -> g.iceInYear(year, 0), year);
        }
    }

    private static void richestYear() {
        Sentences.promise(26, RICHEST, "the most ice");
        Checks.answers("the year of now", sixYears(), GlacierYears::richestYear, 6);
        Checks.answers("the year 1", Past.snow(7, 1).then(Past.year()).then(g -> g.melt(7, 1)).then(Past.year()),
                GlacierYears::richestYear, 1);
        Checks.answers("a single ice more, on another place", Past.snow(0, 9).then(Past.year()).then(Past.snow(7, 1))
                .then(Past.year()), GlacierYears::richestYear, 2);
        Checks.answers("what is done in this year does not count", Past.snow(0, 9), GlacierYears::richestYear, 0);
        Past in40 = Past.years(39).then(Past.deeds(1)).then(Past.year());
        Checks.answers("the year 40", in40, GlacierYears::richestYear, 40);
        Past forged = sixYears().then(g -> g.forge(2, 0, 99));
        Checks.answers("as it is replayed, forged", forged, GlacierYears::richestYear, 3);
        Past melted = Past.snow(0, 50).then(Past.year()).then(g -> g.melt(0, 10)).then(Past.year());
        Checks.answers("behind a replay", melted.then(g -> g.iceInYear(1, 0)), GlacierYears::richestYear, 1);
        // If what would be were left over, the melting of the year 1 would take ice from the place 7.
        Past grown = Past.snow(0, 10).then(Past.year()).then(g -> g.melt(7, 99)).then(Past.snow(0, 5))
                .then(Past.years(2)).then(Past.snow(7, 99));
        Checks.answers("behind years that would be", grown.then(g -> g.iceAfter(1)), GlacierYears::richestYear, 2);
        Past full = Past.full(0).then(Past.year());
        Checks.answers("behind a replay with more ice", full.then(g -> g.iceInYear(1, 0)), GlacierYears::richestYear, 1);
    }

    private static void richestYearOfSeveral() {
        Sentences.promise(26, RICHEST, "several");
        Checks.answers("a new one", Past.none(), GlacierYears::richestYear, 0);
        Checks.answers("none with ice", Past.years(40), GlacierYears::richestYear, 0);
        Checks.answers("the same from 1 on", Past.snow(3, 5).then(Past.years(40)), GlacierYears::richestYear, 1);
        Past swapped = Past.snow(0, 50).then(Past.coredYear()).then(g -> g.flow(0)).then(Past.coredYear());
        Checks.answers("the same on other places", swapped, GlacierYears::richestYear, 1);
        Past again = Past.snow(0, 5).then(Past.year()).then(g -> g.melt(0, 1)).then(Past.year())
                .then(Past.snow(0, 1)).then(Past.year());
        Checks.answers("the same once more", again, GlacierYears::richestYear, 1);
    }

    private static void richestYearReplayed() {
        Sentences.promise(26, RICHEST, "that can be replayed");
        Past past = Past.snow(0, 50).then(Past.year()).then(g -> g.melt(0, 20)).then(Past.coredYear());
        Checks.answers("not compacted", past, GlacierYears::richestYear, 1);
        Checks.answers("compacted", past.then(g -> g.compact(2)), GlacierYears::richestYear, 2);
        Past lower = past.then(g -> g.melt(0, 99)).then(Past.coredYear());
        Checks.answers("a core of one in the middle", lower.then(g -> g.compact(3)), GlacierYears::richestYear, 2);
        Past empty = Past.snow(0, 50).then(Past.year()).then(g -> g.melt(0, 99)).then(Past.coredYear());
        Checks.answers("only years without ice", empty.then(g -> g.compact(2)), GlacierYears::richestYear, 0);
        Past lost = Past.coredYear().then(g -> g.compact(1)).then(Past.snow(0, 99)).then(Past.year())
                .then(g -> g.melt(0, 99)).then(Past.coredYears(5));
        Checks.answers("with the core of 1", lost, GlacierYears::richestYear, 2);
        Checks.answers("which is lost for a seventh", lost.then(Past.coredYear()), GlacierYears::richestYear, 0);
    }

    private static void iceAfterOneAndThirty() {
        Sentences.promise(27, ICE_AFTER, "the deeds of the latest layer");
        Past past = Past.snow(0, 50).then(Past.year()).then(Past.deeds(2)).then(Past.year()).then(Past.snow(7, 9));
        Checks.answers("one year", past, g -> g.iceAfter(1), 63);
        Checks.answers("two years", past, g -> g.iceAfter(2), 65);
        Checks.answers("thirty years", past, g -> g.iceAfter(30), 121);
        Past order = Past.snow(7, 30).then(g -> g.flow(7)).then(Past.year());
        Checks.answers("in their order", order, g -> g.iceAfter(1), 52);
        Checks.answers("of twelve deeds", Past.deeds(12).then(Past.year()), g -> g.iceAfter(1), 24);
        Checks.answers("of none", Past.deeds(12).then(Past.years(2)), g -> g.iceAfter(30), 12);
        Checks.answers("as forged", Past.deeds(1).then(Past.year()).then(g -> g.forge(0, 0, 9)), g -> g.iceAfter(1), 10);
        Checks.answers("of the layer 39", Past.years(39).then(Past.deeds(3)).then(Past.year()), g -> g.iceAfter(30), 93);
    }

    private static void iceAfterWithoutLayers() {
        Sentences.promise(27, ICE_AFTER, "without layers");
        for (int years : new int[] {1, 30}) {
            Checks.answers("without deeds, " + years, Past.none(), g -> g.iceAfter(years), 0);
            Checks.answers("with deeds of this year, " + years, Past.deeds(12), g -> g.iceAfter(years), 12);
        }
    }

    private static void iceAfterCompacted() {
        Sentences.promise(27, ICE_AFTER, "compacted");
        Past past = Past.deeds(3).then(Past.coredYear());
        Past compacted = past.then(g -> g.compact(1));
        Checks.answers("not compacted", past, g -> g.iceAfter(30), 93);
        Checks.answers("compacted, one year", compacted, g -> g.iceAfter(1), 3);
        Checks.answers("compacted, thirty years", compacted, g -> g.iceAfter(30), 3);
        Checks.answers("with the deeds of this year", compacted.then(Past.deeds(2)), g -> g.iceAfter(30), 5);
        Checks.answers("another one behind it", compacted.then(Past.deeds(2)).then(Past.year()), g -> g.iceAfter(1), 7);
        Past notTheLatest = past.then(past).then(g -> g.compact(1));
        Checks.answers("the latest is not compacted", notTheLatest, g -> g.iceAfter(1), 9);
    }

    private static void iceAfterChangesNothing() {
        Sentences.promise(27, "(nothing is changed)");
        for (Past past : new Past[] {Past.none(), Past.rich(), Past.richFortyLayers()}) {
            Checks.alike("one year", past.then(g -> g.iceAfter(1)), past);
            Checks.alike("thirty years", past.then(g -> g.iceAfter(30)), past);
        }
    }

    private static void iceAfterNoYears() {
        Sentences.promise(27, "Throws `IllegalArgumentException` if years is not 1 to 30");
        for (int years : new int[] {0, 31, -1, LOWEST, HIGHEST}) {
            Checks.refusesArgument("years " + years, Past.rich(), g -> g.iceAfter(years));
            Checks.refusesArgument("without layers, years " + years, Past.none(), g -> g.iceAfter(years));
        }
        Checks.answers("the least", Past.deeds(1).then(Past.year()), g -> g.iceAfter(1), 2);
        Checks.answers("the most", Past.deeds(1).then(Past.year()), g -> g.iceAfter(30), 31);
    }

    private static void bestCoreOfSeveral() {
        Sentences.promise(28, BEST_CORE, "of several the smallest");
        // A core of 2 spares two deeds for each of the years 2 and 3, one of 3 three for 3 alone.
        Past three = Past.deeds(1).then(Past.year());
        Checks.answers("two years: 1 spares 1 and 1, 2 spares 2", three.then(three), GlacierYears::bestCore, 1);
        Checks.answers("three years: 2 spares 4", three.then(three).then(three), GlacierYears::bestCore, 2);
        Checks.answers("the first year alone", three, GlacierYears::bestCore, 1);
        Checks.answers("the last year alone", Past.years(3).then(three), GlacierYears::bestCore, 4);
        Checks.answers("the year 40", Past.years(39).then(three), GlacierYears::bestCore, 40);
        // Behind a core of 1, cores of 2 and 3 both spare two deeds.
        Past core = Past.coredYear().then(three).then(three);
        Checks.answers("behind a core", core, GlacierYears::bestCore, 2);
    }

    private static void bestCoreUpToTheNextCore() {
        Sentences.promise(28, BEST_CORE, "the costs of all years, added");
        // A core of 1 spares one deed in each year up to the next core, and one of the last year two.
        Past early = Past.deeds(1).then(Past.year());
        Past late = Past.deeds(2).then(Past.year());
        Checks.answers("the next core is of 2", early.then(Past.coredYear()).then(late), GlacierYears::bestCore, 3);
        Checks.answers("the next core is of 3", early.then(Past.year()).then(Past.coredYear()).then(late),
                GlacierYears::bestCore, 1);
        Checks.answers("the next core is of 4", early.then(Past.years(2)).then(Past.coredYear()).then(late),
                GlacierYears::bestCore, 1);
        Past two = Past.coredYear().then(early).then(Past.coredYear()).then(late);
        Checks.answers("between two cores", two, GlacierYears::bestCore, 4);
        Checks.answers("no core behind it", early.then(Past.years(2)), GlacierYears::bestCore, 1);
    }

    private static void bestCoreNone() {
        Sentences.promise(28, BEST_CORE, "-1 if by none it is less");
        Checks.answers("a new one", Past.none(), GlacierYears::bestCore, -1);
        Checks.answers("deeds of this year alone", Past.deeds(12), GlacierYears::bestCore, -1);
        Checks.answers("layers without deeds", Past.years(40), GlacierYears::bestCore, -1);
        Checks.answers("all have a core", Past.deeds(1).then(Past.coredYear()), GlacierYears::bestCore, -1);
        Checks.answers("one deed is enough", Past.deeds(1).then(Past.year()), GlacierYears::bestCore, 1);
        Past compacted = Past.deeds(1).then(Past.year()).then(Past.coredYear()).then(g -> g.compact(2));
        Checks.answers("all compacted", compacted, GlacierYears::bestCore, -1);
    }

    private static void bestCoreReplayed() {
        Sentences.promise(28, BEST_CORE, "that can be replayed");
        Past past = Past.deeds(12).then(Past.year()).then(Past.year()).then(Past.coredYear())
                .then(Past.deeds(1)).then(Past.year());
        Checks.answers("not compacted", past, GlacierYears::bestCore, 1);
        Checks.answers("compacted", past.then(g -> g.compact(3)), GlacierYears::bestCore, 4);
        Past lost = past.then(g -> g.compact(3)).then(Past.coredYears(6)).then(Past.deeds(1)).then(Past.year());
        Checks.answers("the core of the compacted layers is lost", lost, GlacierYears::bestCore, 11);
        Checks.answers("and no year ahead of the next core is replayed", lost, g -> g.canReplay(4), false);
    }

    private static void bestCoreHoweverMany() {
        Sentences.promise(28, BEST_CORE, "however many there are");
        Past six = g -> {
            for (int year = 0; year < 6; year++) {
                g.snow(0, 1);
                g.endYear(true);
            }
            g.snow(0, 1);
            g.endYear(false);
        };
        Checks.answers("with six", six, GlacierYears::bestCore, 7);
        Past five = six.then(g -> g.throwAway(1));
        // The years 1 and 7 are both spared one deed.
        Checks.answers("with five", five, GlacierYears::bestCore, 1);
    }

    private static void bestCoreChangesNothing() {
        Sentences.promise(28, "(nothing is changed)");
        Past[] pasts = {Past.none(), Past.rich(), Past.rich().then(Past.coredYears(3)).then(Past.deeds(2)).then(Past.year()),
            Past.richFortyLayers()};
        for (Past past : pasts) {
            Checks.alike("bestCore", past.then(GlacierYears::bestCore), past);
        }
    }

    private static void meanIce() {
        Sentences.promise(29, "Returns the mean ice of places.");
        Checks.answers("none", Past.none(), GlacierYears::meanIce, 0.0);
        Checks.answers("the least", Past.snow(7, 1), GlacierYears::meanIce, 0.125);
        Checks.answers("not cut", Past.snow(0, 7), GlacierYears::meanIce, 0.875);
        Past full = g -> {
            for (int place = 0; place < 8; place++) {
                Past.full(place).live(g);
                g.endYear(false);
            }
        };
        Checks.answers("the most", full, GlacierYears::meanIce, 999.0);
        Checks.answers("one less", full.then(g -> g.melt(0, 1)), GlacierYears::meanIce, 998.875);
    }

    /** The numbers of the checksum as the document names them, and the sum of them, not yet wrapped. */
    private static BigInteger sum(GlacierYears g) {
        List<Integer> numbers = new ArrayList<>(List.of(g.year(), g.ice(), g.thickest(), g.deeds(), g.firstFalse(),
                g.cores(), g.richestYear(), g.bestCore()));
        for (int place = 0; place < 8; place++) {
            numbers.add(g.iceAt(place));
        }
        for (int layer = 0; layer < g.year(); layer++) {
            numbers.add(g.deedsOf(layer));
            numbers.add(g.sealOf(layer));
            numbers.add(g.isCompacted(layer) ? 1 : 0);
            numbers.add(g.isFalse(layer) ? 1 : 0);
        }
        for (int core = 0; core < g.cores(); core++) {
            numbers.add(g.yearOf(core));
            numbers.add(g.iceOfCore(core));
        }
        for (int year = 0; year <= g.year(); year++) {
            numbers.add(g.canReplay(year) ? 1 : 0);
            numbers.add(g.replayedFrom(year));
        }
        BigInteger d = BigInteger.valueOf(2273);
        for (int number : numbers) {
            d = d.multiply(BigInteger.valueOf(31)).add(BigInteger.valueOf(number));
        }
        return d;
    }

    private static void digestOfAll() {
        Sentences.promise(30, "A number d starts with 2273; for each of the following numbers x, d becomes d * 31 + x,");
        Past[] pasts = {Past.none(), Past.deeds(12), Past.year(), Past.coredYear(), Past.years(40), Past.coredYears(40),
            Past.rich(), Past.richTwelveDeeds(), Past.richFortyLayers(), Past.coredYears(40).then(g -> g.compact(40))};
        for (Past past : pasts) {
            Checks.answers("a past", past, GlacierYears::digest, sum(past.lived()).longValue());
        }
    }

    private static void digestWrapsAround() {
        Sentences.promise(30, "which wraps around as a 64-bit integer");
        BigInteger unwrapped = sum(Past.rich().lived());
        Checks.same("the sum is beyond 64 bits", "" + (unwrapped.bitLength() > 64), "true");
        Checks.answers("the 64 bits that are left", Past.rich(), GlacierYears::digest, unwrapped.longValue());
    }

    private static void digestCountsOneOrZero() {
        Sentences.promise(30, "(whether something is so counts 1 or 0)");
        long start = 2273;
        for (int number : new int[] {1, 0, 0, 0, -1, 1, 0, -1, 0, 0, 0, 0, 0, 0, 0, 0}) {
            start = start * 31 + number;
        }
        long cored = start;
        for (int number : new int[] {0, 17, 0, 0, 1, 0, 1, -1, 1, 1}) {
            cored = cored * 31 + number;
        }
        Checks.answers("not compacted", Past.coredYear(), GlacierYears::digest, cored);
        long compacted = start;
        for (int number : new int[] {0, 17, 1, 0, 1, 0, 1, -1, 1, 1}) {
            compacted = compacted * 31 + number;
        }
        Checks.answers("compacted", Past.coredYear().then(g -> g.compact(1)), GlacierYears::digest, compacted);
    }

    private static void digestReturns() {
        Sentences.promise(30, "Returns d.");
        for (Past past : new Past[] {Past.none(), Past.rich(), Past.richFortyLayers()}) {
            Checks.answers("asked again", past.then(GlacierYears::digest), GlacierYears::digest, past.lived().digest());
            Checks.alike("it changes nothing", past.then(GlacierYears::digest), past);
        }
    }
}
