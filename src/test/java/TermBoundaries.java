/** The sentences ahead of the promises that name a boundary, each with a test of its own. */
final class TermBoundaries {
    private TermBoundaries() {
    }

    static void all() {
        fiveHundredAndTwelfthCall();
        wholeNumbers();
        yearsFromZero();
        eightPlaces();
        iceOfAPlace();
        snowAtTheMost();
        snowTwo();
        meltingAtTheLeast();
        meltingTwo();
        flowTenthPart();
        flowRoom();
        flowFromTheLastPlace();
        flowTwo();
        twelveDeeds();
        layerOfTheYear();
        fortyLayers();
        sealAtTheStart();
        sealOfTheOneBefore();
        sealLeaves();
        sealInOrder();
        sealOfACompactedLayer();
        coreKeeps();
        sixCoresAndASeventh();
        replayFromACore();
        replayFromTheBeginning();
        replayUpToTheYear();
        compactsSmallerYears();
        compactsWithACoreOnly();
        forgedLayerIsFalse();
        forgedFromTheSealWritten();
    }

    private static void fiveHundredAndTwelfthCall() {
        Sentences.begin("What it is", "", "An object is used for at most 512 calls after it has been made;");
        Past calls511 = g -> {
            for (int year = 0; year < 39; year++) {
                for (int deed = 0; deed < 12; deed++) {
                    g.snow(deed % 8, 2);
                }
                g.endYear(year % 6 == 0);
            }
            Past.deeds(4).live(g);
        };
        // The place 0 got two deeds of two ice in each of 39 years, and four of one ice.
        Checks.answers("the 512th a deed", calls511, g -> g.snow(0, 1), 161);
        Checks.answers("the 512th the end of a year", calls511, g -> g.endYear(true), 40);
        Checks.answers("the 512th a question", calls511, g -> g.iceInYear(39, 0), 156);
        Checks.answers("the 512th refused", calls511, g -> g.compact(2), "throws.IllegalStateException");
    }

    private static void wholeNumbers() {
        Sentences.term("All numbers are whole, and / is cut towards 0.");
        int[][] icesAndTenths = {{1, 0}, {9, 0}, {10, 1}, {19, 1}, {20, 2}, {989, 98}, {990, 99}, {999, 99}};
        for (int[] pair : icesAndTenths) {
            Past past = Past.snow(3, pair[0]).then(g -> g.flow(3));
            Checks.answers("a tenth of " + pair[0], past, g -> g.iceAt(4), pair[1]);
            Checks.answers("what is left of " + pair[0], past, g -> g.iceAt(3), pair[0] - pair[1]);
        }
    }

    private static void yearsFromZero() {
        Sentences.term("Years are counted from 0.");
        Checks.answers("the first year", Past.none(), GlacierYears::year, 0);
        Checks.answers("the second year", Past.none(), g -> g.endYear(false), 1);
        Checks.answers("the year 0", Past.year(), g -> g.canReplay(0), true);
        Checks.answers("its layer", Past.deeds(3).then(Past.year()), g -> g.deedsOf(0), 3);
        Checks.refusesArgument("the year -1", Past.year(), g -> g.canReplay(-1));
    }

    private static void eightPlaces() {
        Sentences.term("There are 8 of them, numbered from 0, the highest, on;");
        for (int place : new int[] {0, 7}) {
            Past past = Past.snow(place, 50);
            Checks.answers("snow on " + place, Past.none(), g -> g.snow(place, 50), 50);
            Checks.answers("melt on " + place, past, g -> g.melt(place, 10), 40);
            Checks.answers("flow from " + place, past, g -> g.flow(place), 45);
            Checks.answers("iceAt " + place, past, g -> g.iceAt(place), 50);
            Checks.answers("iceInYear at " + place, past.then(Past.year()), g -> g.iceInYear(1, place), 50);
        }
        for (int place : new int[] {-1, 8}) {
            Checks.refusesIndex("snow on " + place, Past.none(), g -> g.snow(place, 50));
            Checks.refusesIndex("melt on " + place, Past.none(), g -> g.melt(place, 10));
            Checks.refusesIndex("flow from " + place, Past.none(), g -> g.flow(place));
            Checks.refusesIndex("iceAt " + place, Past.none(), g -> g.iceAt(place));
            Checks.refusesIndex("iceInYear at " + place, Past.none(), g -> g.iceInYear(0, place));
        }
        for (int place = 0; place < 7; place++) {
            int p = place;
            Past past = Past.snow(p, 70).then(g -> g.flow(p));
            Checks.answers("from " + p + " down to the next", past, g -> g.iceAt(p + 1), 7);
        }
    }

    private static void iceOfAPlace() {
        Sentences.term("each has ice, 0 to 999 (0, at first).");
        for (int place = 0; place < 8; place++) {
            int p = place;
            Past full = Past.full(p);
            Checks.answers("at first, " + p, Past.none(), g -> g.iceAt(p), 0);
            Checks.answers("one more than none, " + p, Past.snow(p, 1), g -> g.iceAt(p), 1);
            Checks.answers("the most, " + p, full, g -> g.iceAt(p), 999);
            Checks.answers("one more than the most, " + p, full, g -> g.snow(p, 1), 999);
            Checks.answers("one less than the most, " + p, full, g -> g.melt(p, 1), 998);
            Checks.answers("one less than none, " + p, Past.none(), g -> g.melt(p, 1), 0);
        }
    }

    private static void snowAtTheMost() {
        Sentences.term("0, snow: the place one has two more ice, 999 at the most;");
        Checks.answers("997 and 1", Past.snow(2, 997), g -> g.snow(2, 1), 998);
        Checks.answers("998 and 1", Past.snow(2, 998), g -> g.snow(2, 1), 999);
        Checks.answers("999 and 1", Past.full(2), g -> g.snow(2, 1), 999);
        Checks.answers("900 and 99", Past.snow(2, 900), g -> g.snow(2, 99), 999);
        Checks.answers("901 and 99", Past.snow(2, 901), g -> g.snow(2, 99), 999);
        Checks.answers("it goes nowhere else", Past.full(2).then(Past.snow(2, 99)), GlacierYears::ice, 999);
        Past next = Past.snow(2, 990).then(Past.year()).then(Past.snow(2, 1)).then(Past.year());
        int[][] forgedAndDue = {{8, 998}, {9, 999}, {10, 999}, {99, 999}};
        for (int[] pair : forgedAndDue) {
            Past forged = next.then(g -> g.forge(1, 0, pair[0]));
            Checks.answers("990 and " + pair[0] + " replayed", forged, g -> g.iceInYear(2, 2), pair[1]);
        }
        Past yearly = Past.snow(2, 34).then(Past.year());
        Checks.answers("34 and 28 times 34", yearly, g -> g.iceAfter(28), 986);
        Checks.answers("34 and 29 times 34", yearly, g -> g.iceAfter(29), 999);
    }

    private static void snowTwo() {
        Sentences.term("999 at the most; two is 1 to 99.");
        for (int two : new int[] {1, 99}) {
            Checks.answers("a deed of " + two, Past.none(), g -> g.snow(4, two), two);
            Checks.answers("forged to " + two, Past.deeds(1).then(Past.year()).then(g -> g.forge(0, 0, two)),
                    g -> g.iceInYear(1, 0), two);
        }
        for (int two : new int[] {0, 100}) {
            Checks.refusesArgument("a deed of " + two, Past.none(), g -> g.snow(4, two));
            Checks.refusesArgument("forged to " + two, Past.deeds(1).then(Past.year()), g -> g.forge(0, 0, two));
        }
    }

    private static void meltingAtTheLeast() {
        Sentences.term("1, melting: the place one has two less, 0 at the least;");
        Checks.answers("2 less 1", Past.snow(2, 2), g -> g.melt(2, 1), 1);
        Checks.answers("1 less 1", Past.snow(2, 1), g -> g.melt(2, 1), 0);
        Checks.answers("0 less 1", Past.none(), g -> g.melt(2, 1), 0);
        Checks.answers("100 less 99", Past.snow(2, 100), g -> g.melt(2, 99), 1);
        Checks.answers("99 less 99", Past.snow(2, 99), g -> g.melt(2, 99), 0);
        Checks.answers("98 less 99", Past.snow(2, 98), g -> g.melt(2, 99), 0);
        Checks.answers("it comes from nowhere else", Past.snow(3, 5).then(g -> g.melt(2, 99)), GlacierYears::ice, 5);
        Past next = Past.snow(2, 50).then(Past.year()).then(g -> g.melt(2, 1)).then(Past.year());
        int[][] forgedAndDue = {{49, 1}, {50, 0}, {51, 0}, {99, 0}};
        for (int[] pair : forgedAndDue) {
            Past forged = next.then(g -> g.forge(1, 0, pair[0]));
            Checks.answers("50 less " + pair[0] + " replayed", forged, g -> g.iceInYear(2, 2), pair[1]);
        }
        Past yearly = Past.snow(2, 60).then(Past.year()).then(g -> g.melt(2, 2)).then(Past.year());
        Checks.answers("58 less 28 times 2", yearly, g -> g.iceAfter(28), 2);
        Checks.answers("58 less 29 times 2", yearly, g -> g.iceAfter(29), 0);
        Checks.answers("58 less 30 times 2", yearly, g -> g.iceAfter(30), 0);
    }

    private static void meltingTwo() {
        Sentences.term("0 at the least; two is 1 to 99.");
        Past past = Past.snow(4, 99);
        Past layer = past.then(g -> g.melt(4, 50)).then(Past.year());
        for (int two : new int[] {1, 99}) {
            Checks.answers("a deed of " + two, past, g -> g.melt(4, two), 99 - two);
            Checks.answers("forged to " + two, layer.then(g -> g.forge(0, 1, two)), g -> g.iceInYear(1, 4), 99 - two);
        }
        for (int two : new int[] {0, 100}) {
            Checks.refusesArgument("a deed of " + two, past, g -> g.melt(4, two));
            Checks.refusesArgument("forged to " + two, layer, g -> g.forge(0, 1, two));
        }
    }

    private static void flowTenthPart() {
        Sentences.term("2, flow: of the ice of the place one a tenth part, cut, goes to the next place,");
        Checks.answers("of 0", Past.none(), g -> g.flow(5), 0);
        Checks.answers("of 9", Past.snow(5, 9), g -> g.flow(5), 9);
        Checks.answers("of 10", Past.snow(5, 10), g -> g.flow(5), 9);
        Checks.answers("of 19", Past.snow(5, 19), g -> g.flow(5), 18);
        Checks.answers("of 20", Past.snow(5, 20), g -> g.flow(5), 18);
        Checks.answers("of 999", Past.full(5), g -> g.flow(5), 900);
        Past past = Past.snow(5, 19).then(g -> g.flow(5));
        Checks.answers("the next has it", past, g -> g.iceAt(6), 1);
        Checks.answers("the one before has not", past, g -> g.iceAt(4), 0);
        Checks.answers("replayed", past.then(Past.year()), g -> g.iceInYear(1, 5), 18);
        Checks.answers("replayed, the next", past.then(Past.year()), g -> g.iceInYear(1, 6), 1);
    }

    /** A full place 3, from which 99 would go, so much ice on the place 4, and a flow of 3. */
    private static Past fullAheadOf(int ice) {
        return Past.full(3).then(Past.year()).then(Past.snow(4, ice)).then(g -> g.flow(3));
    }

    private static void flowRoom() {
        Sentences.term("but no more than that has room up to 999; what does not go stays.");
        int[][] iceAndGone = {{899, 99}, {900, 99}, {901, 98}, {902, 97}, {997, 2}, {998, 1}, {999, 0}};
        for (int[] pair : iceAndGone) {
            Past past = fullAheadOf(pair[0]);
            int stays = 999 - pair[1];
            int next = pair[0] + pair[1];
            Checks.answers("what stays by " + pair[0], past, g -> g.iceAt(3), stays);
            Checks.answers("the next with " + pair[0], past, g -> g.iceAt(4), next);
            Checks.answers("what stays, replayed", past.then(Past.year()), g -> g.iceInYear(2, 3), stays);
            Checks.answers("the next, replayed", past.then(Past.year()), g -> g.iceInYear(2, 4), next);
        }
        Past before = Past.full(3).then(Past.year()).then(Past.snow(4, 901));
        Checks.answers("flow answers what stays", before, g -> g.flow(3), 901);
        // 90 would go in the year behind, but there is no room any more.
        Past again = fullAheadOf(900).then(Past.year()).then(g -> g.flow(3)).then(Past.year());
        Checks.answers("nothing is lost in years that would be", again, g -> g.iceAfter(30), 1899);
    }

    private static void flowFromTheLastPlace() {
        Sentences.term("From the last place the whole part goes, and is gone.");
        int[][] iceAndLeft = {{0, 0}, {9, 9}, {10, 9}, {500, 450}, {999, 900}};
        for (int[] pair : iceAndLeft) {
            Past past = Past.snow(7, pair[0]);
            Checks.answers("of " + pair[0], past, g -> g.flow(7), pair[1]);
            Past behind = past.then(g -> g.flow(7));
            Checks.answers("all ice behind " + pair[0], behind, GlacierYears::ice, pair[1]);
            Checks.answers("replayed, " + pair[0], behind.then(Past.year()), g -> g.iceInYear(1, 7), pair[1]);
        }
        Past sixth = Past.snow(6, 500).then(g -> g.flow(6));
        Checks.answers("from the one before the last it is not gone", sixth, GlacierYears::ice, 500);
        Checks.answers("but on the last", sixth, g -> g.iceAt(7), 50);
        Past lastIsFull = Past.full(7).then(Past.year()).then(Past.snow(6, 500));
        Checks.answers("nor if the last is full", lastIsFull, g -> g.flow(6), 500);
    }

    private static void flowTwo() {
        Sentences.term("and is gone. two is 0.");
        Past layer = Past.none().then(g -> g.flow(3)).then(Past.year());
        Checks.answers("in the seal", layer, g -> g.sealOf(0), 17 * 31 + 2 + 3 * 5);
        Checks.answers("in the layer", layer, g -> g.forge(0, 0, 0), 0);
        Checks.refusesArgument("forged to 1", layer, g -> g.forge(0, 0, 1));
        Checks.refusesArgument("forged to -1", layer, g -> g.forge(0, 0, -1));
    }

    private static void twelveDeeds() {
        Sentences.term("At most 12 deeds are done in a year.");
        Past eleven = Past.deeds(11);
        Past twelve = Past.deeds(12);
        Checks.answers("the twelfth, snow", eleven, g -> g.snow(1, 7), 7);
        Checks.answers("the twelfth, melting", eleven, g -> g.melt(0, 7), 4);
        Checks.answers("the twelfth, flow", eleven, g -> g.flow(0), 10);
        Checks.refusesState("the thirteenth, snow", twelve, g -> g.snow(1, 7));
        Checks.refusesState("the thirteenth, melting", twelve, g -> g.melt(0, 7));
        Checks.refusesState("the thirteenth, flow", twelve, g -> g.flow(0));
        Past idle = g -> {
            for (int i = 0; i < 6; i++) {
                g.melt(i, 1);
                g.flow(i);
            }
        };
        Checks.refusesState("deeds that change no ice count too", idle, g -> g.snow(1, 7));
        Checks.answers("twelve in the next year", twelve.then(Past.year()).then(eleven), g -> g.snow(0, 1), 24);
        Checks.refusesState("and no more", twelve.then(Past.year()).then(twelve), g -> g.snow(0, 1));
    }

    private static void layerOfTheYear() {
        Sentences.term("its deeds are written as a layer, which has the number of the year; the next year begins.");
        Past past = Past.deeds(12).then(Past.year()).then(Past.year()).then(Past.deeds(1)).then(Past.coredYear());
        Checks.answers("a year of twelve deeds", past, g -> g.deedsOf(0), 12);
        Checks.answers("a year of none", past, g -> g.deedsOf(1), 0);
        Checks.answers("a year of one", past, g -> g.deedsOf(2), 1);
        Checks.answers("the next year", past, GlacierYears::year, 3);
        Checks.answers("it begins without deeds", past, GlacierYears::deeds, 0);
        Checks.refusesIndex("it has no layer yet", past.then(Past.deeds(1)), g -> g.deedsOf(3));
    }

    private static void fortyLayers() {
        Sentences.term("There are at most 40 layers.");
        Checks.answers("the fortieth", Past.years(39), g -> g.endYear(false), 40);
        Checks.answers("the fortieth with a core", Past.years(39), g -> g.endYear(true), 40);
        Checks.refusesState("no more", Past.years(40), g -> g.endYear(false));
        Checks.refusesState("no more with a core", Past.years(40), g -> g.endYear(true));
        Past last = Past.years(39).then(Past.deeds(12)).then(Past.year());
        Checks.answers("the last layer has twelve deeds", last, g -> g.deedsOf(39), 12);
        Checks.refusesIndex("there is none behind it", last, g -> g.deedsOf(40));
        Checks.refusesState("compacted layers count too", Past.coredYears(40).then(g -> g.compact(40)),
                g -> g.endYear(true));
    }

    private static void sealAtTheStart() {
        Sentences.term("it starts with the seal of the one before, 17 for the layer 0;", "the layer 0");
        Checks.answers("without deeds", Past.year(), g -> g.sealOf(0), 17);
        Checks.answers("with a deed", Past.deeds(1).then(Past.year()), g -> g.sealOf(0), 17 * 31 + 7);
        Checks.answers("with the greatest deed", Past.snow(7, 99).then(Past.year()), g -> g.sealOf(0),
                17 * 31 + 7 * 5 + 99 * 7);
    }

    private static void sealOfTheOneBefore() {
        Sentences.term("it starts with the seal of the one before, 17 for the layer 0;", "the layers behind it");
        int first = 17 * 31 + 7;
        int second = (first * 31 + 7) % 10007;
        Past past = Past.deeds(1).then(Past.year());
        Checks.answers("without deeds", past.then(Past.year()), g -> g.sealOf(1), first);
        Checks.answers("with a deed", past.then(past), g -> g.sealOf(1), second);
        Checks.answers("the layer 39 without deeds", past.then(Past.years(39)), g -> g.sealOf(39), first);
        Checks.answers("the layer 39 with a deed", past.then(Past.years(38)).then(past), g -> g.sealOf(39), second);
        Past forged = past.then(g -> g.forge(0, 0, 99));
        Checks.answers("the one before was forged", forged.then(past), g -> g.sealOf(1), second);
        Past compacted = past.then(Past.coredYear()).then(g -> g.compact(2));
        Checks.answers("the ones before are compacted", compacted.then(past), g -> g.sealOf(2), second);
    }

    /** A year of two deeds whose seal is this. */
    private static Past sealed(int seal) {
        for (int i = 0; i < 8 * 99 * 8 * 99; i++) {
            int place = i % 8;
            int many = i / 8 % 99 + 1;
            int nextPlace = i / 792 % 8;
            int nextMany = i / 6336 + 1;
            int first = 17 * 31 + place * 5 + many * 7;
            if (first * 31 + nextPlace * 5 + nextMany * 7 == seal + 20014) {
                return g -> {
                    g.snow(place, many);
                    g.snow(nextPlace, nextMany);
                    g.endYear(false);
                };
            }
        }
        throw new IllegalStateException("no two deeds have the seal " + seal);
    }

    private static void sealLeaves() {
        Sentences.term("leaves divided by 10007;");
        for (int seal : new int[] {0, 1, 10006}) {
            Checks.answers("what leaves " + seal, sealed(seal), g -> g.sealOf(0), seal);
            Checks.answers("it is true", sealed(seal), g -> g.isFalse(0), false);
            int next = (seal * 31 + 7) % 10007;
            Checks.answers("the next behind it", sealed(seal).then(Past.deeds(1)).then(Past.year()),
                    g -> g.sealOf(1), next);
        }
    }

    private static void sealInOrder() {
        Sentences.term("for each deed, in their order, it becomes what itself times 31,");
        int first = 17 * 31 + 2 * 5 + 9 * 7;
        int firstMelts = 17 * 31 + 1 + 3 * 5 + 4 * 7;
        Checks.answers("snow, then melting", g -> {
            g.snow(2, 9);
            g.melt(3, 4);
            g.endYear(false);
        }, g -> g.sealOf(0), (first * 31 + 1 + 3 * 5 + 4 * 7) % 10007);
        Checks.answers("melting, then snow", g -> {
            g.melt(3, 4);
            g.snow(2, 9);
            g.endYear(false);
        }, g -> g.sealOf(0), (firstMelts * 31 + 2 * 5 + 9 * 7) % 10007);
        int twelve = 17;
        for (int i = 0; i < 12; i++) {
            twelve = (twelve * 31 + 7) % 10007;
        }
        Checks.answers("twelve deeds", Past.deeds(12).then(Past.year()), g -> g.sealOf(0), twelve);
    }

    private static void sealOfACompactedLayer() {
        Sentences.term("a layer that was compacted keeps the seal that it had.");
        Past past = Past.deeds(1).then(Past.year()).then(Past.deeds(1)).then(Past.coredYear());
        int first = 17 * 31 + 7;
        int second = (first * 31 + 7) % 10007;
        Past compacted = past.then(g -> g.compact(2));
        Checks.answers("the first", compacted, g -> g.sealOf(0), first);
        Checks.answers("the last", compacted, g -> g.sealOf(1), second);
        Past forged = past.then(g -> g.forge(1, 0, 50)).then(g -> g.compact(2));
        Checks.answers("that was forged", forged, g -> g.sealOf(1), second);
        Checks.answers("it is the start of the next", forged.then(Past.deeds(1)).then(Past.year()),
                g -> g.sealOf(2), (second * 31 + 7) % 10007);
    }

    private static void coreKeeps() {
        Sentences.term("it keeps all ice as it is then, and the year that begins then.");
        Checks.answers("the first year that begins", Past.coredYear(), g -> g.yearOf(0), 1);
        Checks.answers("the last year that begins", Past.years(39).then(Past.coredYear()), g -> g.yearOf(0), 40);
        Checks.answers("without ice", Past.coredYear(), g -> g.iceOfCore(0), 0);
        Past full = g -> {
            for (int place = 0; place < 8; place++) {
                Past.full(place).live(g);
                g.endYear(place == 7);
            }
        };
        Checks.answers("all there can be", full, g -> g.iceOfCore(0), 7992);
        Past twelve = Past.deeds(12).then(Past.coredYear());
        Checks.answers("the twelfth deed too", twelve, g -> g.iceOfCore(0), 12);
        Checks.answers("no deed behind it", twelve.then(Past.deeds(1)), g -> g.iceOfCore(0), 12);
        Checks.answers("not what is forged", twelve.then(g -> g.forge(0, 0, 99)), g -> g.iceOfCore(0), 12);
        Checks.answers("each place", full, g -> g.iceInYear(8, 7), 999);
    }

    private static void sixCoresAndASeventh() {
        Sentences.term("There are at most 6; if there are 6, the one of the smallest year is thrown away for a new one.");
        Checks.answers("the sixth: six", Past.coredYears(6), GlacierYears::cores, 6);
        Checks.answers("the sixth throws none away", Past.coredYears(6), g -> g.yearOf(0), 1);
        Past seven = Past.coredYears(7);
        Checks.answers("the seventh: six", seven, GlacierYears::cores, 6);
        for (int core = 0; core < 6; core++) {
            int c = core;
            Checks.answers("behind the seventh, " + c, seven, g -> g.yearOf(c), c + 2);
        }
        Past end = Past.coredYears(6).then(Past.year());
        Checks.answers("a year without a core throws none away", end, g -> g.yearOf(0), 1);
        Past gap = Past.coredYears(6).then(g -> g.throwAway(3)).then(Past.coredYear());
        Checks.answers("six again, with one thrown away", gap, g -> g.yearOf(0), 1);
        Checks.answers("and a seventh", gap.then(Past.coredYear()), g -> g.yearOf(0), 2);
        Past compacted = Past.coredYears(6).then(g -> g.compact(6)).then(Past.coredYear());
        Checks.answers("the smallest, be its layers compacted", compacted, g -> g.yearOf(0), 2);
        Past thicker = g -> {
            for (int year = 0; year < 8; year++) {
                g.snow(0, 10);
                g.snow(7, 1);
                g.endYear(true);
            }
        };
        for (int core = 0; core < 6; core++) {
            int c = core;
            Checks.answers("the ice that is left, " + c, thicker, g -> g.iceOfCore(c), 11 * (c + 3));
            Checks.answers("its first place, " + c, thicker, g -> g.iceInYear(c + 3, 0), 10 * (c + 3));
            Checks.answers("its last place, " + c, thicker, g -> g.iceInYear(c + 3, 7), c + 3);
        }
        Past most = Past.coredYears(40);
        Checks.answers("the smallest of the last six", most, g -> g.yearOf(0), 35);
        Checks.answers("the greatest of the last six", most, g -> g.yearOf(5), 40);
    }

    /** Years with a snow of one ice each, cores of the years 2 and 5, and the year 7 as that of now. */
    private static Past twoCores() {
        return g -> {
            for (int year = 0; year < 7; year++) {
                g.snow(0, 1);
                g.endYear(year == 1 || year == 4);
            }
        };
    }

    private static void replayFromACore() {
        Sentences.term("from the core with the greatest year that is not greater than this year,");
        Past forged = twoCores().then(g -> {
            g.forge(1, 0, 50);
            g.forge(4, 0, 50);
        });
        Checks.answers("of the year itself", forged, g -> g.replayedFrom(2), 2);
        Checks.answers("of the year itself, its ice", forged, g -> g.iceInYear(2, 0), 2);
        Checks.answers("one year on", forged, g -> g.iceInYear(3, 0), 3);
        Checks.answers("one year ahead of the next core", forged, g -> g.replayedFrom(4), 2);
        Checks.answers("one year ahead of the next core, its ice", forged, g -> g.iceInYear(4, 0), 4);
        Checks.answers("of the next core", forged, g -> g.replayedFrom(5), 5);
        Checks.answers("of the next core, its ice", forged, g -> g.iceInYear(5, 0), 5);
        Checks.answers("the year of now", forged, g -> g.replayedFrom(7), 5);
        Checks.answers("the year of now, its ice", forged, g -> g.iceInYear(7, 0), 7);
    }

    private static void replayFromTheBeginning() {
        Sentences.term("or from the beginning without ice,");
        Checks.answers("the year ahead of the first core", twoCores(), g -> g.replayedFrom(1), -1);
        Checks.answers("the year ahead of the first core, its ice", twoCores(), g -> g.iceInYear(1, 0), 1);
        Checks.answers("the year 0", twoCores(), g -> g.replayedFrom(0), -1);
        Checks.answers("the year 0, its ice", twoCores(), g -> g.iceInYear(0, 0), 0);
        Past bare = twoCores().then(g -> {
            g.throwAway(2);
            g.throwAway(5);
        });
        Checks.answers("without cores", bare, g -> g.replayedFrom(7), -1);
        Checks.answers("without cores, its ice", bare, g -> g.iceInYear(7, 0), 7);
        Checks.answers("behind another replay", bare.then(g -> g.iceInYear(7, 0)), g -> g.iceInYear(1, 0), 1);
    }

    private static void replayUpToTheYear() {
        Sentences.term("the deeds of all layers from that one's year on, up to this year, without it, are done again.");
        Past past = Past.deeds(1).then(Past.coredYear()).then(Past.deeds(2)).then(Past.year())
                .then(Past.deeds(4)).then(Past.year()).then(Past.deeds(8));
        int[] costs = {0, 0, 2, 6};
        int[] ices = {0, 1, 3, 7};
        for (int year = 0; year <= 3; year++) {
            int y = year;
            Checks.answers("deeds for " + y, past, g -> g.replayCost(y), costs[y]);
            Checks.answers("ice of " + y, past, g -> g.iceInYear(y, 0), ices[y]);
        }
    }

    private static void compactsSmallerYears() {
        Sentences.term("all layers of smaller years are compacted: their deeds are forgotten.");
        Past past = g -> {
            for (int year = 0; year < 4; year++) {
                g.snow(year, 9);
                g.endYear(true);
            }
            g.compact(2);
        };
        Checks.answers("the layer 0", past, g -> g.isCompacted(0), true);
        Checks.answers("the year less one", past, g -> g.isCompacted(1), true);
        Checks.answers("the year itself", past, g -> g.isCompacted(2), false);
        Checks.answers("forgotten", past, g -> g.deedsOf(1), 0);
        Checks.answers("not forgotten", past, g -> g.deedsOf(2), 1);
        Checks.refusesIndex("nothing is left to forge", past, g -> g.forge(1, 0, 5));
        Checks.answers("but in the year itself", past, g -> g.forge(2, 0, 5), 9);
        Checks.answers("the ice stays", past, GlacierYears::ice, 36);
        Past least = Past.coredYear().then(g -> g.compact(1));
        Checks.answers("up to 1", least, g -> g.isCompacted(0), true);
        Past most = Past.coredYears(40).then(g -> g.compact(40));
        Checks.answers("up to 40", most, g -> g.isCompacted(39), true);
    }

    private static void compactsWithACoreOnly() {
        Sentences.term("It is refused, if there is no core of this year.");
        Past past = Past.year().then(Past.coredYear()).then(Past.year());
        Checks.answers("of the core's year", past, g -> g.compact(2), 2);
        Checks.refusesState("of the year ahead of it", past, g -> g.compact(1));
        Checks.refusesState("of the year behind it", past, g -> g.compact(3));
        Checks.refusesState("thrown away", past.then(g -> g.throwAway(2)), g -> g.compact(2));
        Checks.refusesState("thrown away for a seventh", Past.coredYears(7), g -> g.compact(1));
        Checks.answers("the smallest that is left", Past.coredYears(7), g -> g.compact(2), 2);
    }

    private static void forgedLayerIsFalse() {
        Sentences.term("Its seal stays as it is written, so the layer is false,");
        Past past = Past.deeds(12).then(Past.year());
        Checks.answers("not forged", past, g -> g.isFalse(0), false);
        for (int deed : new int[] {0, 11}) {
            Past forged = past.then(g -> g.forge(0, deed, 2));
            Checks.answers("by one, deed " + deed, forged, g -> g.isFalse(0), true);
            Checks.answers("its seal, deed " + deed, forged, g -> g.sealOf(0), past.lived().sealOf(0));
            Checks.answers("back, deed " + deed, forged.then(g -> g.forge(0, deed, 1)), g -> g.isFalse(0), false);
            Checks.answers("to what it was, deed " + deed, past.then(g -> g.forge(0, deed, 1)), g -> g.isFalse(0), false);
        }
        Past twoDeeds = Past.snow(0, 50).then(Past.snow(1, 50)).then(Past.year());
        Past outweighed = twoDeeds.then(g -> g.forge(0, 0, 49)).then(g -> g.forge(0, 1, 81));
        Checks.answers("two forged so that the seal is the same", outweighed, g -> g.isFalse(0), false);
    }

    private static void forgedFromTheSealWritten() {
        Sentences.term("if its seal reckoned anew from the one written before it is another one.");
        Past past = g -> {
            for (int year = 0; year < 3; year++) {
                g.snow(0, 9);
                g.endYear(true);
            }
        };
        Past first = past.then(g -> g.forge(0, 0, 10));
        Checks.answers("the layer 0", first, g -> g.isFalse(0), true);
        Checks.answers("not the one behind it", first, g -> g.isFalse(1), false);
        Past middle = past.then(g -> g.forge(1, 0, 10));
        Checks.answers("not the one before it", middle, g -> g.isFalse(0), false);
        Checks.answers("one in the middle", middle, g -> g.isFalse(1), true);
        Checks.answers("not the last", middle, g -> g.isFalse(2), false);
        Past compacted = middle.then(g -> g.compact(2));
        Checks.answers("one behind a forged and compacted one", compacted, g -> g.isFalse(2), false);
        Checks.answers("forged behind a compacted one", compacted.then(g -> g.forge(2, 0, 10)), g -> g.isFalse(2), true);
        Past written = first.then(Past.deeds(1)).then(Past.year());
        Checks.answers("one written behind a forged one", written, g -> g.isFalse(3), false);
    }
}
