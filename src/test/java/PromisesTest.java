/** Each promise by itself: ordinary inputs, the edges that the document names, and wrong inputs. */
public final class PromisesTest {
    private static final int LOWEST = Integer.MIN_VALUE;
    private static final int HIGHEST = Integer.MAX_VALUE;

    public static void main(String[] args) {
        newObject();
        snow();
        snowWrong();
        melt();
        meltWrong();
        flow();
        flowWrong();
        endYear();
        coresAreSixAtMost();
        compact();
        compactWrong();
        forge();
        forgeWrong();
        throwAway();
        year();
        iceAt();
        ice();
        thickest();
        deeds();
        deedsOf();
        sealOf();
        isCompacted();
        isFalse();
        forgedTwiceKeepsItsSeal();
        firstFalse();
        cores();
        yearOf();
        iceOfCore();
        canReplay();
        lostCoreLosesYears();
        replayedFrom();
        replayCost();
        iceInYear();
        richestYear();
        iceAfter();
        bestCore();
        bestCoreCountsYearsBehind();
        meanIce();
        digest();
        wrongCallsChangeNothing();
        Checks.end();
    }

    private static GlacierYears glacier() {
        return new GlacierYears();
    }

    private static void fill(GlacierYears g, int place) {
        for (int i = 0; i < 11; i++) {
            g.snow(place, 99);
        }
    }

    private static void years(GlacierYears g, int many, boolean drawCores) {
        for (int i = 0; i < many; i++) {
            g.endYear(drawCores);
        }
    }

    // Promise 1
    private static void newObject() {
        GlacierYears g = glacier();
        Checks.due("1 year", g::year, 0);
        Checks.due("1 ice", g::ice, 0);
        for (int place = 0; place < 8; place++) {
            int p = place;
            Checks.due("1 iceAt " + p, () -> g.iceAt(p), 0);
        }
        Checks.due("1 deeds", g::deeds, 0);
        Checks.due("1 cores", g::cores, 0);
        Checks.due("1 firstFalse", g::firstFalse, -1);
    }

    // Promise 2
    private static void snow() {
        GlacierYears g = glacier();
        Checks.due("2 snow", () -> g.snow(0, 1), 1);
        Checks.due("2 more snow", () -> g.snow(0, 99), 100);
        Checks.due("2 snow on the last", () -> g.snow(7, 40), 40);
        Checks.due("2 it stays", () -> g.iceAt(0), 100);
        Checks.due("2 the others stay", g::ice, 140);
        GlacierYears full = glacier();
        for (int i = 1; i <= 10; i++) {
            int want = 99 * i;
            Checks.due("2 snow " + i, () -> full.snow(3, 99), want);
        }
        Checks.due("2 up to 999", () -> full.snow(3, 9), 999);
        Checks.due("2 999 at the most", () -> full.snow(3, 1), 999);
        Checks.due("2 it counts as a deed all the same", full::deeds, 12);
        full.endYear(false);
        Checks.due("2 and is written", () -> full.deedsOf(0), 12);
    }

    private static void snowWrong() {
        GlacierYears g = glacier();
        for (int place : new int[] {-1, 8, LOWEST, HIGHEST}) {
            Checks.noPlace("2 place " + place, () -> g.snow(place, 1));
            Checks.noPlace("2 place first " + place, () -> g.snow(place, 0));
        }
        for (int many : new int[] {0, 100, -1, LOWEST, HIGHEST}) {
            Checks.badArgument("2 many " + many, () -> g.snow(0, many));
        }
        for (int i = 0; i < 12; i++) {
            g.snow(i % 8, 5);
        }
        Checks.badState("2 a thirteenth deed", () -> g.snow(0, 1));
        Checks.badArgument("2 many first", () -> g.snow(0, 100));
        Checks.noPlace("2 place first of all", () -> g.snow(8, 100));
        Checks.due("2 nothing changed", g::ice, 60);
        g.endYear(false);
        Checks.due("2 again in the next year", () -> g.snow(0, 1), 11);
        years(g, 39, false);
        Checks.badState("2 with 40 layers", () -> g.snow(0, 1));
        Checks.badArgument("2 many first with 40 layers", () -> g.snow(0, 0));
    }

    // Promise 3
    private static void melt() {
        GlacierYears g = glacier();
        g.snow(2, 99);
        g.snow(2, 51);
        Checks.due("3 melt", () -> g.melt(2, 99), 51);
        Checks.due("3 melt one", () -> g.melt(2, 1), 50);
        Checks.due("3 all of it", () -> g.melt(2, 50), 0);
        Checks.due("3 0 at the least", () -> g.melt(2, 1), 0);
        Checks.due("3 without ice", () -> g.melt(7, 99), 0);
        Checks.due("3 they are deeds", g::deeds, 7);
        Checks.due("3 the ice", g::ice, 0);
    }

    private static void meltWrong() {
        GlacierYears g = glacier();
        for (int place : new int[] {-1, 8, LOWEST, HIGHEST}) {
            Checks.noPlace("3 place " + place, () -> g.melt(place, 1));
            Checks.noPlace("3 place first " + place, () -> g.melt(place, 0));
        }
        for (int many : new int[] {0, 100, -1, LOWEST, HIGHEST}) {
            Checks.badArgument("3 many " + many, () -> g.melt(0, many));
        }
        g.snow(0, 90);
        for (int i = 0; i < 11; i++) {
            g.melt(0, 1);
        }
        Checks.badState("3 a thirteenth deed", () -> g.melt(0, 1));
        Checks.badArgument("3 many first", () -> g.melt(0, 100));
        Checks.noPlace("3 place first of all", () -> g.melt(-1, 0));
        Checks.due("3 nothing changed", () -> g.iceAt(0), 79);
        years(g, 40, false);
        Checks.badState("3 with 40 layers", () -> g.melt(0, 1));
        Checks.badArgument("3 many first with 40 layers", () -> g.melt(0, 0));
    }

    // Promise 4
    private static void flow() {
        GlacierYears g = glacier();
        g.snow(0, 99);
        Checks.due("4 a tenth, cut", () -> g.flow(0), 90);
        Checks.due("4 it came to the next", () -> g.iceAt(1), 9);
        Checks.due("4 less than ten stays", () -> g.flow(1), 9);
        Checks.due("4 nothing came", () -> g.iceAt(2), 0);
        g.snow(7, 50);
        Checks.due("4 from the last", () -> g.flow(7), 45);
        Checks.due("4 it is gone", g::ice, 144);
        Checks.due("4 without ice", () -> g.flow(5), 0);
        Checks.due("4 they are deeds", g::deeds, 6);

        GlacierYears full = glacier();
        fill(full, 4);
        full.endYear(false);
        fill(full, 5);
        Checks.due("4 no room", () -> full.flow(4), 999);
        full.endYear(false);
        full.melt(5, 30);
        Checks.due("4 room for 30", () -> full.flow(4), 969);
        Checks.due("4 it is full again", () -> full.iceAt(5), 999);
        full.melt(5, 96);
        Checks.due("4 room enough", () -> full.flow(4), 873);
        Checks.due("4 up to the brim", () -> full.iceAt(5), 999);
    }

    private static void flowWrong() {
        GlacierYears g = glacier();
        for (int place : new int[] {-1, 8, LOWEST, HIGHEST}) {
            Checks.noPlace("4 place " + place, () -> g.flow(place));
        }
        for (int i = 0; i < 12; i++) {
            g.flow(i % 8);
        }
        Checks.badState("4 a thirteenth deed", () -> g.flow(0));
        Checks.noPlace("4 place first", () -> g.flow(8));
        years(g, 40, false);
        Checks.badState("4 with 40 layers", () -> g.flow(0));
        Checks.noPlace("4 place first with 40 layers", () -> g.flow(-1));
    }

    // Promise 5
    private static void endYear() {
        GlacierYears g = glacier();
        g.snow(1, 20);
        Checks.due("5 the year that begins", () -> g.endYear(false), 1);
        Checks.due("5 no core", g::cores, 0);
        Checks.due("5 the layer", () -> g.deedsOf(0), 1);
        Checks.due("5 deeds begin anew", g::deeds, 0);
        Checks.due("5 the ice stays", () -> g.iceAt(1), 20);
        Checks.due("5 with a core", () -> g.endYear(true), 2);
        Checks.due("5 a core", g::cores, 1);
        Checks.due("5 of the year that begins", () -> g.yearOf(0), 2);
        Checks.due("5 with all ice", () -> g.iceOfCore(0), 20);
        years(g, 37, false);
        Checks.due("5 the fortieth", () -> g.endYear(true), 40);
        Checks.due("5 its core", () -> g.yearOf(1), 40);
        Checks.badState("5 no more", () -> g.endYear(true));
        Checks.badState("5 no more without a core", () -> g.endYear(false));
        Checks.due("5 nothing changed", g::year, 40);
        Checks.due("5 nor the cores", g::cores, 2);
    }

    private static void coresAreSixAtMost() {
        GlacierYears g = glacier();
        for (int i = 0; i < 6; i++) {
            g.snow(0, 10);
            g.endYear(true);
        }
        Checks.due("5 six cores", g::cores, 6);
        Checks.due("5 the smallest", () -> g.yearOf(0), 1);
        g.snow(0, 10);
        g.endYear(true);
        Checks.due("5 still six", g::cores, 6);
        for (int core = 0; core < 6; core++) {
            int c = core;
            Checks.due("5 year of " + c, () -> g.yearOf(c), c + 2);
            Checks.due("5 ice of " + c, () -> g.iceOfCore(c), 10 * (c + 2));
        }
        g.compact(3);
        g.endYear(true);
        g.endYear(true);
        Checks.due("5 one behind compacted layers goes too", () -> g.yearOf(0), 4);
    }

    // Promise 6
    private static void compact() {
        GlacierYears g = glacier();
        for (int i = 0; i < 5; i++) {
            g.snow(i, 10);
            g.endYear(i % 2 == 1);
        }
        Checks.due("6 two", () -> g.compact(2), 2);
        Checks.due("6 no more of them", () -> g.compact(2), 0);
        Checks.due("6 layer 1", () -> g.isCompacted(1), true);
        Checks.due("6 layer 2", () -> g.isCompacted(2), false);
        Checks.due("6 the other two", () -> g.compact(4), 2);
        Checks.due("6 a smaller year again", () -> g.compact(2), 0);
        Checks.due("6 and they stay", () -> g.isCompacted(3), true);
        Checks.due("6 layer 4", () -> g.isCompacted(4), false);
        Checks.due("6 the ice stays", g::ice, 50);
        g.endYear(true);
        Checks.due("6 up to now", () -> g.compact(6), 2);
        Checks.due("6 all of them", () -> g.isCompacted(5), true);
    }

    private static void compactWrong() {
        GlacierYears g = glacier();
        Checks.badArgument("6 without years", () -> g.compact(0));
        Checks.badArgument("6 not yet", () -> g.compact(1));
        g.endYear(false);
        g.endYear(true);
        g.endYear(false);
        for (int year : new int[] {0, 4, -1, LOWEST, HIGHEST}) {
            Checks.badArgument("6 year " + year, () -> g.compact(year));
        }
        Checks.badState("6 no core of 1", () -> g.compact(1));
        Checks.badState("6 no core of 3", () -> g.compact(3));
        Checks.due("6 nothing changed", () -> g.isCompacted(0), false);
        Checks.due("6 but of 2", () -> g.compact(2), 2);
    }

    // Promise 7
    private static void forge() {
        GlacierYears g = glacier();
        g.snow(0, 30);
        g.melt(0, 10);
        g.flow(0);
        g.endYear(false);
        int seal = g.sealOf(0);
        Checks.due("7 its two before", () -> g.forge(0, 0, 99), 30);
        Checks.due("7 and from then on", () -> g.forge(0, 0, 1), 99);
        Checks.due("7 melting", () -> g.forge(0, 1, 50), 10);
        Checks.due("7 a flow", () -> g.forge(0, 2, 0), 0);
        Checks.due("7 the seal stays", () -> g.sealOf(0), seal);
        Checks.due("7 the ice of now stays", () -> g.iceAt(0), 18);
        g.forge(0, 0, 70);
        Checks.due("7 it is replayed so", () -> g.iceInYear(1, 0), 18);
        g.forge(0, 1, 1);
        Checks.due("7 and so", () -> g.iceInYear(1, 0), 63);
    }

    private static void forgeWrong() {
        GlacierYears g = glacier();
        g.snow(0, 30);
        g.flow(0);
        Checks.noPlace("7 the year of now is no layer", () -> g.forge(0, 0, 1));
        g.endYear(true);
        for (int layer : new int[] {-1, 1, 40, LOWEST, HIGHEST}) {
            Checks.noPlace("7 layer " + layer, () -> g.forge(layer, 0, 1));
        }
        for (int deed : new int[] {-1, 2, 12, LOWEST, HIGHEST}) {
            Checks.noPlace("7 deed " + deed, () -> g.forge(0, deed, 1));
            Checks.noPlace("7 deed first " + deed, () -> g.forge(0, deed, 100));
        }
        for (int two : new int[] {0, 100, -1, LOWEST, HIGHEST}) {
            Checks.badArgument("7 two " + two, () -> g.forge(0, 0, two));
        }
        for (int two : new int[] {1, 99, 100, -1, LOWEST, HIGHEST}) {
            Checks.badArgument("7 two of a flow " + two, () -> g.forge(0, 1, two));
        }
        Checks.due("7 nothing changed", () -> g.forge(0, 0, 30), 30);
        g.compact(1);
        Checks.noPlace("7 a compacted layer has no deed", () -> g.forge(0, 0, 1));
    }

    // Promise 8
    private static void throwAway() {
        GlacierYears g = glacier();
        Checks.badArgument("8 no core at all", () -> g.throwAway(0));
        for (int i = 0; i < 5; i++) {
            g.snow(i, 10);
            g.endYear(i != 2);
        }
        for (int year : new int[] {0, 3, 6, -1, LOWEST, HIGHEST}) {
            Checks.badArgument("8 year " + year, () -> g.throwAway(year));
        }
        Checks.due("8 one in the middle", () -> g.throwAway(2), 3);
        Checks.due("8 the first is left", () -> g.yearOf(0), 1);
        Checks.due("8 the next", () -> g.yearOf(1), 4);
        Checks.due("8 with its ice", () -> g.iceOfCore(1), 40);
        Checks.due("8 replayed by what is left", () -> g.iceInYear(3, 2), 10);
        Checks.badArgument("8 not twice", () -> g.throwAway(2));
        g.compact(4);
        Checks.badState("8 the layer 0 is compacted", () -> g.throwAway(1));
        Checks.badState("8 the layer 3 is compacted", () -> g.throwAway(4));
        Checks.badArgument("8 no core of this year first", () -> g.throwAway(2));
        Checks.due("8 the layer 4 is not", () -> g.throwAway(5), 2);
        Checks.due("8 nothing else is gone", g::cores, 2);
    }

    // Promise 9
    private static void year() {
        GlacierYears g = glacier();
        for (int i = 0; i <= 40; i++) {
            Checks.due("9 year", g::year, i);
            if (i < 40) {
                g.endYear(i % 3 == 0);
            }
        }
        Checks.outcome(() -> g.endYear(false));
        Checks.due("9 still 40", g::year, 40);
    }

    // Promise 10
    private static void iceAt() {
        GlacierYears g = glacier();
        for (int place = 0; place < 8; place++) {
            g.snow(place, place + 1);
        }
        for (int place = 0; place < 8; place++) {
            int p = place;
            Checks.due("10 iceAt " + p, () -> g.iceAt(p), p + 1);
        }
        for (int place : new int[] {-1, 8, LOWEST, HIGHEST}) {
            Checks.noPlace("10 place " + place, () -> g.iceAt(place));
        }
    }

    // Promise 11
    private static void ice() {
        GlacierYears g = glacier();
        int sum = 0;
        for (int place = 0; place < 8; place++) {
            g.snow(place, 90 + place);
            sum += 90 + place;
        }
        Checks.due("11 ice", g::ice, sum);
        g.flow(0);
        Checks.due("11 flowing keeps it", g::ice, sum);
        g.flow(7);
        Checks.due("11 but from the last", g::ice, sum - 9);
        g.melt(3, 50);
        Checks.due("11 melting does not", g::ice, sum - 59);
    }

    // Promise 12
    private static void thickest() {
        GlacierYears g = glacier();
        Checks.due("12 without ice", g::thickest, 0);
        g.snow(5, 10);
        Checks.due("12 one", g::thickest, 5);
        g.snow(7, 10);
        Checks.due("12 of several the smallest", g::thickest, 5);
        g.snow(2, 10);
        Checks.due("12 of three", g::thickest, 2);
        g.snow(7, 1);
        Checks.due("12 the last", g::thickest, 7);
        g.snow(0, 12);
        Checks.due("12 the first", g::thickest, 0);
        g.snow(1, 13);
        Checks.due("12 the second", g::thickest, 1);
    }

    // Promise 13
    private static void deeds() {
        GlacierYears g = glacier();
        for (int i = 0; i < 12; i++) {
            Checks.due("13 deeds", g::deeds, i);
            g.snow(0, 1);
        }
        Checks.due("13 twelve", g::deeds, 12);
        Checks.outcome(() -> g.snow(0, 1));
        Checks.due("13 no more", g::deeds, 12);
        g.endYear(false);
        Checks.due("13 anew", g::deeds, 0);
        g.flow(0);
        g.melt(0, 1);
        Checks.due("13 each kind counts", g::deeds, 2);
        years(g, 39, false);
        Checks.due("13 with 40 layers", g::deeds, 0);
    }

    // Promise 14
    private static void deedsOf() {
        GlacierYears g = glacier();
        Checks.noPlace("14 no layer", () -> g.deedsOf(0));
        g.snow(0, 1);
        g.flow(0);
        g.endYear(false);
        g.endYear(true);
        g.melt(0, 1);
        Checks.due("14 two", () -> g.deedsOf(0), 2);
        Checks.due("14 none", () -> g.deedsOf(1), 0);
        for (int layer : new int[] {-1, 2, 40, LOWEST, HIGHEST}) {
            Checks.noPlace("14 layer " + layer, () -> g.deedsOf(layer));
        }
        g.endYear(false);
        Checks.due("14 one", () -> g.deedsOf(2), 1);
        g.compact(2);
        Checks.due("14 compacted", () -> g.deedsOf(0), 0);
        Checks.due("14 not compacted", () -> g.deedsOf(2), 1);
        years(g, 37, false);
        Checks.due("14 the last layer", () -> g.deedsOf(39), 0);
        Checks.noPlace("14 layer 40", () -> g.deedsOf(40));
    }

    // Promise 15
    private static void sealOf() {
        GlacierYears g = glacier();
        Checks.noPlace("15 no layer", () -> g.sealOf(0));
        g.endYear(true);
        Checks.due("15 without deeds", () -> g.sealOf(0), 17);
        g.snow(3, 9);
        g.endYear(false);
        int one = (17 * 31 + 0 + 3 * 5 + 9 * 7) % 10007;
        Checks.due("15 snow", () -> g.sealOf(1), one);
        g.melt(7, 99);
        g.flow(2);
        g.snow(6, 98);
        g.endYear(true);
        int two = (one * 31 + 1 + 7 * 5 + 99 * 7) % 10007;
        two = (two * 31 + 2 + 2 * 5) % 10007;
        two = (two * 31 + 6 * 5 + 98 * 7) % 10007;
        int due = two;
        Checks.due("15 three deeds", () -> g.sealOf(2), due);
        for (int layer : new int[] {-1, 3, 40, LOWEST, HIGHEST}) {
            Checks.noPlace("15 layer " + layer, () -> g.sealOf(layer));
        }
        g.forge(1, 0, 50);
        Checks.due("15 forged, it stays", () -> g.sealOf(1), one);
        g.compact(3);
        Checks.due("15 compacted, it stays", () -> g.sealOf(2), due);
        g.endYear(false);
        Checks.due("15 and is gone on from", () -> g.sealOf(3), due);
    }

    // Promise 16
    private static void isCompacted() {
        GlacierYears g = glacier();
        Checks.noPlace("16 no layer", () -> g.isCompacted(0));
        years(g, 3, true);
        Checks.due("16 not yet", () -> g.isCompacted(0), false);
        g.compact(2);
        Checks.due("16 layer 0", () -> g.isCompacted(0), true);
        Checks.due("16 layer 1", () -> g.isCompacted(1), true);
        Checks.due("16 layer 2", () -> g.isCompacted(2), false);
        for (int layer : new int[] {-1, 3, 40, LOWEST, HIGHEST}) {
            Checks.noPlace("16 layer " + layer, () -> g.isCompacted(layer));
        }
    }

    // Promise 17
    private static void isFalse() {
        GlacierYears g = glacier();
        Checks.noPlace("17 no layer", () -> g.isFalse(0));
        for (int i = 0; i < 3; i++) {
            g.snow(i, 20);
            g.flow(i);
            g.endYear(true);
        }
        Checks.due("17 true", () -> g.isFalse(1), false);
        g.forge(1, 0, 21);
        Checks.due("17 false", () -> g.isFalse(1), true);
        Checks.due("17 not the one before", () -> g.isFalse(0), false);
        Checks.due("17 nor the one behind", () -> g.isFalse(2), false);
        g.forge(1, 0, 20);
        Checks.due("17 as it was", () -> g.isFalse(1), false);
        g.forge(2, 1, 0);
        Checks.due("17 a flow forged to what it is", () -> g.isFalse(2), false);
        g.forge(0, 0, 99);
        g.forge(2, 0, 99);
        Checks.due("17 layer 0", () -> g.isFalse(0), true);
        g.compact(1);
        Checks.due("17 a compacted one is not", () -> g.isFalse(0), false);
        Checks.due("17 the one behind it is not", () -> g.isFalse(1), false);
        Checks.due("17 another one still is", () -> g.isFalse(2), true);
        for (int layer : new int[] {-1, 3, 40, LOWEST, HIGHEST}) {
            Checks.noPlace("17 layer " + layer, () -> g.isFalse(layer));
        }
    }

    // A two of one less and, behind it, one of 31 more leave the seal as it is.
    private static void forgedTwiceKeepsItsSeal() {
        GlacierYears g = glacier();
        g.snow(0, 50);
        g.snow(1, 50);
        g.endYear(false);
        g.forge(0, 0, 49);
        Checks.due("17 one forged", () -> g.isFalse(0), true);
        g.forge(0, 1, 81);
        Checks.due("17 two forged, with the seal as it is", () -> g.isFalse(0), false);
        Checks.due("17 though its ice is another", () -> g.iceInYear(1, 1), 81);
    }

    // Promise 18
    private static void firstFalse() {
        GlacierYears g = glacier();
        Checks.due("18 no layer", g::firstFalse, -1);
        for (int i = 0; i < 4; i++) {
            g.snow(i, 20);
            g.endYear(true);
        }
        Checks.due("18 none", g::firstFalse, -1);
        g.forge(3, 0, 21);
        Checks.due("18 the last", g::firstFalse, 3);
        g.forge(1, 0, 21);
        Checks.due("18 the first of two", g::firstFalse, 1);
        g.forge(0, 0, 21);
        Checks.due("18 layer 0", g::firstFalse, 0);
        g.compact(1);
        Checks.due("18 not a compacted one", g::firstFalse, 1);
        g.compact(4);
        Checks.due("18 none again", g::firstFalse, -1);
    }

    // Promise 19
    private static void cores() {
        GlacierYears g = glacier();
        Checks.due("19 none", g::cores, 0);
        g.endYear(false);
        Checks.due("19 still none", g::cores, 0);
        for (int i = 1; i <= 8; i++) {
            g.endYear(true);
            int want = Math.min(i, 6);
            Checks.due("19 cores", g::cores, want);
        }
        g.throwAway(9);
        Checks.due("19 five", g::cores, 5);
        g.endYear(true);
        Checks.due("19 six again", g::cores, 6);
        Checks.due("19 without a loss", () -> g.yearOf(0), 4);
    }

    // Promise 20
    private static void yearOf() {
        GlacierYears g = glacier();
        Checks.noPlace("20 none", () -> g.yearOf(0));
        years(g, 2, false);
        g.endYear(true);
        years(g, 3, false);
        g.endYear(true);
        Checks.due("20 the smallest", () -> g.yearOf(0), 3);
        Checks.due("20 the next", () -> g.yearOf(1), 7);
        for (int core : new int[] {-1, 2, 6, LOWEST, HIGHEST}) {
            Checks.noPlace("20 core " + core, () -> g.yearOf(core));
        }
        g.throwAway(3);
        Checks.due("20 the one that is left", () -> g.yearOf(0), 7);
        Checks.noPlace("20 no second one", () -> g.yearOf(1));
    }

    // Promise 21
    private static void iceOfCore() {
        GlacierYears g = glacier();
        Checks.noPlace("21 none", () -> g.iceOfCore(0));
        g.endYear(true);
        g.snow(0, 99);
        g.snow(7, 98);
        g.endYear(true);
        g.snow(1, 50);
        g.forge(1, 0, 1);
        Checks.due("21 without ice", () -> g.iceOfCore(0), 0);
        Checks.due("21 as it was then", () -> g.iceOfCore(1), 197);
        for (int core : new int[] {-1, 2, 6, LOWEST, HIGHEST}) {
            Checks.noPlace("21 core " + core, () -> g.iceOfCore(core));
        }
    }

    // Promise 22
    private static void canReplay() {
        GlacierYears g = glacier();
        Checks.due("22 year 0", () -> g.canReplay(0), true);
        Checks.badArgument("22 not yet", () -> g.canReplay(1));
        for (int i = 0; i < 6; i++) {
            g.endYear(i == 2 || i == 4);
        }
        for (int year = 0; year <= 6; year++) {
            int y = year;
            Checks.due("22 before " + y, () -> g.canReplay(y), true);
        }
        g.compact(3);
        String[] due = {"true", "false", "false", "true", "true", "true", "true"};
        for (int year = 0; year <= 6; year++) {
            int y = year;
            Checks.due("22 compacted up to 3, " + y, () -> g.canReplay(y), due[y]);
        }
        g.compact(5);
        Checks.due("22 compacted up to 5, 3", () -> g.canReplay(3), true);
        Checks.due("22 compacted up to 5, 4", () -> g.canReplay(4), false);
        Checks.due("22 compacted up to 5, 6", () -> g.canReplay(6), true);
        for (int year : new int[] {-1, 7, LOWEST, HIGHEST}) {
            Checks.badArgument("22 year " + year, () -> g.canReplay(year));
        }
    }

    private static void lostCoreLosesYears() {
        GlacierYears g = glacier();
        g.snow(0, 50);
        g.endYear(false);
        g.endYear(true);
        g.snow(0, 40);
        g.endYear(false);
        g.compact(2);
        years(g, 5, true);
        Checks.due("22 with its core", () -> g.canReplay(3), true);
        Checks.due("25 with its core", () -> g.iceInYear(3, 0), 90);
        years(g, 1, true);
        Checks.due("22 without its core", () -> g.canReplay(3), false);
        Checks.due("22 of the core itself", () -> g.canReplay(2), false);
        Checks.due("23 from the beginning", () -> g.replayedFrom(3), -1);
        Checks.badState("24 it cannot be replayed", () -> g.replayCost(3));
        Checks.badState("25 it cannot be replayed", () -> g.iceInYear(3, 0));
        Checks.due("26 the first that can", g::richestYear, 4);
    }

    // Promise 23
    private static void replayedFrom() {
        GlacierYears g = glacier();
        Checks.due("23 year 0", () -> g.replayedFrom(0), -1);
        for (int i = 0; i < 6; i++) {
            g.endYear(i == 1 || i == 3);
        }
        int[] due = {-1, -1, 2, 2, 4, 4, 4};
        for (int year = 0; year <= 6; year++) {
            int y = year;
            Checks.due("23 year " + y, () -> g.replayedFrom(y), due[y]);
        }
        g.compact(2);
        Checks.due("23 one that cannot be replayed", () -> g.replayedFrom(1), -1);
        for (int year : new int[] {-1, 7, LOWEST, HIGHEST}) {
            Checks.badArgument("23 year " + year, () -> g.replayedFrom(year));
        }
    }

    // Promise 24
    private static void replayCost() {
        GlacierYears g = glacier();
        Checks.due("24 year 0", () -> g.replayCost(0), 0);
        for (int i = 0; i < 5; i++) {
            for (int deed = 0; deed <= i; deed++) {
                g.snow(deed, 10);
            }
            g.endYear(i == 2);
        }
        g.snow(0, 1);
        int[] due = {0, 1, 3, 0, 4, 9};
        for (int year = 0; year <= 5; year++) {
            int y = year;
            Checks.due("24 year " + y, () -> g.replayCost(y), due[y]);
        }
        for (int year : new int[] {-1, 6, LOWEST, HIGHEST}) {
            Checks.badArgument("24 year " + year, () -> g.replayCost(year));
        }
        g.compact(3);
        Checks.badState("24 compacted", () -> g.replayCost(1));
        Checks.due("24 not compacted", () -> g.replayCost(5), 9);
        Checks.due("24 year 0 always", () -> g.replayCost(0), 0);
    }

    // Promise 25
    private static void iceInYear() {
        GlacierYears g = glacier();
        Checks.due("25 year 0", () -> g.iceInYear(0, 3), 0);
        g.snow(0, 90);
        g.flow(0);
        g.endYear(false);
        g.melt(0, 50);
        g.endYear(true);
        g.snow(7, 60);
        g.flow(7);
        g.endYear(false);
        g.snow(0, 99);
        Checks.due("25 from the beginning", () -> g.iceInYear(1, 0), 81);
        Checks.due("25 the next place", () -> g.iceInYear(1, 1), 9);
        Checks.due("25 of a core", () -> g.iceInYear(2, 0), 31);
        Checks.due("25 from a core", () -> g.iceInYear(3, 7), 54);
        Checks.due("25 of now, at its beginning", () -> g.iceInYear(3, 0), 31);
        g.forge(0, 0, 10);
        Checks.due("25 forged", () -> g.iceInYear(1, 0), 9);
        Checks.due("25 the core keeps it", () -> g.iceInYear(3, 0), 31);
        g.throwAway(2);
        Checks.due("25 without the core", () -> g.iceInYear(3, 0), 0);
        for (int place : new int[] {-1, 8, LOWEST, HIGHEST}) {
            Checks.noPlace("25 place " + place, () -> g.iceInYear(0, place));
            Checks.noPlace("25 place first " + place, () -> g.iceInYear(-1, place));
        }
        for (int year : new int[] {-1, 4, LOWEST, HIGHEST}) {
            Checks.badArgument("25 year " + year, () -> g.iceInYear(year, 0));
        }
        g.endYear(true);
        g.compact(4);
        Checks.badState("25 compacted", () -> g.iceInYear(3, 0));
        Checks.noPlace("25 place first, compacted", () -> g.iceInYear(3, 8));
        Checks.due("25 the ice of now stays", () -> g.iceAt(0), 130);
    }

    // Promise 26
    private static void richestYear() {
        GlacierYears g = glacier();
        Checks.due("26 year 0", g::richestYear, 0);
        g.endYear(false);
        Checks.due("26 of several the smallest", g::richestYear, 0);
        g.snow(0, 60);
        Checks.due("26 not the ice of now", g::richestYear, 0);
        g.endYear(true);
        Checks.due("26 year 2", g::richestYear, 2);
        g.melt(0, 20);
        g.endYear(false);
        g.snow(4, 20);
        g.endYear(true);
        Checks.due("26 still the smallest", g::richestYear, 2);
        g.forge(2, 0, 1);
        Checks.due("26 forged, in between", g::richestYear, 2);
        g.forge(3, 0, 99);
        Checks.due("26 a core is not forged", g::richestYear, 2);
        g.throwAway(4);
        Checks.due("26 but without it", g::richestYear, 4);
        g.endYear(true);
        g.compact(5);
        Checks.due("26 that can be replayed", g::richestYear, 2);
        GlacierYears little = glacier();
        little.snow(7, 1);
        little.endYear(false);
        Checks.due("26 a single ice is more than none", little::richestYear, 1);
    }

    // Promise 27
    private static void iceAfter() {
        GlacierYears g = glacier();
        g.snow(0, 50);
        Checks.due("27 without layers", () -> g.iceAfter(7), 50);
        g.endYear(false);
        g.melt(0, 99);
        Checks.due("27 one year", () -> g.iceAfter(1), 50);
        Checks.due("27 thirty years", () -> g.iceAfter(30), 999);
        g.snow(7, 30);
        g.flow(7);
        g.endYear(false);
        Checks.due("27 the latest layer, in its order", () -> g.iceAfter(1), 52);
        Checks.due("27 and again", () -> g.iceAfter(2), 74);
        Checks.due("27 nothing is changed", g::ice, 27);
        g.forge(1, 1, 10);
        Checks.due("27 as it is forged", () -> g.iceAfter(1), 34);
        g.endYear(false);
        Checks.due("27 an empty layer", () -> g.iceAfter(30), 27);
        g.snow(0, 9);
        g.endYear(true);
        g.compact(4);
        Checks.due("27 a compacted one", () -> g.iceAfter(2), 36);
        for (int many : new int[] {0, 31, -1, LOWEST, HIGHEST}) {
            Checks.badArgument("27 years " + many, () -> g.iceAfter(many));
        }
    }

    // Promise 28
    private static void bestCore() {
        GlacierYears g = glacier();
        Checks.due("28 without layers", g::bestCore, -1);
        years(g, 3, false);
        Checks.due("28 without deeds", g::bestCore, -1);
        g.snow(0, 5);
        Checks.due("28 the year of now is no layer", g::bestCore, -1);
        g.endYear(false);
        Checks.due("28 of now", g::bestCore, 4);
        g.snow(0, 5);
        g.endYear(false);
        // Cores of 4 and of 5 both leave one deed to be done again.
        Checks.due("28 of several the smallest", g::bestCore, 4);
        g.endYear(true);
        Checks.due("28 years behind a core count no more", g::bestCore, 4);
        g.compact(6);
        Checks.due("28 only years that can be replayed", g::bestCore, -1);
        for (int i = 0; i < 6; i++) {
            g.snow(0, 1);
            g.endYear(true);
        }
        Checks.due("28 all have one", g::bestCore, -1);
        g.throwAway(10);
        Checks.due("28 one has none", g::bestCore, 10);
        g.endYear(true);
        Checks.due("28 however many there are", g::bestCore, 10);
        Checks.due("28 nothing is changed", g::cores, 6);
    }

    private static void bestCoreCountsYearsBehind() {
        GlacierYears g = glacier();
        int[] deeds = {1, 0, 9, 0, 0, 1, 12};
        for (int many : deeds) {
            for (int i = 0; i < many; i++) {
                g.snow(i % 8, 3);
            }
            g.endYear(false);
        }
        // A core of 3 spares ten deeds in each of five years, one of 6 eleven in two, one of 7 23.
        Checks.due("28 most in all", g::bestCore, 3);
    }

    // Promise 29
    private static void meanIce() {
        GlacierYears g = glacier();
        Checks.due("29 without ice", g::meanIce, 0.0);
        g.snow(0, 1);
        Checks.due("29 an eighth", g::meanIce, 0.125);
        g.snow(7, 99);
        Checks.due("29 mean", g::meanIce, 12.5);
        g.snow(3, 3);
        Checks.due("29 not cut", g::meanIce, 12.875);
    }

    // Promise 30
    private static void digest() {
        GlacierYears g = glacier();
        long d = 2273;
        for (int x : new int[] {0, 0, 0, 0, -1, 0, 0, -1, 0, 0, 0, 0, 0, 0, 0, 0, 1, -1}) {
            d = d * 31 + x;
        }
        Checks.due("30 a new one", g::digest, d);
        g.snow(2, 90);
        g.flow(2);
        g.endYear(false);
        g.snow(1, 7);
        g.endYear(true);
        g.melt(2, 1);
        g.forge(0, 0, 91);
        int seal = ((17 * 31 + 10 + 630) * 31 + 2 + 10) % 10007;
        int next = (seal * 31 + 5 + 49) % 10007;
        long e = 2273;
        int[] numbers = {2, 96, 2, 1, 0, 1, 2, 1, 0, 7, 80, 9, 0, 0, 0, 0,
            2, seal, 0, 1, 1, next, 0, 0, 2, 97, 1, -1, 1, -1, 1, 2};
        for (int x : numbers) {
            e = e * 31 + x;
        }
        Checks.due("30 two layers and a core", g::digest, e);
        g.compact(2);
        long f = 2273;
        int[] compacted = {2, 96, 2, 1, -1, 1, 2, -1, 0, 7, 80, 9, 0, 0, 0, 0,
            0, seal, 1, 0, 0, next, 1, 0, 2, 97, 1, -1, 0, -1, 1, 2};
        for (int x : compacted) {
            f = f * 31 + x;
        }
        Checks.due("30 compacted", g::digest, f);
        Checks.due("30 nothing is changed", g::digest, f);
    }

    private static void wrongCallsChangeNothing() {
        GlacierYears g = glacier();
        for (int i = 0; i < 3; i++) {
            g.snow(i, 30);
            g.flow(i);
            g.endYear(i == 1);
        }
        for (int i = 0; i < 12; i++) {
            g.snow(i % 8, 30);
        }
        long before = g.digest();
        Checks.badState("snow", () -> g.snow(0, 1));
        Checks.badState("melt", () -> g.melt(0, 1));
        Checks.badState("flow", () -> g.flow(0));
        Checks.badState("compact", () -> g.compact(3));
        Checks.badArgument("throwAway", () -> g.throwAway(3));
        Checks.badArgument("forge", () -> g.forge(0, 0, 0));
        Checks.badArgument("forge a flow", () -> g.forge(0, 1, 7));
        Checks.badArgument("iceAfter", () -> g.iceAfter(31));
        Checks.due("wrong calls change nothing", g::digest, before);
    }
}
