/**
 * What a glacier has lived through. It can be lived again by another one, so that each look is taken
 * at a glacier of its own: none gets more than the 512 calls that the document speaks of.
 */
interface Past {
    void live(GlacierYears g);

    default Past then(Past next) {
        return g -> {
            live(g);
            next.live(g);
        };
    }

    default GlacierYears lived() {
        GlacierYears g = new GlacierYears();
        live(g);
        return g;
    }

    /** No call at all. */
    static Past none() {
        return g -> { };
    }

    /** So many years without deeds and without cores. */
    static Past years(int many) {
        return g -> {
            for (int i = 0; i < many; i++) {
                g.endYear(false);
            }
        };
    }

    /** So many years without deeds, each with a core at its end. */
    static Past coredYears(int many) {
        return g -> {
            for (int i = 0; i < many; i++) {
                g.endYear(true);
            }
        };
    }

    /** So much ice more on a place, by as few deeds as it takes. */
    static Past snow(int place, int ice) {
        return g -> {
            for (int left = ice; left > 0; left -= 99) {
                g.snow(place, Math.min(left, 99));
            }
        };
    }

    /** 999 ice on a place, by eleven deeds. */
    static Past full(int place) {
        return snow(place, 999);
    }

    /** So many deeds of one ice each, on the place 0. */
    static Past deeds(int many) {
        return g -> {
            for (int i = 0; i < many; i++) {
                g.snow(0, 1);
            }
        };
    }

    static Past year() {
        return g -> g.endYear(false);
    }

    static Past coredYear() {
        return g -> g.endYear(true);
    }

    /**
     * Something of all that there is: deeds of each kind, layers, cores of the years 2, 4 and 5, two
     * compacted layers, a forged one, and three deeds in the year of now, which is 6.
     */
    static Past rich() {
        return g -> {
            for (int year = 0; year < 6; year++) {
                g.snow(year, 90 + year);
                g.snow(7 - year, 40);
                g.flow(year);
                g.melt(7 - year, 5);
                g.endYear(year == 1 || year == 3 || year == 4);
            }
            g.compact(2);
            g.forge(3, 0, 17);
            g.snow(0, 50);
            g.melt(1, 3);
            g.flow(0);
        };
    }

    /** The rich past, and its year has twelve deeds. */
    static Past richTwelveDeeds() {
        return rich().then(deeds(9));
    }

    /** The rich past, and there are 40 layers, with six cores: of 35 to 40. */
    static Past richFortyLayers() {
        return rich().then(years(28)).then(coredYears(6));
    }
}
