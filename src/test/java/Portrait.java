import java.util.ArrayList;
import java.util.List;

/** All that a glacier answers, and what it answers to the next calls: two that differ in nothing have the same. */
final class Portrait {
    private final Past past;
    private final List<String> lines = new ArrayList<>();

    private Portrait(Past past) {
        this.past = past;
    }

    static List<String> of(Past past) {
        Portrait portrait = new Portrait(past);
        portrait.whatThereIs();
        portrait.layers();
        portrait.years();
        for (int place = 0; place < 8; place++) {
            portrait.yearsAt(place);
        }
        portrait.next();
        return portrait.lines;
    }

    private void add(String what, Checks.Call call) {
        lines.add(what + " " + Checks.outcome(call));
    }

    private void whatThereIs() {
        GlacierYears g = past.lived();
        add("year", g::year);
        add("ice", g::ice);
        add("thickest", g::thickest);
        add("deeds", g::deeds);
        add("firstFalse", g::firstFalse);
        add("cores", g::cores);
        for (int core = 0; core < g.cores(); core++) {
            int c = core;
            add("yearOf " + c, () -> g.yearOf(c));
            add("iceOfCore " + c, () -> g.iceOfCore(c));
        }
        for (int place = 0; place < 8; place++) {
            int p = place;
            add("iceAt " + p, () -> g.iceAt(p));
        }
        add("richestYear", g::richestYear);
        add("bestCore", g::bestCore);
        add("meanIce", g::meanIce);
        add("digest", g::digest);
        for (int many = 1; many <= 30; many++) {
            int m = many;
            add("iceAfter " + m, () -> g.iceAfter(m));
        }
    }

    private void layers() {
        GlacierYears g = past.lived();
        for (int layer = 0; layer < g.year(); layer++) {
            int l = layer;
            add("deedsOf " + l, () -> g.deedsOf(l));
            add("sealOf " + l, () -> g.sealOf(l));
            add("isCompacted " + l, () -> g.isCompacted(l));
            add("isFalse " + l, () -> g.isFalse(l));
        }
    }

    private void years() {
        GlacierYears g = past.lived();
        for (int year = 0; year <= g.year(); year++) {
            int y = year;
            add("canReplay " + y, () -> g.canReplay(y));
            add("replayedFrom " + y, () -> g.replayedFrom(y));
            add("replayCost " + y, () -> g.replayCost(y));
        }
    }

    private void yearsAt(int place) {
        GlacierYears g = past.lived();
        for (int year = 0; year <= g.year(); year++) {
            int y = year;
            add("iceInYear " + y + ", " + place, () -> g.iceInYear(y, place));
        }
    }

    /** The year's room, its layer and its core are seen only when it goes on and ends. */
    private void next() {
        GlacierYears g = past.lived();
        for (int i = 0; i < 13; i++) {
            add("then snow", () -> g.snow(2, 3));
        }
        add("then endYear", () -> g.endYear(true));
        add("then digest", g::digest);
        add("then iceAfter", () -> g.iceAfter(1));
        add("then compact", () -> g.compact(g.year()));
        add("then digest again", g::digest);
    }
}
