import java.util.ArrayList;
import java.util.List;
import java.util.function.LongSupplier;
import java.util.function.Supplier;
import java.util.function.ToLongFunction;

/**
 * A house in a known state, and all that can be asked of it, to see that a refused call changes
 * nothing. Each look is taken at a house of its own: together they need more than the 512 calls of
 * one object, and some of them change it.
 */
final class Scene {
    /** A call with one int left open. */
    interface IntCall {
        long at(PurseHouse h, int x);
    }

    private interface Look {
        void at(PurseHouse h, StringBuilder seen);
    }

    private static final int MOST_THINGS = 32;
    private static final int MOST_TAKEN = 300;

    private final String name;
    private final Supplier<PurseHouse> maker;
    private final int kiosks;
    private final int links;
    private final int numbers;
    private final List<Look> looks = new ArrayList<>();
    private final List<String> untouched;

    Scene(String name, int kiosks, int links, int numbers, Supplier<PurseHouse> maker) {
        this.name = name;
        this.maker = maker;
        this.kiosks = kiosks;
        this.links = links;
        this.numbers = numbers;
        addLooks();
        this.untouched = looksAfter(h -> 0);
    }

    PurseHouse house() {
        return maker.get();
    }

    /** The call answers what is due for a refused one, and all looks are as without it. */
    void refuses(Checks t, String call, ToLongFunction<PurseHouse> made, String want) {
        PurseHouse h = maker.get();
        String where = call + " in the " + name;
        t.dueThrow(where, () -> made.applyAsLong(h), want);
        t.due("all looks after " + where, firstChange(looksAfter(made)), "the same");
    }

    /**
     * The call takes low and high, and refuses the ints next to these, the least and the greatest
     * int, and ints that are like low in their lower bits.
     */
    void range(Checks t, String call, IntCall made, int low, long atLow, int high, long atHigh,
            String refused) {
        t.dueThrow(call + " " + low, () -> made.at(maker.get(), low), Long.toString(atLow));
        t.dueThrow(call + " " + high, () -> made.at(maker.get(), high), Long.toString(atHigh));
        int[] outside = {low - 1, high + 1, Integer.MIN_VALUE, Integer.MAX_VALUE, low + 16,
            low + 32, low + 64, low + 256, low + 65536, low + (1 << 30), low + Integer.MIN_VALUE};
        for (int x : outside) {
            if (x < low || x > high) {
                refuses(t, call + " " + x, h -> made.at(h, x), refused);
            }
        }
    }

    private List<String> looksAfter(ToLongFunction<PurseHouse> made) {
        List<String> all = new ArrayList<>();
        for (Look look : looks) {
            PurseHouse h = maker.get();
            Checks.answerOf(() -> made.applyAsLong(h));
            StringBuilder seen = new StringBuilder();
            look.at(h, seen);
            all.add(seen.toString());
        }
        return all;
    }

    private String firstChange(List<String> now) {
        for (int i = 0; i < now.size(); i++) {
            if (!now.get(i).equals(untouched.get(i))) {
                return now.get(i) + "(before: " + untouched.get(i) + ")";
            }
        }
        return "the same";
    }

    private void addLooks() {
        looks.add(this::kiosksNow);
        looks.add(this::coinsInAll);
        looks.add(this::ratesNow);
        looks.add(this::nextLink);
        looks.add(this::nextNumber);
        looks.add(this::nextPages);
        looks.add(this::afterAllIsTaken);
        for (int link = 0; link <= links; link++) {
            int l = link;
            looks.add((h, seen) -> thingsOn(h, l, seen));
            looks.add((h, seen) -> afterOneLinkIsTaken(h, l, seen));
        }
        for (int number = 0; number <= numbers; number++) {
            int n = number;
            looks.add((h, seen) -> pagesOf(h, n, seen));
            looks.add((h, seen) -> roadsOf(h, n, seen));
        }
    }

    private void kiosksNow(PurseHouse h, StringBuilder seen) {
        for (int k = 0; k <= kiosks; k++) {
            add(seen, "kiosk", k);
            for (int c = 0; c < 3; c++) {
                add(seen, "stock", h.stock(k, c));
                add(seen, "till", h.till(k, c));
            }
            add(seen, "events", h.events(-1, k));
        }
    }

    private void coinsInAll(PurseHouse h, StringBuilder seen) {
        for (int c = 0; c < 3; c++) {
            add(seen, "trueTotal", h.trueTotal(c));
        }
    }

    /** A rate shows only in an exchange. */
    private void ratesNow(PurseHouse h, StringBuilder seen) {
        for (int c = 0; c < 3; c++) {
            for (int d = 0; d < 3; d++) {
                h.mint(0, c, 999999937);
                add(seen, "exchange", h.exchange(0, c, d, 999999937) ? 1 : 0);
                add(seen, "stock", h.stock(0, d));
            }
        }
    }

    private void nextLink(PurseHouse h, StringBuilder seen) {
        add(seen, "next link", h.link(0, 1, true));
        add(seen, "and then", h.link(1, 0, false));
    }

    private void nextNumber(PurseHouse h, StringBuilder seen) {
        add(seen, "next number", h.snap(0));
        add(seen, "and then", h.snap(kiosks - 1));
        for (int l = 0; l < links; l++) {
            add(seen, "onLink", h.onLink(l));
        }
    }

    /** What was minted at a kiosk shows only in what it records. */
    private void nextPages(PurseHouse h, StringBuilder seen) {
        for (int k = 0; k < kiosks; k++) {
            int n = h.snap(k);
            for (int c = 0; c < 3; c++) {
                add(seen, "minted next", h.minted(n, c));
            }
        }
    }

    private void thingsOn(PurseHouse h, int link, StringBuilder seen) {
        int size = h.onLink(link);
        add(seen, "onLink", size);
        for (int i = 0; i < size; i++) {
            for (int what = 0; what < 4; what++) {
                add(seen, "thing", h.thing(link, i, what));
            }
        }
    }

    private void pagesOf(PurseHouse h, int n, StringBuilder seen) {
        for (int k = 0; k < kiosks; k++) {
            add(seen, "recorded", h.recorded(n, k) ? 1 : 0);
            add(seen, "events", h.events(n, k));
            for (int c = 0; c < 3; c++) {
                int currency = c;
                int kiosk = k;
                add(seen, "piece 0", () -> h.piece(n, kiosk, currency, 0));
                add(seen, "piece 1", () -> h.piece(n, kiosk, currency, 1));
            }
        }
        for (int c = 0; c < 3; c++) {
            add(seen, "minted", h.minted(n, c));
            add(seen, "below", h.below(n, c, 50));
        }
    }

    private void roadsOf(PurseHouse h, int n, StringBuilder seen) {
        add(seen, "finished", h.finished(n) ? 1 : 0);
        for (int c = 0; c < 3; c++) {
            int currency = c;
            add(seen, "total", () -> h.total(n, currency));
            for (int l = 0; l < links; l++) {
                add(seen, "road", h.road(n, l, c));
            }
        }
    }

    private void afterOneLinkIsTaken(PurseHouse h, int link, StringBuilder seen) {
        for (int i = 0; i <= MOST_THINGS; i++) {
            add(seen, "deliver", h.deliver(link, 0) ? 1 : 0);
        }
        kiosksNow(h, seen);
        for (int n = 0; n <= numbers; n++) {
            add(seen, "finished", h.finished(n) ? 1 : 0);
            for (int c = 0; c < 3; c++) {
                add(seen, "road", h.road(n, link, c));
            }
        }
    }

    /** What a link is done for shows only in what finishes. */
    private void afterAllIsTaken(PurseHouse h, StringBuilder seen) {
        int taken = 0;
        boolean more = true;
        while (more && taken < MOST_TAKEN) {
            more = false;
            for (int l = 0; l < links; l++) {
                more |= h.deliver(l, 0);
                taken++;
            }
        }
        for (int n = 0; n < numbers; n++) {
            int number = n;
            add(seen, "total", () -> h.total(number, 0));
        }
    }

    private static void add(StringBuilder seen, String name, long answer) {
        seen.append(name).append(' ').append(answer).append(' ');
    }

    private static void add(StringBuilder seen, String name, LongSupplier made) {
        seen.append(name).append(' ').append(Checks.answerOf(made)).append(' ');
    }
}
