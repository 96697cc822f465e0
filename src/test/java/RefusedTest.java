import java.util.function.ToLongFunction;

/** A refused call (false, NONE, one that throws) changes nothing that can be asked for. */
final class RefusedTest {
    private final Checks t = new Checks();
    private final String untouched = answersOf(house());

    public static void main(String[] args) {
        RefusedTest test = new RefusedTest();
        test.coinsAndLinks();
        test.takingAndSnapshots();
        test.asking();
        test.fullHouse();
        test.t.end();
    }

    private void coinsAndLinks() {
        refused("link", h -> h.link(1, 0, true), "-1");
        refused("rate", h -> bit(h.rate(0, 1, 0, 5)), "0");
        refused("rate", h -> bit(h.rate(0, 1, 5, 1000001)), "0");
        refused("rate", h -> bit(h.rate(0, 0, 5, 1)), "0");
        refused("mint", h -> bit(h.mint(0, 0, 0)), "0");
        refused("mint", h -> bit(h.mint(0, 3, 1)), "0");
        refused("mint", h -> bit(h.mint(2, 0, 1)), "0");
        refused("melt", h -> bit(h.melt(0, 0, 1000)), "0");
        refused("melt", h -> bit(h.melt(0, 0, -1)), "0");
        refused("exchange", h -> bit(h.exchange(0, 0, 1, 1000)), "0");
        refused("exchange", h -> bit(h.exchange(0, 0, 0, 1)), "0");
        refused("exchange", h -> bit(h.exchange(0, 0, 3, 1)), "0");
        refused("bag", h -> bit(h.bag(0, 0, 1000)), "0");
        refused("bag", h -> bit(h.bag(0, 0, 0)), "0");
        refused("bag", h -> bit(h.bag(0, -1, 1)), "0");
        refused("bag", h -> bit(h.bag(2, 0, 1)), "0");
    }

    private void takingAndSnapshots() {
        refused("deliver", h -> bit(h.deliver(0, 1)), "0");
        refused("deliver", h -> bit(h.deliver(0, -1)), "0");
        refused("deliver", h -> bit(h.deliver(1, 9)), "0");
        refused("deliver", h -> bit(h.deliver(2, 0)), "0");
        refused("snap", h -> h.snap(2), "-1");
        refused("snap", h -> h.snap(-1), "-1");
    }

    private void asking() {
        refused("thing", h -> h.thing(0, 9, 0), Checks.NO_SUCH);
        refused("thing", h -> h.thing(0, 0, 4), Checks.ILLEGAL);
        refused("piece", h -> h.piece(0, 1, 0, 0), Checks.NO_SUCH);
        refused("piece", h -> h.piece(0, 0, 0, 2), Checks.ILLEGAL);
        refused("total", h -> h.total(0, 0), Checks.NO_SUCH);
        refused("below", h -> h.below(5, 0, 0), "-1");
        refused("events", h -> h.events(5, 0), "-1");
        refused("onLink", h -> h.onLink(5), "-1");
    }

    /** The 17th bag and the 17th snapshot are refused whole: no coins, no number, no things. */
    private void fullHouse() {
        t.due("after a 17th snap", fullAnswers(h -> h.snap(0), "-1"), fullAnswers(h -> 0, "0"));
        t.due("after a 17th bag", fullAnswers(h -> bit(h.bag(0, 0, 1)), "0"),
                fullAnswers(h -> 0, "0"));
    }

    private String fullAnswers(ToLongFunction<PurseHouse> call, String want) {
        PurseHouse h = house();
        for (int i = 0; i < 20; i++) {
            h.snap(0);
            h.bag(0, 0, 1);
        }
        t.dueThrow("call on a full house", () -> call.applyAsLong(h), want);
        StringBuilder seen = new StringBuilder();
        for (int link = 0; link < 2; link++) {
            seen.append(h.onLink(link)).append(' ');
        }
        return seen.append(h.stock(0, 0)).append(' ').append(h.events(-1, 0)).append(' ')
                .append(h.recorded(15, 0)).append(h.recorded(16, 0)).append(h.trueTotal(0))
                .toString();
    }

    private void refused(String name, ToLongFunction<PurseHouse> call, String want) {
        PurseHouse h = house();
        t.dueThrow("refused " + name, () -> call.applyAsLong(h), want);
        t.due("all answers after a refused " + name, answersOf(h), untouched);
    }

    private static long bit(boolean b) {
        return b ? 1 : 0;
    }

    private static PurseHouse house() {
        PurseHouse h = new PurseHouse(2);
        h.link(0, 1, true);
        h.link(0, 1, false);
        h.rate(0, 1, 3, 2);
        h.mint(0, 0, 100);
        h.mint(0, 1, 50);
        h.mint(1, 0, 10);
        h.exchange(0, 0, 1, 7);
        h.bag(0, 0, 5);
        h.bag(1, 1, 6);
        h.snap(0);
        h.bag(0, 0, 8);
        h.bag(1, 0, 9);
        return h;
    }

    /** Some 150 calls: with those of the house within the 512 of an object. */
    private static String answersOf(PurseHouse h) {
        StringBuilder seen = new StringBuilder();
        for (int k = 0; k < 2; k++) {
            for (int c = 0; c < 3; c++) {
                seen.append(h.stock(k, c)).append(' ').append(h.till(k, c)).append(' ');
            }
            seen.append(h.events(-1, k)).append(' ');
        }
        addThings(h, seen);
        addSnapshots(h, seen);
        // A changed rate or a used number shows only in what is done next.
        h.exchange(0, 0, 1, 10);
        seen.append(h.stock(0, 1)).append(' ').append(h.snap(1)).append(' ').append(h.link(1, 0, true));
        return seen.toString();
    }

    private static void addThings(PurseHouse h, StringBuilder seen) {
        for (int link = 0; link < 3; link++) {
            int size = h.onLink(link);
            seen.append("link ").append(size).append(": ");
            for (int i = 0; i < size; i++) {
                for (int what = 0; what < 4; what++) {
                    seen.append(h.thing(link, i, what)).append(' ');
                }
            }
        }
    }

    private static void addSnapshots(PurseHouse h, StringBuilder seen) {
        for (int n = 0; n < 2; n++) {
            seen.append("snapshot ").append(h.finished(n)).append(' ');
            for (int k = 0; k < 2; k++) {
                seen.append(h.recorded(n, k)).append(' ').append(h.events(n, k)).append(' ');
            }
            for (int c = 0; c < 3; c++) {
                seen.append(h.minted(n, c)).append(' ').append(h.road(n, 0, c)).append(' ');
                seen.append(h.road(n, 1, c)).append(' ').append(h.below(n, c, 40)).append(' ');
            }
        }
        for (int c = 0; c < 3; c++) {
            seen.append(h.piece(0, 0, c, 0)).append(' ').append(h.piece(0, 0, c, 1)).append(' ');
            seen.append(h.trueTotal(c)).append(' ');
        }
    }
}
