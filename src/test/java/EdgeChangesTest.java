/**
 * Promises 1 to 9, each sentence that names a boundary case by itself: the last value that is taken
 * and the first that is not, on both sides, and that a refused call changes nothing.
 */
final class EdgeChangesTest {
    private static final int NONE = PurseHouse.NONE;
    private static final boolean ORDERED = Houses.ORDERED;
    private static final boolean LOOSE = Houses.LOOSE;
    private static final int LEAST = Integer.MIN_VALUE;
    private static final int GREATEST = Integer.MAX_VALUE;
    private static final int MOST_COINS = Houses.MOST_COINS;
    private static final String REFUSED = "0";
    private static final String NO_NUMBER = "-1";

    private final Checks t = new Checks();
    private final Scene bareOne = new Scene("bare house of 1", 1, 0, 0, () -> Houses.bare(1));
    private final Scene bareSix = new Scene("bare house of 6", 6, 0, 0, () -> Houses.bare(6));
    private final Scene pair = new Scene("pair", 2, 2, 0, Houses::pair);
    private final Scene richPair = new Scene("rich pair", 2, 2, 0, Houses::richPair);
    private final Scene veryRich = new Scene("very rich pair", 2, 2, 0, Houses::veryRichPair);
    private final Scene busy = new Scene("busy house", 3, 4, 3, Houses::busy);
    private final Scene full = new Scene("full house", 6, 12, 16, Houses::full);
    private final Scene stuffed = new Scene("stuffed pair", 2, 2, 16, Houses::stuffed);

    public static void main(String[] args) {
        EdgeChangesTest test = new EdgeChangesTest();
        test.newObject();
        test.link();
        test.rate();
        test.mint();
        test.melt();
        test.exchange();
        test.bag();
        test.deliver();
        test.snap();
        test.t.end();
    }

    private void newObject() {
        newKiosksAreOneToSix();
        newHasNoLinks();
        newHasNoSnapshots();
    }

    private void link() {
        linkNoSuchKiosk();
        linkBothAreOne();
        linkThereAreTwelve();
        linkThereWasASnapshot();
    }

    private void rate() {
        rateNoSuchCurrency();
        rateBothAreOne();
        rateIsOneToAMillion();
        rateAtItsEnds();
        rateOfOnePairAlone();
    }

    private void mint() {
        mintNoSuchKioskOrCurrency();
        mintAmount();
    }

    private void melt() {
        meltNoSuchKioskOrCurrency();
        meltAmount();
        meltHasFewer();
    }

    private void exchange() {
        exchangeNoSuchKioskOrCurrency();
        exchangeAmount();
        exchangeHasFewer();
        exchangeNoSuchOtherOne();
        exchangeTheSame();
    }

    private void bag() {
        bagNoSuchLinkOrCurrency();
        bagAmount();
        bagHasFewer();
        bagSixteenAreOnTheLink(0);
        bagSixteenAreOnTheLink(1);
        bagSixteenButForEmptyOnes();
    }

    private void deliver() {
        deliverNoSuchLink();
        deliverNothingThere();
        deliverPlacesOfALooseLink();
        deliverFirstOfAnOrderedLink();
    }

    private void snap() {
        snapNoSuchKiosk();
        snapNumbersFromZeroToFifteen();
        snapThereWereSixteen();
    }

    /** So many kiosks, 1 .. 6 (what is less or more is the nearest of these). */
    private void newKiosksAreOneToSix() {
        int[][] rows = {{LEAST, 1}, {-6, 1}, {-1, 1}, {0, 1}, {1, 1}, {2, 2}, {3, 3}, {4, 4},
            {5, 5}, {6, 6}, {7, 6}, {8, 6}, {256, 6}, {GREATEST, 6}};
        for (int[] row : rows) {
            String call = "new PurseHouse(" + row[0] + "): ";
            PurseHouse h = new PurseHouse(row[0]);
            int last = row[1] - 1;
            t.due(call + "events of the last", h.events(-1, last), 0);
            t.due(call + "events of one more", h.events(-1, last + 1), NONE);
            t.due(call + "mint at the last", h.mint(last, 2, 5), true);
            t.due(call + "mint at one more", h.mint(last + 1, 2, 5), false);
            t.due(call + "stock of the last", h.stock(last, 2), 5);
            t.due(call + "snap at one more", h.snap(last + 1), NONE);
            t.due(call + "snap at the last", h.snap(last), 0);
            t.due(call + "one kiosk is all", h.finished(0), last == 0);
        }
    }

    /** No links. */
    private void newHasNoLinks() {
        int[] links = {LEAST, -1, 0, 1, 11, 12, GREATEST};
        for (int l : links) {
            PurseHouse h = new PurseHouse(6);
            t.due("new onLink " + l, h.onLink(l), NONE);
            t.due("new deliver " + l, h.deliver(l, 0), false);
            h.mint(0, 0, 1);
            t.due("new bag " + l, h.bag(l, 0, 1), false);
            t.dueThrow("new thing " + l, () -> h.thing(l, 0, 0), Checks.NO_SUCH);
        }
        t.due("the first link", new PurseHouse(6).link(0, 5, LOOSE), 0);
    }

    /** No snapshots. */
    private void newHasNoSnapshots() {
        int[] numbers = {LEAST, -1, 0, 1, 15, 16, GREATEST};
        for (int n : numbers) {
            PurseHouse h = new PurseHouse(1);
            t.due("new recorded " + n, h.recorded(n, 0), false);
            t.due("new finished " + n, h.finished(n), false);
            t.due("new events " + n, h.events(n, 0), n < 0 ? 0 : NONE);
            t.dueThrow("new piece " + n, () -> h.piece(n, 0, 0, 0), Checks.NO_SUCH);
            t.dueThrow("new total " + n, () -> h.total(n, 0), Checks.NO_SUCH);
            t.due("new below " + n, h.below(n, 0, Long.MAX_VALUE), NONE);
        }
    }

    /** NONE if there is no such kiosk. */
    private void linkNoSuchKiosk() {
        bareSix.range(t, "link from", (h, x) -> h.link(x, 3, ORDERED), 0, 0, 5, 0, NO_NUMBER);
        bareSix.range(t, "link to", (h, x) -> h.link(3, x, LOOSE), 0, 0, 5, 0, NO_NUMBER);
        pair.range(t, "a third link from", (h, x) -> h.link(x, 1, LOOSE), 0, 2, 0, 2, NO_NUMBER);
        pair.range(t, "a third link to", (h, x) -> h.link(0, x, ORDERED), 1, 2, 1, 2, NO_NUMBER);
        bareOne.refuses(t, "link(0, 1)", h -> h.link(0, 1, ORDERED), NO_NUMBER);
        bareOne.refuses(t, "link(1, 0)", h -> h.link(1, 0, LOOSE), NO_NUMBER);
        bareSix.refuses(t, "link of none", h -> h.link(LEAST, GREATEST, LOOSE), NO_NUMBER);
    }

    /** NONE if both are one. */
    private void linkBothAreOne() {
        for (int k = 0; k < 6; k++) {
            int kiosk = k;
            bareSix.refuses(t, "link to itself", h -> h.link(kiosk, kiosk, ORDERED), NO_NUMBER);
            bareSix.refuses(t, "link to itself", h -> h.link(kiosk, kiosk, LOOSE), NO_NUMBER);
        }
        bareOne.refuses(t, "link(0, 0)", h -> h.link(0, 0, LOOSE), NO_NUMBER);
        bareSix.refuses(t, "link(7, 7)", h -> h.link(7, 7, LOOSE), NO_NUMBER);
        // The same two kiosks may have more links than one, both ways.
        PurseHouse h = Houses.pair();
        t.due("link again", h.link(0, 1, ORDERED), 2);
        t.due("link back", h.link(1, 0, ORDERED), 3);
    }

    /** NONE if there are 12. */
    private void linkThereAreTwelve() {
        Scene eleven = new Scene("house of 11 links", 2, 11, 0, () -> linked(11));
        Scene twelve = new Scene("house of 12 links", 2, 12, 0, () -> linked(12));
        for (int l = 0; l < 12; l++) {
            t.due("link number " + l, linked(l).link(1, 0, LOOSE), l);
        }
        t.due("the 12th link", eleven.house().link(0, 1, ORDERED), 11);
        t.due("nothing is on the 12th", twelve.house().onLink(11), 0);
        twelve.refuses(t, "a 13th ordered link", h -> h.link(0, 1, ORDERED), NO_NUMBER);
        twelve.refuses(t, "a 13th loose link", h -> h.link(1, 0, LOOSE), NO_NUMBER);
        PurseHouse h = eleven.house();
        h.link(1, 1, LOOSE);
        h.link(0, 2, LOOSE);
        t.due("refused ones are none of the 12", h.link(1, 0, LOOSE), 11);
    }

    private static PurseHouse linked(int links) {
        PurseHouse h = new PurseHouse(2);
        for (int l = 0; l < links; l++) {
            h.link(l % 2, 1 - l % 2, l % 3 == 0);
        }
        return h;
    }

    /** NONE if there was a snapshot: one under way, a finished one, one at any kiosk. */
    private void linkThereWasASnapshot() {
        busy.refuses(t, "link", h -> h.link(0, 1, ORDERED), NO_NUMBER);
        full.refuses(t, "link", h -> h.link(0, 1, LOOSE), NO_NUMBER);
        for (int k = 0; k < 6; k++) {
            PurseHouse h = Houses.bare(6);
            t.due("link just before", h.link(0, 1, LOOSE), 0);
            t.due("snap", h.snap(k), 0);
            t.due("link just after", h.link(0, 1, LOOSE), NONE);
            t.due("onLink of none", h.onLink(1), NONE);
        }
        PurseHouse done = Houses.pair();
        done.snap(0);
        done.deliver(0, 0);
        done.deliver(1, 0);
        t.due("finished", done.finished(0), true);
        t.due("link after a finished one", done.link(1, 0, LOOSE), NONE);
        PurseHouse refused = Houses.pair();
        t.due("refused snap", refused.snap(2), NONE);
        t.due("refused snap", refused.snap(-1), NONE);
        t.due("link after refused snaps", refused.link(1, 0, LOOSE), 2);
    }

    /** False if there is none such. */
    private void rateNoSuchCurrency() {
        busy.range(t, "rate of", (h, x) -> bit(h.rate(x, 1, 2, 3)), 0, 1, 2, 1, REFUSED);
        busy.range(t, "rate in", (h, x) -> bit(h.rate(1, x, 2, 3)), 0, 1, 2, 1, REFUSED);
        busy.refuses(t, "rate of none in none", h -> bit(h.rate(-1, 3, 2, 3)), REFUSED);
    }

    /** False if both are one, whatever the rate. */
    private void rateBothAreOne() {
        int[] both = {LEAST, -1, 0, 1, 2, 3, GREATEST};
        for (int c : both) {
            busy.refuses(t, "rate in itself " + c, h -> bit(h.rate(c, c, 2, 3)), REFUSED);
            busy.refuses(t, "rate in itself " + c, h -> bit(h.rate(c, c, 1, 1)), REFUSED);
        }
    }

    /** False if a or b is not 1 .. 1000000. */
    private void rateIsOneToAMillion() {
        int most = 1000000;
        busy.range(t, "rate a", (h, x) -> bit(h.rate(0, 1, x, 5)), 1, 1, most, 1, REFUSED);
        busy.range(t, "rate b", (h, x) -> bit(h.rate(0, 1, 5, x)), 1, 1, most, 1, REFUSED);
        busy.refuses(t, "rate 0 / 0", h -> bit(h.rate(0, 1, 0, 0)), REFUSED);
        busy.refuses(t, "rate -1 / -1", h -> bit(h.rate(0, 1, -1, -1)), REFUSED);
        busy.refuses(t, "rate too large", h -> bit(h.rate(0, 1, most + 1, most + 1)), REFUSED);
    }

    /** The rates at the ends of what is taken are used as they were given. */
    private void rateAtItsEnds() {
        int[][] rows = {{1, 1, 100}, {1, 1000000, 0}, {1000000, 1, 100000000},
            {1000000, 1000000, 100}, {999999, 1000000, 99}, {1000000, 999999, 100}};
        for (int[] row : rows) {
            PurseHouse h = Houses.richPair();
            String call = "rate " + row[0] + " / " + row[1];
            t.due(call, h.rate(2, 0, row[0], row[1]), true);
            t.due(call + " exchange", h.exchange(0, 2, 0, 100), true);
            t.due(call + " stock", h.stock(0, 0), 100 + row[2]);
        }
        PurseHouse again = Houses.richPair();
        again.rate(0, 1, 7, 2);
        t.due("the same rate again", again.rate(0, 1, 7, 2), true);
        t.due("another rate", again.rate(0, 1, 3, 1), true);
        again.exchange(0, 0, 1, 10);
        t.due("the latest rate", again.stock(0, 1), 130);
    }

    /** The rate of a currency in another one is neither that back nor that of another pair. */
    private void rateOfOnePairAlone() {
        for (int c = 0; c < 3; c++) {
            for (int d = 0; d < 3; d++) {
                for (int pairOf = 0; pairOf < 9; pairOf++) {
                    int from = pairOf / 3;
                    int to = pairOf % 3;
                    PurseHouse h = Houses.richPair();
                    boolean set = h.rate(c, d, 5, 1);
                    t.due("rate " + c + " " + d, set, c != d);
                    boolean changed = h.exchange(0, from, to, 10);
                    t.due("exchange " + from + " " + to, changed, from != to);
                    long got = !changed ? 0 : set && from == c && to == d ? 50 : 10;
                    t.due("stock by the rate " + from + " " + to, h.stock(0, to), 100 + got);
                }
            }
        }
    }

    /** False if there is no such kiosk or currency. */
    private void mintNoSuchKioskOrCurrency() {
        busy.range(t, "mint kiosk", (h, x) -> bit(h.mint(x, 0, 1)), 0, 1, 2, 1, REFUSED);
        busy.range(t, "mint currency", (h, x) -> bit(h.mint(0, x, 1)), 0, 1, 2, 1, REFUSED);
        full.range(t, "mint kiosk of 6", (h, x) -> bit(h.mint(x, 0, 1)), 0, 1, 5, 1, REFUSED);
        bareOne.range(t, "mint kiosk of 1", (h, x) -> bit(h.mint(x, 0, 1)), 0, 1, 0, 1, REFUSED);
    }

    /** False if amount is not 1 .. 1000000000. */
    private void mintAmount() {
        busy.range(t, "mint", (h, x) -> bit(h.mint(0, 0, x)), 1, 1, MOST_COINS, 1, REFUSED);
        bareOne.range(t, "mint", (h, x) -> bit(h.mint(0, 2, x)), 1, 1, MOST_COINS, 1, REFUSED);
        PurseHouse h = Houses.bare(1);
        h.mint(0, 1, 1);
        t.due("the least comes", h.stock(0, 1), 1);
        h.mint(0, 1, MOST_COINS);
        t.due("the most comes", h.stock(0, 1), 1000000001);
        h.mint(0, 1, MOST_COINS);
        h.mint(0, 1, MOST_COINS);
        t.due("more than an int holds", h.stock(0, 1), 3000000001L);
        t.due("in no till", h.till(0, 1), 0);
        t.due("events", h.events(-1, 0), 4);
    }

    /** False as with mint. */
    private void meltNoSuchKioskOrCurrency() {
        busy.range(t, "melt kiosk", (h, x) -> bit(h.melt(x, 0, 1)), 0, 1, 2, 1, REFUSED);
        busy.range(t, "melt currency", (h, x) -> bit(h.melt(0, x, 1)), 0, 1, 2, 1, REFUSED);
        full.range(t, "melt kiosk of 6", (h, x) -> bit(h.melt(x, 0, 1)), 0, 1, 5, 1, REFUSED);
    }

    /** False as with mint: the amount, where there is more than enough. */
    private void meltAmount() {
        veryRich.range(t, "melt", (h, x) -> bit(h.melt(0, 0, x)), 1, 1, MOST_COINS, 1, REFUSED);
        PurseHouse h = Houses.veryRichPair();
        h.melt(0, 0, 1);
        t.due("the least goes", h.stock(0, 0), 2999999999L);
        h.melt(0, 0, MOST_COINS);
        t.due("the most goes", h.stock(0, 0), 1999999999L);
    }

    /** False if it has fewer: in its stock, not in its till, on a link or elsewhere. */
    private void meltHasFewer() {
        richPair.range(t, "melt of 100", (h, x) -> bit(h.melt(0, 2, x)), 1, 1, 100, 1, REFUSED);
        richPair.refuses(t, "melt at the kiosk without", h -> bit(h.melt(1, 2, 1)), REFUSED);
        bareOne.refuses(t, "melt of nothing", h -> bit(h.melt(0, 0, 1)), REFUSED);
        Scene spent = new Scene("house with 3 of 10", 2, 2, 0, EdgeChangesTest::threeOfTen);
        spent.range(t, "melt of 3", (h, x) -> bit(h.melt(0, 0, x)), 1, 1, 3, 1, REFUSED);
        PurseHouse h = Houses.richPair();
        t.due("melt all", h.melt(0, 2, 100), true);
        t.due("nothing is left", h.stock(0, 2), 0);
        t.due("melt one more", h.melt(0, 2, 1), false);
        t.due("still nothing", h.stock(0, 2), 0);
        PurseHouse most = Houses.bare(1);
        most.mint(0, 0, MOST_COINS - 1);
        t.due("melt the most of one fewer", most.melt(0, 0, MOST_COINS), false);
        most.mint(0, 0, 1);
        t.due("melt the most of just as many", most.melt(0, 0, MOST_COINS), true);
    }

    /** Of 10 coins 4 are in the till, 1 in a bag on each link, 1 was taken at the other kiosk. */
    private static PurseHouse threeOfTen() {
        PurseHouse h = Houses.pair();
        h.mint(0, 0, 10);
        h.exchange(0, 0, 1, 4);
        h.bag(0, 0, 1);
        h.deliver(0, 0);
        h.bag(0, 0, 1);
        h.bag(1, 0, 1);
        return h;
    }

    /** False as with melt. */
    private void exchangeNoSuchKioskOrCurrency() {
        busy.range(t, "exchange kiosk", (h, x) -> bit(h.exchange(x, 0, 1, 1)), 0, 1, 2, 1, REFUSED);
        busy.range(t, "exchange of", (h, x) -> bit(h.exchange(0, x, 1, 1)), 0, 1, 2, 1, REFUSED);
        full.range(t, "exchange kiosk", (h, x) -> bit(h.exchange(x, 0, 1, 1)), 0, 1, 5, 1, REFUSED);
    }

    /** False as with melt: the amount, where there is more than enough. */
    private void exchangeAmount() {
        veryRich.range(t, "exchange", (h, x) -> bit(h.exchange(0, 0, 1, x)), 1, 1, MOST_COINS, 1,
                REFUSED);
        PurseHouse h = Houses.veryRichPair();
        h.exchange(0, 0, 2, 1);
        t.due("the least goes", h.stock(0, 0), 2999999999L);
        t.due("to the till", h.till(0, 0), 1);
        t.due("the least comes", h.stock(0, 2), 1);
        t.due("from the till", h.till(0, 2), -1);
        h.exchange(0, 0, 2, MOST_COINS);
        t.due("the most goes", h.stock(0, 0), 1999999999L);
        t.due("to the till", h.till(0, 0), 1000000001);
        t.due("the most comes", h.stock(0, 2), 1000000001);
        t.due("from the till", h.till(0, 2), -1000000001);
    }

    /** False if it has fewer: what its till has is not its stock. */
    private void exchangeHasFewer() {
        richPair.range(t, "exchange of 100", (h, x) -> bit(h.exchange(0, 1, 2, x)), 1, 1, 100, 1,
                REFUSED);
        richPair.refuses(t, "exchange without", h -> bit(h.exchange(1, 1, 2, 1)), REFUSED);
        Scene spent = new Scene("house with 3 of 10", 2, 2, 0, EdgeChangesTest::threeOfTen);
        spent.range(t, "exchange of 3", (h, x) -> bit(h.exchange(0, 0, 2, x)), 1, 1, 3, 1, REFUSED);
        PurseHouse h = Houses.richPair();
        t.due("exchange all", h.exchange(0, 0, 1, 100), true);
        t.due("nothing is left", h.stock(0, 0), 0);
        t.due("all is in the till", h.till(0, 0), 100);
        t.due("exchange one more", h.exchange(0, 0, 1, 1), false);
        t.due("still in the till", h.till(0, 0), 100);
        t.due("exchange back what came", h.exchange(0, 1, 0, 200), true);
        t.due("and one more", h.exchange(0, 1, 0, 1), false);
    }

    /** False if there is no such other one. */
    private void exchangeNoSuchOtherOne() {
        busy.range(t, "exchange for", (h, x) -> bit(h.exchange(0, 1, x, 1)), 0, 1, 2, 1, REFUSED);
        full.range(t, "exchange for", (h, x) -> bit(h.exchange(5, 1, x, 1)), 0, 1, 2, 1, REFUSED);
    }

    /** False if it is the same. */
    private void exchangeTheSame() {
        int[] both = {LEAST, -1, 0, 1, 2, 3, GREATEST};
        for (int c : both) {
            richPair.refuses(t, "exchange of " + c + " for itself",
                    h -> bit(h.exchange(0, c, c, 1)), REFUSED);
        }
    }

    /** False if there is no such link or currency. */
    private void bagNoSuchLinkOrCurrency() {
        busy.range(t, "bag link", (h, x) -> bit(h.bag(x, 0, 1)), 0, 1, 3, 1, REFUSED);
        busy.range(t, "bag currency", (h, x) -> bit(h.bag(3, x, 1)), 0, 1, 2, 1, REFUSED);
        Scene twelve = new Scene("rich house of 12 links", 2, 12, 0, EdgeChangesTest::richTwelve);
        twelve.range(t, "bag link of 12", (h, x) -> bit(h.bag(x, 0, 1)), 0, 1, 11, 1, REFUSED);
        Scene none = new Scene("rich house without links", 1, 0, 0, () -> Houses.alone(0));
        none.refuses(t, "bag without links", h -> bit(h.bag(0, 0, 1)), REFUSED);
    }

    private static PurseHouse richTwelve() {
        PurseHouse h = linked(12);
        h.mint(0, 0, 5);
        h.mint(1, 0, 5);
        return h;
    }

    /** False if amount is not 1 .. 1000000000, where there is more than enough. */
    private void bagAmount() {
        for (int l = 0; l < 2; l++) {
            int link = l;
            veryRich.range(t, "bag on link " + l, (h, x) -> bit(h.bag(link, 0, x)), 1, 1,
                    MOST_COINS, 1, REFUSED);
            PurseHouse h = Houses.veryRichPair();
            h.bag(link, 0, 1);
            h.bag(link, 0, MOST_COINS);
            t.due("what is left", h.stock(0, 0), 1999999999L);
            t.due("the least is on the link", h.thing(link, 0, 2), 1);
            t.due("the most is on the link", h.thing(link, 1, 2), MOST_COINS);
        }
    }

    /** False if the kiosk, the one at the link's beginning, has fewer. */
    private void bagHasFewer() {
        for (int l = 0; l < 2; l++) {
            int link = l;
            richPair.range(t, "bag of 100", (h, x) -> bit(h.bag(link, 1, x)), 1, 1, 100, 1,
                    REFUSED);
            pair.refuses(t, "bag of nothing", h -> bit(h.bag(link, 1, 1)), REFUSED);
            Scene spent = new Scene("house with 3 of 10", 2, 2, 0, EdgeChangesTest::threeOfTen);
            spent.range(t, "bag of 3", (h, x) -> bit(h.bag(link, 0, x)), 1, 1, 3, 1, REFUSED);
            PurseHouse wrongEnd = Houses.pair();
            wrongEnd.mint(1, 0, 50);
            t.due("bag of what the end has", wrongEnd.bag(link, 0, 1), false);
            t.due("nothing was sent", wrongEnd.onLink(link), 0);
            t.due("nothing has gone", wrongEnd.stock(1, 0), 50);
            PurseHouse all = Houses.richPair();
            t.due("bag of all", all.bag(link, 1, 100), true);
            t.due("nothing is left", all.stock(0, 1), 0);
            t.due("bag of one more", all.bag(link, 1, 1), false);
        }
    }

    /** False if 16 bags are on the link. */
    private void bagSixteenAreOnTheLink(int link) {
        Scene sixteen = new Scene("pair with 16 bags", 2, 2, 0, () -> withBags(link, 16));
        sixteen.refuses(t, "a 17th bag", h -> bit(h.bag(link, 0, 1)), REFUSED);
        sixteen.refuses(t, "a 17th bag of another", h -> bit(h.bag(link, 2, 100)), REFUSED);
        t.due("the 16th bag", withBags(link, 15).bag(link, 0, 1), true);
        t.due("16 are there", sixteen.house().onLink(link), 16);
        t.due("the other link has its own 16", sixteen.house().bag(1 - link, 0, 1), true);
        PurseHouse h = sixteen.house();
        h.deliver(link, 0);
        t.due("a bag when one was taken", h.bag(link, 0, 1), true);
        t.due("and one more", h.bag(link, 0, 1), false);
    }

    private static PurseHouse withBags(int link, int bags) {
        PurseHouse h = Houses.richPair();
        for (int i = 0; i < bags; i++) {
            h.bag(link, 1, 1);
        }
        return h;
    }

    /** But for empty ones: neither these nor markers are of the 16. */
    private void bagSixteenButForEmptyOnes() {
        stuffed.refuses(t, "a 17th bag behind markers", h -> bit(h.bag(0, 0, 1)), REFUSED);
        stuffed.refuses(t, "a 17th bag behind empty ones", h -> bit(h.bag(1, 0, 1)), REFUSED);
        full.refuses(t, "a 17th bag", h -> bit(h.bag(0, 0, 1)), REFUSED);
        full.refuses(t, "a 17th bag", h -> bit(h.bag(6, 0, 1)), REFUSED);
        for (int link = 0; link < 2; link++) {
            PurseHouse h = Houses.richPair();
            for (int n = 0; n < 16; n++) {
                h.snap(0);
            }
            t.due("16 things that are no bags", h.onLink(link), 16);
            for (int i = 0; i < 16; i++) {
                t.due("bag behind them", h.bag(link, 0, 1), true);
            }
            t.due("a 17th behind them", h.bag(link, 0, 1), false);
            t.due("one that is no bag is taken", h.deliver(link, 0), true);
            t.due("still a 17th", h.bag(link, 0, 1), false);
            t.due("all are there", h.onLink(link), 31);
        }
    }

    /** False if there is no such link. */
    private void deliverNoSuchLink() {
        busy.range(t, "deliver link", (h, x) -> bit(h.deliver(x, 0)), 0, 1, 3, 1, REFUSED);
        bareSix.refuses(t, "deliver without links", h -> bit(h.deliver(0, 0)), REFUSED);
        PurseHouse h = richTwelve();
        h.bag(11, 0, 1);
        t.due("deliver on the 12th link", h.deliver(11, 0), true);
    }

    /** False if there is none such: nothing was sent, or all was taken. */
    private void deliverNothingThere() {
        for (int l = 0; l < 2; l++) {
            int link = l;
            int[] places = {LEAST, -1, 0, 1, GREATEST};
            for (int i : places) {
                pair.refuses(t, "deliver place " + i, h -> bit(h.deliver(link, i)), REFUSED);
            }
            PurseHouse h = Houses.richPair();
            h.bag(link, 0, 1);
            t.due("deliver the only one", h.deliver(link, 0), true);
            t.due("deliver again", h.deliver(link, 0), false);
            t.due("taken once", h.stock(1, 0), 1);
        }
    }

    /** What is at place i, from 0 on; false if there is none such. */
    private void deliverPlacesOfALooseLink() {
        busy.range(t, "deliver place of 3", (h, x) -> bit(h.deliver(3, x)), 0, 1, 2, 1, REFUSED);
        busy.range(t, "deliver place of 1", (h, x) -> bit(h.deliver(1, x)), 0, 1, 0, 1, REFUSED);
        stuffed.range(t, "deliver of 32", (h, x) -> bit(h.deliver(1, x)), 0, 1, 31, 1, REFUSED);
        PurseHouse last = Houses.stuffed();
        last.deliver(1, 31);
        t.due("the last was taken", last.stock(1, 2), 2);
        t.due("none is there now", last.deliver(1, 31), false);
        t.due("one before is", last.deliver(1, 30), true);
        PurseHouse first = Houses.stuffed();
        first.deliver(1, 0);
        t.due("the first was taken", first.stock(1, 0), 1);
        t.due("31 are left", first.onLink(1), 31);
    }

    /** False if i is not 0 on an ordered link. */
    private void deliverFirstOfAnOrderedLink() {
        busy.range(t, "deliver ordered", (h, x) -> bit(h.deliver(0, x)), 0, 1, 0, 1, REFUSED);
        busy.range(t, "deliver ordered", (h, x) -> bit(h.deliver(2, x)), 0, 1, 0, 1, REFUSED);
        stuffed.range(t, "deliver of 32", (h, x) -> bit(h.deliver(0, x)), 0, 1, 0, 1, REFUSED);
        for (int i = 1; i <= 32; i++) {
            int place = i;
            stuffed.refuses(t, "deliver place " + i, h -> bit(h.deliver(0, place)), REFUSED);
        }
    }

    /** NONE if there is no such kiosk. */
    private void snapNoSuchKiosk() {
        busy.range(t, "snap", (h, x) -> h.snap(x), 0, 3, 2, 3, NO_NUMBER);
        bareOne.range(t, "first snap of 1", (h, x) -> h.snap(x), 0, 0, 0, 0, NO_NUMBER);
        bareSix.range(t, "first snap of 6", (h, x) -> h.snap(x), 0, 0, 5, 0, NO_NUMBER);
    }

    /** One more than that of the latest (0 for the first): whichever kiosk started the latest. */
    private void snapNumbersFromZeroToFifteen() {
        PurseHouse h = Houses.bare(6);
        for (int n = 0; n < 16; n++) {
            int kiosk = n * 5 % 6;
            t.due("refused between", h.snap(6), NONE);
            t.due("not yet recorded", h.recorded(n, kiosk), false);
            t.due("snap " + n, h.snap(kiosk), n);
            t.due("recorded at once", h.recorded(n, kiosk), true);
            t.due("not at another", h.recorded(n, (kiosk + 1) % 6), false);
        }
    }

    /** NONE if there were 16, finished or not. */
    private void snapThereWereSixteen() {
        for (int k = 0; k < 6; k++) {
            int kiosk = k;
            full.refuses(t, "a 17th snap", h -> h.snap(kiosk), NO_NUMBER);
        }
        full.refuses(t, "a 17th snap at none", h -> h.snap(6), NO_NUMBER);
        stuffed.refuses(t, "a 17th snap", h -> h.snap(0), NO_NUMBER);
        Scene fifteen = new Scene("lone kiosk, 15 snapshots", 1, 0, 15, () -> Houses.alone(15));
        Scene sixteen = new Scene("lone kiosk, 16 snapshots", 1, 0, 16, () -> Houses.alone(16));
        t.due("the 16th snap", fifteen.house().snap(0), 15);
        sixteen.refuses(t, "a 17th snap when all are finished", h -> h.snap(0), NO_NUMBER);
        PurseHouse h = sixteen.house();
        h.snap(0);
        t.due("no 17th after two tries", h.snap(0), NONE);
    }

    private static long bit(boolean b) {
        return b ? 1 : 0;
    }
}
