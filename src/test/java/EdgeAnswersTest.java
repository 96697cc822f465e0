/**
 * Promises 10 to 22, each sentence that names a boundary case by itself: the first and the last
 * that there is, what is next to these on both sides, empty and full.
 */
final class EdgeAnswersTest {
    private static final int NONE = PurseHouse.NONE;
    private static final int LEAST = Integer.MIN_VALUE;
    private static final int GREATEST = Integer.MAX_VALUE;
    private static final int MOST_COINS = Houses.MOST_COINS;
    private static final int ALL_MARKS = 65535;
    private static final int[] WRONG_WHATS = {LEAST, -1, 4, 5, 256, GREATEST};
    private static final String ZERO = "0";
    private static final String NO_NUMBER = "-1";
    private static final String NO_SUCH = Checks.NO_SUCH;
    private static final String ILLEGAL = Checks.ILLEGAL;

    private final Checks t = new Checks();
    private final Scene bareOne = new Scene("bare house of 1", 1, 0, 0, () -> Houses.bare(1));
    private final Scene pair = new Scene("pair", 2, 2, 0, Houses::pair);
    private final Scene busy = new Scene("busy house", 3, 4, 3, Houses::busy);
    private final Scene full = new Scene("full house", 6, 12, 16, Houses::full);
    private final Scene stuffed = new Scene("stuffed pair", 2, 2, 16, Houses::stuffed);
    private final Scene alone = new Scene("lone kiosk", 1, 0, 16, () -> Houses.alone(16));
    private final Scene roads = new Scene("pair with roads", 2, 2, 16, Houses::roads);

    public static void main(String[] args) {
        EdgeAnswersTest test = new EdgeAnswersTest();
        test.stockAndTill();
        test.onLinkAndThing();
        test.recordedAndFinished();
        test.piece();
        test.road();
        test.totals();
        test.below();
        test.events();
        test.t.end();
    }

    private void stockAndTill() {
        stockNoneSuch();
        tillNoneSuch();
    }

    private void onLinkAndThing() {
        onLinkNoneSuch();
        onLinkEmptyAndFull();
        thingNoneSuch();
        thingAnotherWhat();
        thingNoneSuchComesFirst();
        thingCurrencyAndAmountOfABag();
        thingMarkersAndEmptyBags();
        thingMarks();
    }

    private void recordedAndFinished() {
        recordedNoneSuch();
        finishedNoneSuch();
    }

    private void piece() {
        pieceNoneSuch();
        pieceNotRecorded();
        pieceAnotherWhat();
    }

    private void road() {
        roadNoneSuch();
        roadNothingOnIt();
    }

    private void totals() {
        totalNoneSuch();
        totalNotFinished();
        mintedNoneSuch();
        mintedOfThoseThatHaveRecorded();
        trueTotalNoneSuch();
        trueTotalOfAllPlaces();
    }

    private void below() {
        belowNoneSuch();
        belowIsLess();
        belowAtTheEndsOfLong();
        belowTheLeastKiosk();
    }

    private void events() {
        eventsNoSuchKiosk();
        eventsNumber();
        eventsHasNotRecorded();
    }

    /** Promise 10: 0 if there is none such. */
    private void stockNoneSuch() {
        busy.range(t, "stock kiosk", (h, x) -> h.stock(x, 0), 0, 88, 2, 20, ZERO);
        busy.range(t, "stock currency", (h, x) -> h.stock(0, x), 0, 88, 2, 60, ZERO);
        full.range(t, "stock kiosk of 6", (h, x) -> h.stock(x, 1), 0, 90, 5, 105, ZERO);
        alone.range(t, "stock kiosk of 1", (h, x) -> h.stock(x, 1), 0, 216, 0, 216, ZERO);
        busy.refuses(t, "stock of none", h -> h.stock(-1, 3), ZERO);
    }

    /** Promise 11: 0 if there is none such. */
    private void tillNoneSuch() {
        busy.range(t, "till kiosk", (h, x) -> h.till(x, 1), 0, -10, 2, -13, ZERO);
        busy.range(t, "till currency", (h, x) -> h.till(1, x), 0, 11, 2, -11, ZERO);
        busy.refuses(t, "till of none", h -> h.till(3, -1), ZERO);
        PurseHouse six = Houses.full();
        six.exchange(5, 0, 2, 30);
        t.due("till of the sixth", six.till(5, 2), -30);
        t.due("till of a seventh", six.till(6, 2), 0);
    }

    /** Promise 12: NONE if there is none such. */
    private void onLinkNoneSuch() {
        busy.range(t, "onLink", (h, x) -> h.onLink(x), 0, 2, 3, 3, NO_NUMBER);
        full.range(t, "onLink of 12", (h, x) -> h.onLink(x), 0, 19, 11, 2, NO_NUMBER);
        bareOne.refuses(t, "onLink without links", h -> h.onLink(0), NO_NUMBER);
    }

    /** Promise 12: how many things; a link with nothing on it has 0, a stuffed one 32. */
    private void onLinkEmptyAndFull() {
        pair.range(t, "onLink empty", (h, x) -> h.onLink(x), 0, 0, 1, 0, NO_NUMBER);
        stuffed.range(t, "onLink stuffed", (h, x) -> h.onLink(x), 0, 32, 1, 32, NO_NUMBER);
        for (int link = 0; link < 2; link++) {
            PurseHouse h = Houses.stuffed();
            for (int left = 31; left >= 0; left--) {
                h.deliver(link, 0);
                t.due("onLink one fewer", h.onLink(link), left);
            }
            h.deliver(link, 0);
            t.due("onLink when all was taken", h.onLink(link), 0);
        }
    }

    /** Promise 13: NoSuchElementException if there is none such. */
    private void thingNoneSuch() {
        busy.range(t, "thing link", (h, x) -> h.thing(x, 0, 0), 0, 3, 3, 2, NO_SUCH);
        busy.range(t, "thing loose place", (h, x) -> h.thing(3, x, 0), 0, 2, 2, 1, NO_SUCH);
        busy.range(t, "thing ordered place", (h, x) -> h.thing(2, x, 0), 0, 1, 1, 3, NO_SUCH);
        stuffed.range(t, "thing of 32", (h, x) -> h.thing(0, x, 2), 0, 1, 31, 2, NO_SUCH);
        stuffed.range(t, "thing of 32", (h, x) -> h.thing(1, x, 2), 0, 1, 31, 2, NO_SUCH);
        for (int what = 0; what < 4; what++) {
            int w = what;
            pair.refuses(t, "thing of an empty ordered link", h -> h.thing(0, 0, w), NO_SUCH);
            pair.refuses(t, "thing of an empty loose link", h -> h.thing(1, 0, w), NO_SUCH);
            bareOne.refuses(t, "thing without links", h -> h.thing(0, 0, w), NO_SUCH);
        }
        PurseHouse h = Houses.richPair();
        h.bag(0, 0, 1);
        h.deliver(0, 0);
        t.dueThrow("thing when all was taken", () -> h.thing(0, 0, 0), NO_SUCH);
    }

    /** Promise 13: else IllegalArgumentException for another what, of each kind of thing. */
    private void thingAnotherWhat() {
        busy.range(t, "what of a bag", (h, x) -> h.thing(3, 2, x), 0, 1, 3, 0b101, ILLEGAL);
        busy.range(t, "what of an empty one", (h, x) -> h.thing(3, 1, x), 0, 2, 3, 0b101, ILLEGAL);
        busy.range(t, "what of a marker", (h, x) -> h.thing(0, 0, x), 0, 3, 3, 0, ILLEGAL);
    }

    /** Promise 13: NoSuchElementException also where what is another one, too. */
    private void thingNoneSuchComesFirst() {
        for (int what : WRONG_WHATS) {
            busy.refuses(t, "no place, what " + what, h -> h.thing(3, 3, what), NO_SUCH);
            busy.refuses(t, "place -1, what " + what, h -> h.thing(3, -1, what), NO_SUCH);
            busy.refuses(t, "no link, what " + what, h -> h.thing(4, 0, what), NO_SUCH);
            busy.refuses(t, "link -1, what " + what, h -> h.thing(-1, 0, what), NO_SUCH);
            pair.refuses(t, "empty, what " + what, h -> h.thing(0, 0, what), NO_SUCH);
        }
    }

    /** Promise 13: the currency of a bag, its amount: first and last, least and most. */
    private void thingCurrencyAndAmountOfABag() {
        int[] amounts = {1, 2, MOST_COINS - 1, MOST_COINS};
        for (int link = 0; link < 2; link++) {
            for (int c = 0; c < 3; c++) {
                for (int amount : amounts) {
                    PurseHouse h = Houses.pair();
                    h.mint(0, c, MOST_COINS);
                    h.bag(link, c, amount);
                    t.due("kind of a bag", h.thing(link, 0, 0), 1);
                    t.due("currency of a bag", h.thing(link, 0, 1), c);
                    t.due("amount of a bag", h.thing(link, 0, 2), amount);
                    t.due("no marks", h.thing(link, 0, 3), 0);
                }
            }
        }
    }

    /** Promise 13: else NONE; the number of a marker, 0 of an empty bag; no marks but of bags. */
    private void thingMarkersAndEmptyBags() {
        PurseHouse h = Houses.stuffed();
        for (int n = 0; n < 16; n++) {
            int place = 8 + n;
            t.due("kind of marker " + n, h.thing(0, place, 0), 3);
            t.due("currency of a marker", h.thing(0, place, 1), NONE);
            t.due("number of a marker", h.thing(0, place, 2), n);
            t.due("marks of a marker", h.thing(0, place, 3), 0);
            t.due("kind of empty bag " + n, h.thing(1, place, 0), 2);
            t.due("currency of an empty bag", h.thing(1, place, 1), NONE);
            t.due("amount of an empty bag", h.thing(1, place, 2), 0);
            t.due("marks of an empty bag", h.thing(1, place, 3), (2 << n) - 1);
        }
    }

    /** Promise 13: bit n for number n, from none of them to all 16. */
    private void thingMarks() {
        for (int link = 0; link < 2; link++) {
            PurseHouse all = Houses.stuffed();
            t.due("no marks before", all.thing(link, 7, 3), 0);
            t.due("all marks behind", all.thing(link, 24, 3), ALL_MARKS);
            t.due("all marks of the last", all.thing(link, 31, 3), ALL_MARKS);
            for (int n = 0; n < 16; n++) {
                PurseHouse h = Houses.richPair();
                for (int i = 0; i < 16; i++) {
                    h.snap(i == n ? 0 : 1);
                }
                h.bag(link, 0, 1);
                t.due("only the mark of " + n, h.thing(link, 1, 3), 1 << n);
            }
        }
    }

    /** Promise 14: false if there is none such. */
    private void recordedNoneSuch() {
        busy.range(t, "recorded n", (h, x) -> bit(h.recorded(x, 0)), 0, 1, 2, 1, ZERO);
        busy.range(t, "recorded kiosk", (h, x) -> bit(h.recorded(0, x)), 0, 1, 2, 1, ZERO);
        alone.range(t, "recorded of 16", (h, x) -> bit(h.recorded(x, 0)), 0, 1, 15, 1, ZERO);
        bareOne.refuses(t, "recorded before any", h -> bit(h.recorded(0, 0)), ZERO);
        PurseHouse h = Houses.full();
        for (int n = 0; n < 16; n++) {
            for (int k = 0; k < 6; k++) {
                t.due("recorded " + n + " by " + k, h.recorded(n, k), k == n % 6);
            }
        }
        t.due("recorded by a seventh", h.recorded(0, 6), false);
    }

    /** Promise 15: false if there is none such. */
    private void finishedNoneSuch() {
        alone.range(t, "finished of 16", (h, x) -> bit(h.finished(x)), 0, 1, 15, 1, ZERO);
        busy.range(t, "finished of 3", (h, x) -> bit(h.finished(x)), 0, 1, 0, 1, ZERO);
        for (int n = 0; n < 16; n++) {
            int number = n;
            full.refuses(t, "finished " + n, h -> bit(h.finished(number)), ZERO);
            bareOne.refuses(t, "finished before any", h -> bit(h.finished(number)), ZERO);
        }
    }

    /** Promise 16: NoSuchElementException if there is no such number, kiosk or currency. */
    private void pieceNoneSuch() {
        busy.range(t, "piece n", (h, x) -> h.piece(x, 0, 0, 0), 0, 88, 2, 88, NO_SUCH);
        busy.range(t, "piece kiosk", (h, x) -> h.piece(0, x, 2, 0), 0, 69, 2, 300, NO_SUCH);
        busy.range(t, "piece currency", (h, x) -> h.piece(0, 0, x, 1), 0, 7, 2, 0, NO_SUCH);
        alone.range(t, "piece of 16", (h, x) -> h.piece(x, 0, 1, 0), 0, 200, 15, 215, NO_SUCH);
        for (int c = 0; c < 3; c++) {
            int currency = c;
            bareOne.refuses(t, "piece before any", h -> h.piece(0, 0, currency, 0), NO_SUCH);
            bareOne.refuses(t, "piece before any", h -> h.piece(0, 0, currency, 1), NO_SUCH);
        }
    }

    /** Promise 16: NoSuchElementException if it has not recorded the number, though another has. */
    private void pieceNotRecorded() {
        for (int what = 0; what < 2; what++) {
            int w = what;
            busy.refuses(t, "piece 1 of kiosk 0", h -> h.piece(1, 0, 0, w), NO_SUCH);
            busy.refuses(t, "piece 1 of kiosk 1", h -> h.piece(1, 1, 0, w), NO_SUCH);
            busy.refuses(t, "piece 2 of kiosk 1", h -> h.piece(2, 1, 0, w), NO_SUCH);
            busy.refuses(t, "piece 2 of kiosk 2", h -> h.piece(2, 2, 0, w), NO_SUCH);
        }
        PurseHouse h = Houses.busy();
        t.due("piece 1 of kiosk 2", h.piece(1, 2, 2, 0), 270);
        t.due("piece 1 of kiosk 2, till", h.piece(1, 2, 2, 1), 0);
        t.due("marker 2 comes", h.deliver(0, 0), true);
        t.due("piece 2 of kiosk 1 now", h.piece(2, 1, 0, 0), 166);
        t.due("piece 2 of kiosk 1 now, till", h.piece(2, 1, 0, 1), 11);
    }

    /** Promise 16: else IllegalArgumentException for another what. */
    private void pieceAnotherWhat() {
        busy.range(t, "piece what", (h, x) -> h.piece(0, 0, 1, x), 0, 54, 1, -10, ILLEGAL);
        alone.range(t, "piece what", (h, x) -> h.piece(15, 0, 2, x), 0, 3015, 1, 0, ILLEGAL);
        int[] wrong = {LEAST, -1, 2, 3, GREATEST};
        for (int what : wrong) {
            busy.refuses(t, "not recorded, what " + what, h -> h.piece(1, 0, 0, what), NO_SUCH);
            busy.refuses(t, "no number, what " + what, h -> h.piece(3, 0, 0, what), NO_SUCH);
            busy.refuses(t, "no kiosk, what " + what, h -> h.piece(0, 3, 0, what), NO_SUCH);
            busy.refuses(t, "no currency, what " + what, h -> h.piece(0, 0, 3, what), NO_SUCH);
        }
    }

    /** Promise 17: 0 if there is none such. */
    private void roadNoneSuch() {
        roads.range(t, "road n", (h, x) -> h.road(x, 0, 2), 0, 3, 15, 3, ZERO);
        roads.range(t, "road n", (h, x) -> h.road(x, 1, 0), 0, 4, 15, 4, ZERO);
        roads.range(t, "road link", (h, x) -> h.road(0, x, 1), 0, 2, 1, 5, ZERO);
        roads.range(t, "road currency", (h, x) -> h.road(15, 1, x), 0, 4, 2, 6, ZERO);
        busy.range(t, "road of link 1", (h, x) -> h.road(x, 1, 0), 0, 20, 0, 20, ZERO);
        busy.range(t, "road of link 3", (h, x) -> h.road(0, 3, x), 1, 6, 1, 6, ZERO);
    }

    /** Promise 17: so far: 0 as long as nothing is on it. */
    private void roadNothingOnIt() {
        for (int link = 0; link < 2; link++) {
            PurseHouse h = Houses.richPair();
            h.bag(link, 0, 1);
            t.due("road before any snapshot", h.road(0, link, 0), 0);
            h.snap(1);
            t.due("road while the bag is on the way", h.road(0, link, 0), 0);
            h.deliver(link, 0);
            t.due("road when it was taken", h.road(0, link, 0), 1);
            t.due("road of another currency", h.road(0, link, 1), 0);
            t.due("road of the other link", h.road(0, 1 - link, 0), 0);
            t.due("road of the next number", h.road(1, link, 0), 0);
            h.snap(1);
            t.due("road of a later number", h.road(1, link, 0), 0);
            t.due("road of the first stays", h.road(0, link, 0), 1);
        }
    }

    /** Promise 18: NoSuchElementException if there is none such. */
    private void totalNoneSuch() {
        alone.range(t, "total n", (h, x) -> h.total(x, 0), 0, 10, 15, 25, NO_SUCH);
        alone.range(t, "total currency", (h, x) -> h.total(15, x), 0, 25, 2, 3015, NO_SUCH);
        busy.range(t, "total n", (h, x) -> h.total(x, 0), 0, 300, 0, 300, NO_SUCH);
        busy.range(t, "total currency", (h, x) -> h.total(0, x), 0, 300, 2, 369, NO_SUCH);
        bareOne.refuses(t, "total before any", h -> h.total(0, 0), NO_SUCH);
        PurseHouse nothing = Houses.bare(1);
        nothing.snap(0);
        t.due("total of nothing", nothing.total(0, 0), 0);
    }

    /** Promise 18: NoSuchElementException if it is not finished, up to the last moment. */
    private void totalNotFinished() {
        for (int n = 0; n < 16; n++) {
            int number = n;
            full.refuses(t, "total of " + n, h -> h.total(number, 0), NO_SUCH);
        }
        busy.refuses(t, "total of 1", h -> h.total(1, 0), NO_SUCH);
        busy.refuses(t, "total of 2", h -> h.total(2, 2), NO_SUCH);
        PurseHouse h = Houses.richPair();
        h.bag(0, 0, 30);
        h.bag(1, 0, 20);
        h.snap(1);
        t.dueThrow("total, kiosk 0 has not recorded", () -> h.total(0, 0), NO_SUCH);
        h.deliver(0, 0);
        h.deliver(1, 0);
        t.dueThrow("total, all bags taken", () -> h.total(0, 0), NO_SUCH);
        // Nothing leads back to kiosk 0, so it never records number 0; of 1 it is the starter.
        h.snap(0);
        t.dueThrow("total of 1, started", () -> h.total(1, 0), NO_SUCH);
        h.deliver(1, 0);
        t.dueThrow("total of 1, the marker is on the way", () -> h.total(1, 0), NO_SUCH);
        h.deliver(0, 0);
        t.due("total of 1, finished", h.total(1, 0), 100);
        t.dueThrow("total of 0 still", () -> h.total(0, 0), NO_SUCH);
    }

    /** Promise 19: 0 if there is none such. */
    private void mintedNoneSuch() {
        alone.range(t, "minted n", (h, x) -> h.minted(x, 1), 0, 200, 15, 215, ZERO);
        alone.range(t, "minted currency", (h, x) -> h.minted(15, x), 0, 25, 2, 3015, ZERO);
        busy.range(t, "minted n", (h, x) -> h.minted(x, 2), 0, 369, 2, 69, ZERO);
        busy.range(t, "minted currency", (h, x) -> h.minted(0, x), 0, 300, 2, 369, ZERO);
        bareOne.refuses(t, "minted before any", h -> h.minted(0, 0), ZERO);
    }

    /** Promise 19: less what was melted, at all kiosks that have recorded a number up to then. */
    private void mintedOfThoseThatHaveRecorded() {
        PurseHouse h = Houses.pair();
        h.mint(0, 0, MOST_COINS);
        h.mint(0, 0, MOST_COINS);
        h.mint(0, 0, MOST_COINS);
        h.bag(0, 0, 40);
        h.deliver(0, 0);
        h.melt(1, 0, 40);
        h.mint(1, 0, 3);
        h.snap(0);
        t.due("minted at the starter", h.minted(0, 0), 3000000000L);
        h.melt(0, 0, 1);
        t.due("not what comes after", h.minted(0, 0), 3000000000L);
        h.mint(1, 0, 2);
        t.due("not at one that has not recorded", h.minted(0, 0), 3000000000L);
        h.deliver(0, 0);
        t.due("with the other, up to then", h.minted(0, 0), 2999999965L);
        h.mint(1, 0, 500);
        t.due("not what comes after", h.minted(0, 0), 2999999965L);
        h.snap(1);
        t.due("the other alone", h.minted(1, 0), 465);
        PurseHouse six = Houses.full();
        for (int n = 0; n < 16; n++) {
            t.due("the starter of " + n + " alone", six.minted(n, 0), 100 + n % 6);
        }
        PurseHouse less = Houses.richPair();
        less.bag(0, 2, 100);
        less.deliver(0, 0);
        less.melt(1, 2, 100);
        less.snap(1);
        t.due("below 0", less.minted(0, 2), -100);
    }

    /** Promise 20: 0 if there is none such. */
    private void trueTotalNoneSuch() {
        busy.range(t, "trueTotal", (h, x) -> h.trueTotal(x), 0, 300, 2, 369, ZERO);
        full.range(t, "trueTotal", (h, x) -> h.trueTotal(x), 0, 615, 2, 615, ZERO);
        bareOne.range(t, "trueTotal of nothing", (h, x) -> h.trueTotal(x), 0, 0, 2, 0, ZERO);
    }

    /** Promise 20: all stocks, tills, and bags on links: the coins in one place alone, too. */
    private void trueTotalOfAllPlaces() {
        for (int link = 0; link < 2; link++) {
            PurseHouse h = Houses.pair();
            h.mint(0, 1, MOST_COINS);
            t.due("all in a stock", h.trueTotal(1), MOST_COINS);
            h.bag(link, 1, MOST_COINS);
            t.due("all on a link", h.trueTotal(1), MOST_COINS);
            h.deliver(link, 0);
            t.due("all in the other stock", h.trueTotal(1), MOST_COINS);
            h.exchange(1, 1, 2, MOST_COINS);
            t.due("all in a till", h.trueTotal(1), MOST_COINS);
            t.due("a till below 0 against a stock", h.trueTotal(2), 0);
            h.melt(1, 2, MOST_COINS);
            t.due("only a till below 0", h.trueTotal(2), -MOST_COINS);
        }
        PurseHouse stuffedOne = Houses.stuffed();
        t.due("with bags on both links", stuffedOne.trueTotal(0), 100);
        stuffedOne.melt(0, 0, 84);
        t.due("only bags, no markers", stuffedOne.trueTotal(0), 16);
    }

    /** Promise 21: NONE if there is no such number or currency. */
    private void belowNoneSuch() {
        busy.range(t, "below n", (h, x) -> h.below(x, 0, 89), 0, 0, 2, 0, NO_NUMBER);
        busy.range(t, "below currency", (h, x) -> h.below(0, x, 60), 0, 2, 2, 1, NO_NUMBER);
        alone.range(t, "below of 16", (h, x) -> h.below(x, 2, 5000), 0, 0, 15, 0, NO_NUMBER);
        bareOne.refuses(t, "below before any", h -> h.below(0, 0, Long.MAX_VALUE), NO_NUMBER);
    }

    /** Promise 21: below x, not x itself; NONE if there is none. */
    private void belowIsLess() {
        PurseHouse h = Houses.alone(1);
        t.due("below its stock", h.below(0, 0, 9), NONE);
        t.due("at its stock", h.below(0, 0, 10), NONE);
        t.due("above its stock", h.below(0, 0, 11), 0);
        t.due("the recorded stock, not the one now", h.stock(0, 0), 11);
        PurseHouse nothing = Houses.bare(1);
        nothing.snap(0);
        t.due("nothing is not below -1", nothing.below(0, 0, -1), NONE);
        t.due("nothing is not below 0", nothing.below(0, 0, 0), NONE);
        t.due("nothing is below 1", nothing.below(0, 0, 1), 0);
    }

    /** Promise 21: x is a long. */
    private void belowAtTheEndsOfLong() {
        long[] none = {Long.MIN_VALUE, Long.MIN_VALUE + 1, -(1L << 32), LEAST - 1L, LEAST, -1, 0};
        long[] some = {3000000001L, 1L << 32, 1L << 40, Long.MAX_VALUE - 1, Long.MAX_VALUE};
        PurseHouse h = Houses.veryRichPair();
        h.snap(0);
        for (long x : none) {
            t.due("below " + x, h.below(0, 0, x), NONE);
        }
        for (long x : some) {
            t.due("below " + x, h.below(0, 0, x), 0);
        }
        t.due("below the greatest int", h.below(0, 0, GREATEST), NONE);
        t.due("at a stock beyond an int", h.below(0, 0, 3000000000L), NONE);
    }

    /** Promise 21: the least kiosk of those that have recorded a number. */
    private void belowTheLeastKiosk() {
        PurseHouse h = Houses.busy();
        // Recorded with number 0, of currency 2: 69, 0 and 300.
        t.due("all are below", h.below(0, 2, 301), 0);
        t.due("two are below", h.below(0, 2, 70), 0);
        t.due("one is below", h.below(0, 2, 69), 1);
        t.due("one is just below", h.below(0, 2, 1), 1);
        t.due("none is below", h.below(0, 2, 0), NONE);
        t.due("only the last has recorded", h.below(1, 2, Long.MAX_VALUE), 2);
        PurseHouse six = Houses.full();
        t.due("the sixth alone has recorded", six.below(5, 0, Long.MAX_VALUE), 5);
        t.due("and is not below its stock", six.below(5, 0, 105), NONE);
        t.due("but below one more", six.below(5, 0, 106), 5);
    }

    /** Promise 22: NONE if there is no such kiosk, now or with a number. */
    private void eventsNoSuchKiosk() {
        busy.range(t, "events now", (h, x) -> h.events(-1, x), 0, 9, 2, 5, NO_NUMBER);
        busy.range(t, "events at least n", (h, x) -> h.events(LEAST, x), 0, 9, 2, 5, NO_NUMBER);
        busy.range(t, "events of 0", (h, x) -> h.events(0, x), 0, 7, 2, 1, NO_NUMBER);
        full.range(t, "events now of 6", (h, x) -> h.events(-1, x), 0, 35, 5, 3, NO_NUMBER);
        bareOne.range(t, "events of a new one", (h, x) -> h.events(-1, x), 0, 0, 0, 0, NO_NUMBER);
    }

    /** Promise 22: n below 0 asks for now; NONE if there is no such number. */
    private void eventsNumber() {
        PurseHouse h = Houses.busy();
        int[] now = {LEAST, LEAST + 1, -65536, -32, -16, -2, -1};
        for (int n : now) {
            t.due("events " + n, h.events(n, 0), 9);
        }
        t.due("events of the first", h.events(0, 0), 7);
        t.due("events of the last", h.events(2, 0), 7);
        int[] none = {3, 4, 15, 16, 32, 34, 256, 65536, GREATEST};
        for (int n : none) {
            busy.refuses(t, "events " + n, x -> x.events(n, 0), NO_NUMBER);
        }
        PurseHouse lone = Houses.alone(16);
        t.due("events of 0", lone.events(0, 0), 3);
        t.due("events of 15", lone.events(15, 0), 48);
        t.due("events of 16", lone.events(16, 0), NONE);
        t.due("events now", lone.events(-1, 0), 51);
        t.due("events before any", Houses.bare(1).events(0, 0), NONE);
    }

    /** Promise 22: NONE if it has not recorded the number, though another has. */
    private void eventsHasNotRecorded() {
        busy.refuses(t, "events 1 of kiosk 0", h -> h.events(1, 0), NO_NUMBER);
        busy.refuses(t, "events 1 of kiosk 1", h -> h.events(1, 1), NO_NUMBER);
        busy.refuses(t, "events 2 of kiosk 2", h -> h.events(2, 2), NO_NUMBER);
        PurseHouse h = Houses.pair();
        h.snap(0);
        t.due("nothing recorded", h.events(0, 1), NONE);
        h.deliver(0, 0);
        t.due("recorded with no events", h.events(0, 1), 0);
    }

    private static long bit(boolean b) {
        return b ? 1 : 0;
    }
}
