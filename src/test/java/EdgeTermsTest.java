/** The sentences of "What it is" and "Terms" that name a boundary case, each by itself. */
final class EdgeTermsTest {
    private static final int NONE = PurseHouse.NONE;
    private static final boolean ORDERED = Houses.ORDERED;
    private static final boolean LOOSE = Houses.LOOSE;
    private static final int BAG = 1;
    private static final int EMPTY_BAG = 2;
    private static final int MARKER = 3;
    private static final int MOST_COINS = Houses.MOST_COINS;
    private static final int ALL_MARKS = 65535;

    private final Checks t = new Checks();

    public static void main(String[] args) {
        EdgeTermsTest test = new EdgeTermsTest();
        test.callsAndCoins();
        test.recording();
        test.taking();
        test.theRoad();
        test.doneAndFinished();
        test.eventCounts();
        test.t.end();
    }

    private void callsAndCoins() {
        the512thCallHolds();
        the512thCallOfTheLargestExchanges();
        stocksAndTillsAreZeroAtFirst();
        aTillMayFallBelowZero();
        ratesAreOneToOneAtFirst();
        divIsTheGreatestWholeNumberNotAbove();
        divWithoutRunningOver();
        divMayBeZero();
    }

    private void recording() {
        onALinkInARow();
        recordsANumberAtMostOnce();
        recordsWhatWasSoFar();
        marksFromThenOn();
        sendsOnEachLinkOutOfIt();
        sendsOnFullLinks();
        emptyBagWithTheMarksAsTheyAreNow();
    }

    private void taking() {
        takeAMarkerOfANewNumber();
        takeAMarkerOfARecordedNumber();
        takeABagWithoutMarks();
        takeABagWhoseMarksAreKnown();
        takeABagWithAllMarks();
        takeAnEmptyBagWithAllMarks();
        takeABagWithMarksOnAnOrderedLink();
        theAmountComesAfterTheRecording();
    }

    private void theRoad() {
        roadBeginsWithTheRecording(0);
        roadBeginsWithTheRecording(1);
        roadOfAnOrderedLinkEndsAtTheMarker();
        roadOfALooseLinkLeavesOutTheMarked();
        roadIsOfEachNumberByItself();
        roadOfMoreBagsThanALinkHolds(0);
        roadOfMoreBagsThanALinkHolds(1);
    }

    private void doneAndFinished() {
        orderedLinkIsDoneByTheMarkerAlone();
        looseLinkWaitsForTheLastBagFromBefore();
        looseLinkWaitsForNoOtherBag();
        looseLinkWaitsForBothKiosks();
        finishedWithoutLinks();
        finishedWhenAllKiosksHaveRecorded();
        finishedWhenAllLinksAreDone();
    }

    private void eventCounts() {
        eachEventIsOne();
        whatIsNoEvent();
    }

    /** An object is used for at most 512 calls after it has been made: the last of them, too. */
    private void the512thCallHolds() {
        PurseHouse h = new PurseHouse(1);
        for (int call = 1; call < 512; call++) {
            h.mint(0, 0, MOST_COINS);
        }
        t.due("stock as the 512th call", h.stock(0, 0), 511000000000L);
        PurseHouse events = new PurseHouse(1);
        for (int call = 1; call < 512; call++) {
            events.mint(0, call % 3, 1);
        }
        t.due("events as the 512th call", events.events(-1, 0), 511);
        PurseHouse snaps = Houses.pair();
        for (int call = 3; call < 512; call++) {
            snaps.snap(call % 2);
        }
        t.due("onLink as the 512th call", snaps.onLink(0), 8);
    }

    /** As above, with the largest numbers that so many calls can come to. */
    private void the512thCallOfTheLargestExchanges() {
        PurseHouse h = new PurseHouse(1);
        h.rate(0, 1, 1000000, 1);
        for (int i = 0; i < 255; i++) {
            h.mint(0, 0, MOST_COINS);
            h.exchange(0, 0, 1, MOST_COINS);
        }
        t.due("till as the 512th call", h.till(0, 1), -255000000000000000L);
    }

    /** Longs, 0 at first. */
    private void stocksAndTillsAreZeroAtFirst() {
        for (int k = 0; k < 6; k++) {
            for (int c = 0; c < 3; c++) {
                PurseHouse h = new PurseHouse(6);
                t.due("first stock", h.stock(k, c), 0);
                t.due("first till", h.till(k, c), 0);
                t.due("first trueTotal", h.trueTotal(c), 0);
            }
        }
    }

    /** A till may fall below 0: from 0, from above 0, and further. */
    private void aTillMayFallBelowZero() {
        PurseHouse h = Houses.richPair();
        t.due("from 0", h.exchange(0, 0, 1, 1), true);
        t.due("just below 0", h.till(0, 1), -1);
        t.due("back to 0", h.exchange(0, 1, 2, 1), true);
        t.due("at 0", h.till(0, 1), 0);
        h.exchange(0, 1, 2, 5);
        t.due("above 0", h.till(0, 1), 5);
        h.exchange(0, 0, 1, 6);
        t.due("from above 0 below it", h.till(0, 1), -1);
        h.exchange(0, 2, 1, 20);
        t.due("further", h.till(0, 1), -21);
        h.snap(0);
        t.due("recorded below 0", h.piece(0, 0, 1, 1), -21);
    }

    /** 1 / 1 at first, in each of the pairs. */
    private void ratesAreOneToOneAtFirst() {
        for (int c = 0; c < 3; c++) {
            for (int d = 0; d < 3; d++) {
                if (c != d) {
                    PurseHouse h = new PurseHouse(1);
                    h.mint(0, c, 7);
                    t.due("exchange", h.exchange(0, c, d, 7), true);
                    t.due("first rate of " + c + " in " + d, h.stock(0, d), 7);
                    t.due("its till", h.till(0, d), -7);
                }
            }
        }
    }

    /** DIV(a, b) is the greatest whole number not above a / b: just below, at and above one. */
    private void divIsTheGreatestWholeNumberNotAbove() {
        long[][] rows = {{1, 1, 2, 0}, {2, 1, 2, 1}, {3, 1, 2, 1}, {4, 1, 2, 2}, {5, 3, 2, 7},
            {999999, 1, 1000000, 0}, {1000000, 1, 1000000, 1}, {1000001, 1, 1000000, 1},
            {1999999, 1, 1000000, 1}, {2000000, 1, 1000000, 2}, {1, 999999, 1000000, 0},
            {2, 999999, 1000000, 1}, {1, 1000000, 999999, 1}, {999999, 1000000, 999999, 1000000},
            {999998, 1000000, 999999, 999998}, {7, 10, 3, 23}, {6, 10, 3, 20}, {8, 10, 3, 26}};
        for (long[] row : rows) {
            checkDiv((int) row[0], (int) row[1], (int) row[2], row[3]);
        }
    }

    /** Worked out without running over: products around the greatest int, and far above. */
    private void divWithoutRunningOver() {
        long[][] rows = {{2147483, 1000, 1, 2147483000L}, {2147484, 1000, 1, 2147484000L},
            {4294967, 1000, 1, 4294967000L}, {4294968, 1000, 1, 4294968000L},
            {4294968, 1000, 7, 613566857L}, {MOST_COINS, 3, 3, 1000000000L},
            {MOST_COINS, 1000000, 1, 1000000000000000L},
            {MOST_COINS, 1000000, 1000000, 1000000000L},
            {MOST_COINS, 999999, 1000000, 999999000L}, {MOST_COINS, 1000000, 999999, 1000001000L},
            {MOST_COINS, 1, 1000000, 1000L}, {999999999, 1000000, 3, 333333333000000L},
            {999999999, 1, 1000000, 999L}, {999999937, 999983, 999979, 1000003937L}};
        for (long[] row : rows) {
            checkDiv((int) row[0], (int) row[1], (int) row[2], row[3]);
        }
    }

    private void checkDiv(int amount, int a, int b, long want) {
        PurseHouse h = new PurseHouse(1);
        h.mint(0, 2, amount);
        h.rate(2, 1, a, b);
        String call = "DIV(" + amount + " * " + a + ", " + b + ")";
        t.due(call, h.exchange(0, 2, 1, amount), true);
        t.due(call + " to the stock", h.stock(0, 1), want);
        t.due(call + " from the till", h.till(0, 1), -want);
        t.due(call + " all went", h.stock(0, 2), 0);
        t.due(call + " to the till", h.till(0, 2), amount);
    }

    /** An exchange that brings nothing is none of those that are refused. */
    private void divMayBeZero() {
        PurseHouse h = Houses.richPair();
        h.rate(0, 1, 1, 101);
        t.due("exchange for nothing", h.exchange(0, 0, 1, 100), true);
        t.due("the amount went", h.stock(0, 0), 0);
        t.due("to the till", h.till(0, 0), 100);
        t.due("nothing came", h.stock(0, 1), 100);
        t.due("nothing went", h.till(0, 1), 0);
        t.due("it is an event", h.events(-1, 0), 4);
    }

    /** In a row, what was sent and not taken. */
    private void onALinkInARow() {
        for (int link = 0; link < 2; link++) {
            PurseHouse h = Houses.richPair();
            for (int i = 1; i <= 5; i++) {
                h.bag(link, 0, i);
            }
            h.deliver(link, 0);
            h.bag(link, 0, 6);
            for (int i = 0; i < 5; i++) {
                t.due("row of link " + link, h.thing(link, i, 2), i + 2);
            }
        }
        PurseHouse loose = Houses.richPair();
        for (int i = 1; i <= 5; i++) {
            loose.bag(1, 0, i);
        }
        loose.deliver(1, 4);
        loose.deliver(1, 1);
        int[] want = {1, 3, 4};
        for (int i = 0; i < 3; i++) {
            t.due("row without those taken", loose.thing(1, i, 2), want[i]);
        }
    }

    /** A kiosk records a number at most once: again, it changes no page and sends nothing. */
    private void recordsANumberAtMostOnce() {
        PurseHouse h = new PurseHouse(2);
        h.link(0, 1, ORDERED);
        h.link(0, 1, ORDERED);
        h.link(0, 1, LOOSE);
        h.link(1, 0, ORDERED);
        h.link(1, 0, LOOSE);
        h.mint(0, 0, 50);
        h.mint(1, 0, 10);
        h.snap(0);
        h.bag(2, 0, 7);
        h.deliver(0, 0);
        for (int again = 0; again < 4; again++) {
            t.due("page", h.piece(0, 1, 0, 0), 10);
            t.due("its mint", h.minted(0, 0), 60);
            t.due("its events", h.events(0, 1), 1);
            t.due("one marker back", h.onLink(3), 1);
            t.due("one empty bag back", h.onLink(4), 1);
            h.mint(1, 0, 100);
            // A second marker, an empty bag and a bag with the number come to kiosk 1.
            h.deliver(again == 0 ? 1 : 2, 0);
        }
        h.deliver(3, 0);
        h.deliver(4, 0);
        t.due("its own number comes back to the starter", h.piece(0, 0, 0, 0), 50);
        t.due("and sends no marker", h.onLink(0), 0);
        t.due("and no empty bag", h.onLink(2), 0);
    }

    /** Its stocks and tills, what was minted there less what was melted, and its events, so far. */
    private void recordsWhatWasSoFar() {
        PurseHouse h = Houses.richPair();
        h.snap(0);
        h.mint(0, 0, 1);
        h.melt(0, 1, 2);
        h.exchange(0, 2, 1, 3);
        h.bag(0, 0, 4);
        h.snap(0);
        // Rows of: number, then of each currency the stock, the till, the minted; then the events.
        long[][] want = {{0, 100, 0, 100, 100, 0, 100, 100, 0, 100, 3},
            {1, 97, 0, 101, 101, -3, 98, 97, 3, 100, 7}};
        for (long[] row : want) {
            int n = (int) row[0];
            for (int c = 0; c < 3; c++) {
                t.due("stock recorded with " + n, h.piece(n, 0, c, 0), row[1 + 3 * c]);
                t.due("till recorded with " + n, h.piece(n, 0, c, 1), row[2 + 3 * c]);
                t.due("minted up to " + n, h.minted(n, c), row[3 + 3 * c]);
            }
            t.due("events up to " + n, h.events(n, 0), row[10]);
        }
    }

    /** The number is in its marks from then on: in bags sent after, not in those sent before. */
    private void marksFromThenOn() {
        for (int link = 0; link < 2; link++) {
            PurseHouse h = Houses.richPair();
            h.bag(link, 0, 1);
            h.snap(0);
            h.bag(link, 0, 1);
            h.snap(1);
            h.bag(link, 0, 1);
            h.snap(0);
            h.bag(link, 0, 1);
            t.due("just before number 0", h.thing(link, 0, 3), 0);
            t.due("just after it", h.thing(link, 2, 3), 0b001);
            t.due("number 1 is another kiosk's", h.thing(link, 3, 3), 0b001);
            t.due("just after number 2", h.thing(link, 5, 3), 0b101);
        }
    }

    /** On each link out of it, none of the others; with 12 out of it, and with none. */
    private void sendsOnEachLinkOutOfIt() {
        PurseHouse h = new PurseHouse(3);
        for (int l = 0; l < 12; l++) {
            h.link(0, 1 + l % 2, l % 3 == 0);
        }
        h.snap(1);
        h.snap(2);
        for (int l = 0; l < 12; l++) {
            t.due("nothing on a link into it", h.onLink(l), 0);
        }
        h.snap(0);
        for (int l = 0; l < 12; l++) {
            t.due("one on link " + l, h.onLink(l), 1);
            t.due("its kind", h.thing(l, 0, 0), l % 3 == 0 ? MARKER : EMPTY_BAG);
        }
        PurseHouse no = new PurseHouse(2);
        t.due("snap without links", no.snap(1), 0);
        t.due("recorded without links", no.recorded(0, 1), true);
    }

    /** Comes behind what is there, though 16 bags are there. */
    private void sendsOnFullLinks() {
        for (int link = 0; link < 2; link++) {
            PurseHouse h = Houses.richPair();
            for (int i = 0; i < 16; i++) {
                h.bag(link, 0, 1);
            }
            h.snap(0);
            t.due("one more than 16", h.onLink(link), 17);
            t.due("the last bag", h.thing(link, 15, 0), BAG);
            t.due("behind it", h.thing(link, 16, 0), link == 0 ? MARKER : EMPTY_BAG);
        }
    }

    /** An empty bag with the marks as they are now: with this number, without those to come. */
    private void emptyBagWithTheMarksAsTheyAreNow() {
        PurseHouse h = Houses.pair();
        int marks = 0;
        for (int n = 0; n < 16; n++) {
            h.snap(0);
            marks |= 1 << n;
            t.due("marks of empty bag " + n, h.thing(1, n, 3), marks);
        }
        t.due("the first stays as it was", h.thing(1, 0, 3), 1);
        t.due("the last has all", h.thing(1, 15, 3), ALL_MARKS);
    }

    /** A marker: its kiosk records its number, if it has not yet; then this link is done for it. */
    private void takeAMarkerOfANewNumber() {
        int[] numbers = {0, 1, 14, 15};
        for (int n : numbers) {
            PurseHouse h = new PurseHouse(2);
            h.link(0, 1, ORDERED);
            h.mint(1, 0, 5);
            for (int i = 0; i < 16; i++) {
                h.snap(i == n ? 0 : 1);
            }
            t.due("before marker " + n, h.recorded(n, 1), false);
            t.due("not finished", h.finished(n), false);
            h.deliver(0, 0);
            t.due("after marker " + n, h.recorded(n, 1), true);
            t.due("its page", h.piece(n, 1, 0, 0), 5);
            t.due("finished", h.finished(n), true);
            t.due("a marker is no event", h.events(-1, 1), 1);
        }
    }

    /** A marker of a number that is recorded: only the link is done. */
    private void takeAMarkerOfARecordedNumber() {
        PurseHouse h = new PurseHouse(2);
        h.link(0, 1, ORDERED);
        h.link(0, 1, ORDERED);
        h.mint(1, 0, 5);
        h.snap(0);
        h.deliver(0, 0);
        h.mint(1, 0, 1);
        t.due("one link is not done", h.finished(0), false);
        h.deliver(1, 0);
        t.due("both are done", h.finished(0), true);
        t.due("the page is the first one", h.piece(0, 1, 0, 0), 5);
    }

    /** A bag without marks: nothing is recorded. */
    private void takeABagWithoutMarks() {
        for (int link = 0; link < 2; link++) {
            PurseHouse h = Houses.richPair();
            h.bag(link, 0, 9);
            h.snap(0);
            h.deliver(link, 0);
            t.due("nothing is recorded", h.recorded(0, 1), false);
            t.due("the amount came", h.stock(1, 0), 9);
            t.due("it is an event", h.events(-1, 1), 1);
        }
    }

    /** Not in its own: a bag whose marks its kiosk has all. */
    private void takeABagWhoseMarksAreKnown() {
        PurseHouse h = Houses.richPair();
        h.snap(0);
        h.bag(1, 0, 9);
        h.deliver(0, 0);
        h.mint(1, 0, 3);
        h.deliver(1, 1);
        t.due("the page stays", h.piece(0, 1, 0, 0), 0);
        t.due("the amount came", h.stock(1, 0), 12);
        t.due("events of the page", h.events(0, 1), 0);
    }

    /** Each number that is in the bag's marks and not in its own, the least first: all 16. */
    private void takeABagWithAllMarks() {
        PurseHouse h = rowOfThree();
        h.bag(0, 0, 9);
        t.due("the bag", h.thing(0, 16, 3), ALL_MARKS);
        t.due("it overtakes", h.deliver(0, 16), true);
        checkAllRecorded(h);
        t.due("the amount came", h.stock(1, 0), 109);
        t.due("it is an event", h.events(-1, 1), 2);
    }

    /** A bag, empty or not. */
    private void takeAnEmptyBagWithAllMarks() {
        PurseHouse h = rowOfThree();
        t.due("the last empty bag", h.thing(0, 15, 3), ALL_MARKS);
        t.due("it overtakes", h.deliver(0, 15), true);
        checkAllRecorded(h);
        t.due("no amount came", h.stock(1, 0), 100);
        t.due("it is no event", h.events(-1, 1), 1);
        PurseHouse middle = rowOfThree();
        middle.deliver(0, 7);
        t.due("the last of its marks", middle.recorded(7, 1), true);
        t.due("one more than its marks", middle.recorded(8, 1), false);
        t.due("8 went on", middle.onLink(1), 8);
        middle.deliver(0, 14);
        t.due("8 more went on", middle.onLink(1), 16);
        t.due("the marks of the ninth", middle.thing(1, 8, 3), 0b111111111);
    }

    /** Kiosk 0 has started all 16; loose to kiosk 1; from there ordered and loose on to 2. */
    private static PurseHouse rowOfThree() {
        PurseHouse h = new PurseHouse(3);
        h.link(0, 1, LOOSE);
        h.link(1, 2, LOOSE);
        h.link(1, 2, ORDERED);
        h.mint(0, 0, 100);
        h.mint(1, 0, 100);
        for (int n = 0; n < 16; n++) {
            h.snap(0);
        }
        return h;
    }

    private void checkAllRecorded(PurseHouse h) {
        t.due("16 empty bags went on", h.onLink(1), 16);
        t.due("16 markers went on", h.onLink(2), 16);
        for (int n = 0; n < 16; n++) {
            t.due("recorded " + n, h.recorded(n, 1), true);
            t.due("page without the amount " + n, h.piece(n, 1, 0, 0), 100);
            t.due("page without the event " + n, h.events(n, 1), 1);
            t.due("empty bag of number " + n, h.thing(1, n, 3), (2 << n) - 1);
            t.due("marker of number " + n, h.thing(2, n, 2), n);
        }
    }

    /** On an ordered link the marker is always in front of a bag with its number. */
    private void takeABagWithMarksOnAnOrderedLink() {
        PurseHouse h = Houses.richPair();
        h.snap(0);
        h.bag(0, 0, 9);
        t.due("the bag can't overtake", h.deliver(0, 1), false);
        h.deliver(0, 0);
        h.deliver(0, 0);
        t.due("recorded by the marker", h.piece(0, 1, 0, 0), 0);
        t.due("then the bag", h.stock(1, 0), 9);
    }

    /** Then the amount comes to its stock: the page is from before it. */
    private void theAmountComesAfterTheRecording() {
        int[] amounts = {1, MOST_COINS};
        for (int amount : amounts) {
            PurseHouse h = Houses.pair();
            h.mint(0, 0, MOST_COINS);
            h.snap(0);
            h.bag(1, 0, amount);
            h.deliver(1, 1);
            t.due("the page", h.piece(0, 1, 0, 0), 0);
            t.due("events of the page", h.events(0, 1), 0);
            t.due("the stock", h.stock(1, 0), amount);
            t.due("not on the road either", h.road(0, 1, 0), 0);
            h.deliver(0, 0);
            t.due("finished", h.finished(0), true);
            t.due("the total", h.total(0, 0), MOST_COINS);
        }
    }

    /** The bags that were taken after its kiosk recorded the number: not those just before. */
    private void roadBeginsWithTheRecording(int link) {
        PurseHouse h = Houses.richPair();
        h.bag(link, 0, 1);
        h.bag(link, 0, 2);
        h.bag(link, 0, 4);
        h.deliver(link, 0);
        h.snap(1);
        t.due("taken just before", h.road(0, link, 0), 0);
        t.due("it is in the page", h.piece(0, 1, 0, 0), 1);
        h.deliver(link, 0);
        t.due("taken just after", h.road(0, link, 0), 2);
        h.bag(link, 0, 8);
        h.deliver(link, 0);
        h.deliver(link, 0);
        t.due("also one that was sent after it", h.road(0, link, 0), 14);
    }

    /** On an ordered link, before the marker of that number was: not those just after. */
    private void roadOfAnOrderedLinkEndsAtTheMarker() {
        PurseHouse h = new PurseHouse(2);
        h.link(0, 1, ORDERED);
        h.link(1, 0, ORDERED);
        h.mint(0, 0, 100);
        h.snap(1);
        h.bag(0, 0, 1);
        h.deliver(1, 0);
        h.bag(0, 0, 2);
        h.deliver(0, 0);
        t.due("the last before the marker", h.road(0, 0, 0), 1);
        t.due("the marker is first now", h.thing(0, 0, 0), MARKER);
        t.due("not finished", h.finished(0), false);
        h.deliver(0, 0);
        t.due("finished", h.finished(0), true);
        h.deliver(0, 0);
        t.due("the first behind the marker", h.road(0, 0, 0), 1);
        t.due("it came to the stock", h.stock(1, 0), 3);
        t.due("total", h.total(0, 0), 100);
        h.snap(0);
        h.bag(0, 0, 4);
        h.deliver(0, 0);
        h.deliver(0, 0);
        t.due("behind the marker of the next number, too", h.road(0, 0, 0), 1);
    }

    /** On a loose one, without the number in their marks, in whatever order they come. */
    private void roadOfALooseLinkLeavesOutTheMarked() {
        PurseHouse h = Houses.richPair();
        h.bag(1, 0, 1);
        h.snap(0);
        h.bag(1, 0, 2);
        h.bag(1, 0, 4);
        h.deliver(1, 3);
        t.due("the one that made it record", h.road(0, 1, 0), 0);
        h.deliver(1, 2);
        t.due("another with the number", h.road(0, 1, 0), 0);
        h.deliver(1, 1);
        t.due("the empty bag", h.road(0, 1, 0), 0);
        h.deliver(1, 0);
        t.due("the one without, last of all", h.road(0, 1, 0), 1);
        h.deliver(0, 0);
        t.due("total", h.total(0, 0), 100);
    }

    /** A bag may be on the road of one number and not on that of another: of 0 and 15, too. */
    private void roadIsOfEachNumberByItself() {
        PurseHouse h = Houses.richPair();
        for (int n = 0; n < 15; n++) {
            h.snap(1);
        }
        h.bag(1, 0, 1);
        h.snap(0);
        h.bag(1, 0, 2);
        h.deliver(1, 2);
        t.due("on the road of 0", h.road(0, 1, 0), 2);
        t.due("on the road of 14", h.road(14, 1, 0), 2);
        t.due("not on that of 15", h.road(15, 1, 0), 0);
        h.deliver(1, 0);
        t.due("on the road of 0", h.road(0, 1, 0), 3);
        t.due("on the road of 15", h.road(15, 1, 0), 1);
        PurseHouse ordered = Houses.richPair();
        ordered.snap(1);
        ordered.snap(0);
        ordered.bag(0, 0, 5);
        ordered.deliver(0, 0);
        ordered.deliver(0, 0);
        t.due("behind the marker of another number", ordered.road(0, 0, 0), 5);
        t.due("behind its own", ordered.road(1, 0, 0), 0);
    }

    /** The 16 are those on a link at once: a road has all that were taken since the recording. */
    private void roadOfMoreBagsThanALinkHolds(int link) {
        PurseHouse h = Houses.richPair();
        h.snap(1);
        for (int round = 1; round <= 3; round++) {
            for (int i = 0; i < 16; i++) {
                h.bag(link, 0, 1);
            }
            for (int i = 0; i < 16; i++) {
                h.deliver(link, 0);
            }
            t.due("road after round " + round, h.road(0, link, 0), 16 * round);
        }
    }

    /** An ordered link waits for its marker, and bags behind it do not matter. */
    private void orderedLinkIsDoneByTheMarkerAlone() {
        PurseHouse h = new PurseHouse(2);
        h.link(0, 1, ORDERED);
        h.mint(0, 0, 100);
        h.bag(0, 0, 1);
        h.snap(0);
        h.bag(0, 0, 2);
        h.snap(0);
        t.due("the bag is in front", h.finished(0), false);
        h.deliver(0, 0);
        t.due("the marker is on the way", h.finished(0), false);
        h.deliver(0, 0);
        t.due("the marker was taken", h.finished(0), true);
        t.due("not that of the next number", h.finished(1), false);
        h.deliver(0, 0);
        t.due("the bag between was taken", h.finished(1), false);
        h.deliver(0, 0);
        t.due("the next marker was taken", h.finished(1), true);
        t.due("and the link stays done for the first", h.finished(0), true);
        t.due("nothing is left", h.onLink(0), 0);
    }

    /** Of the bags that were sent on it before the one at its beginning did, all were taken. */
    private void looseLinkWaitsForTheLastBagFromBefore() {
        for (int left = 0; left < 16; left++) {
            PurseHouse h = oneLooseLink();
            for (int i = 0; i < 16; i++) {
                h.bag(0, 0, 1);
            }
            h.snap(0);
            h.deliver(0, 16);
            t.due("both have recorded", h.recorded(0, 1), true);
            t.due("16 are left", h.finished(0), false);
            for (int i = 0; i < 15; i++) {
                // All others are taken before the one at this place of the row.
                h.deliver(0, i < left ? 0 : 1);
                t.due("a bag from before is left", h.finished(0), false);
            }
            h.deliver(0, 0);
            t.due("none is left", h.finished(0), true);
            t.due("all were on the road", h.road(0, 0, 0), 16);
        }
    }

    /** But for empty ones; nor does it wait for a bag that was sent after. */
    private void looseLinkWaitsForNoOtherBag() {
        PurseHouse h = oneLooseLink();
        h.snap(0);
        h.bag(0, 0, 1);
        h.snap(0);
        h.bag(0, 0, 1);
        // The last bag overtakes; an empty one, a bag and an empty one are left.
        h.deliver(0, 3);
        t.due("an empty one and later bags are left", h.finished(0), true);
        t.due("a bag from before number 1 is left", h.finished(1), false);
        h.deliver(0, 1);
        t.due("two empty ones are left", h.onLink(0), 2);
        t.due("number 1, too", h.finished(1), true);
        h.bag(0, 0, 1);
        t.due("a new bag changes nothing", h.finished(1), true);
    }

    private static PurseHouse oneLooseLink() {
        PurseHouse h = new PurseHouse(2);
        h.link(0, 1, LOOSE);
        h.mint(0, 0, 100);
        return h;
    }

    /** When both its kiosks have recorded it: nothing on the link is not enough. */
    private void looseLinkWaitsForBothKiosks() {
        PurseHouse end = oneLooseLink();
        end.snap(1);
        t.due("only the end has recorded", end.finished(0), false);
        PurseHouse beginning = oneLooseLink();
        beginning.snap(0);
        t.due("only the beginning has recorded", beginning.finished(0), false);
        beginning.deliver(0, 0);
        t.due("both", beginning.finished(0), true);
    }

    /** One kiosk without links is all there is; of more, none reaches the others. */
    private void finishedWithoutLinks() {
        for (int kiosks = 1; kiosks <= 6; kiosks++) {
            PurseHouse h = new PurseHouse(kiosks);
            h.snap(kiosks - 1);
            t.due("finished with " + kiosks + " kiosks", h.finished(0), kiosks == 1);
        }
    }

    /** When all kiosks have recorded its number: the last of six, too, from wherever it starts. */
    private void finishedWhenAllKiosksHaveRecorded() {
        for (int start = 0; start < 6; start++) {
            PurseHouse loose = ringOfSix(LOOSE, start);
            PurseHouse ordered = ringOfSix(ORDERED, start);
            for (int step = 0; step < 5; step++) {
                t.due("loose, recorded by " + (step + 1), loose.finished(0), false);
                t.due("ordered, recorded by " + (step + 1), ordered.finished(0), false);
                loose.deliver((start + step) % 6, 0);
                ordered.deliver((start + step) % 6, 0);
            }
            t.due("the last has recorded", ordered.recorded(0, (start + 5) % 6), true);
            t.due("loose, recorded by all", loose.finished(0), true);
            t.due("ordered, the last marker is on the way", ordered.finished(0), false);
            ordered.deliver((start + 5) % 6, 0);
            t.due("ordered, it was taken", ordered.finished(0), true);
        }
    }

    private static PurseHouse ringOfSix(boolean ordered, int start) {
        PurseHouse h = new PurseHouse(6);
        for (int k = 0; k < 6; k++) {
            h.link(k, (k + 1) % 6, ordered);
        }
        h.snap(start);
        return h;
    }

    /** All links that there were when it was started are done for it: the last of 12, too. */
    private void finishedWhenAllLinksAreDone() {
        for (int last = 0; last < 12; last++) {
            PurseHouse h = new PurseHouse(2);
            for (int l = 0; l < 12; l++) {
                h.link(0, 1, ORDERED);
            }
            h.snap(0);
            for (int l = 0; l < 12; l++) {
                if (l != last) {
                    h.deliver(l, 0);
                }
            }
            t.due("all but link " + last, h.finished(0), false);
            h.deliver(last, 0);
            t.due("with link " + last, h.finished(0), true);
        }
    }

    /** A mint, a melt, an exchange, a bag sent, a bag taken. */
    private void eachEventIsOne() {
        PurseHouse h = Houses.pair();
        h.mint(0, 0, MOST_COINS);
        t.due("a mint", h.events(-1, 0), 1);
        h.melt(0, 0, 7);
        t.due("a melt", h.events(-1, 0), 2);
        h.exchange(0, 0, 1, 7);
        t.due("an exchange", h.events(-1, 0), 3);
        h.bag(0, 0, 7);
        t.due("a bag sent on an ordered link", h.events(-1, 0), 4);
        h.bag(1, 0, 7);
        t.due("a bag sent on a loose link", h.events(-1, 0), 5);
        t.due("none at the end yet", h.events(-1, 1), 0);
        h.deliver(0, 0);
        t.due("a bag taken from an ordered link", h.events(-1, 1), 1);
        h.deliver(1, 0);
        t.due("a bag taken from a loose link", h.events(-1, 1), 2);
        t.due("none at the beginning", h.events(-1, 0), 5);
    }

    /** But for empty ones; nor is a snapshot, a marker, a link, a rate or a refused call one. */
    private void whatIsNoEvent() {
        PurseHouse h = new PurseHouse(2);
        h.link(0, 1, ORDERED);
        h.link(0, 1, LOOSE);
        h.rate(0, 1, 2, 3);
        h.snap(0);
        h.deliver(0, 0);
        h.deliver(1, 0);
        h.mint(0, 0, 0);
        h.melt(0, 0, 1);
        h.exchange(0, 0, 1, 1);
        h.bag(0, 0, 1);
        h.deliver(0, 0);
        h.snap(2);
        t.due("at kiosk 0", h.events(-1, 0), 0);
        t.due("at kiosk 1", h.events(-1, 1), 0);
        t.due("recorded at kiosk 0", h.events(0, 0), 0);
        t.due("recorded at kiosk 1", h.events(0, 1), 0);
        t.due("no kiosk 2", h.events(0, 2), NONE);
    }
}
