/** Each promise by itself: ordinary inputs, the edges that the document names, wrong inputs. */
final class PromisesTest {
    private static final int NONE = PurseHouse.NONE;
    private static final boolean ORDERED = true;
    private static final boolean LOOSE = false;
    private static final int[] NOT_CURRENCIES = {-1, 3, Integer.MIN_VALUE, Integer.MAX_VALUE};
    private static final int[] WRONG_AMOUNTS =
            {0, -1, 1000000001, Integer.MIN_VALUE, Integer.MAX_VALUE};

    private final Checks t = new Checks();

    public static void main(String[] args) {
        PromisesTest test = new PromisesTest();
        test.constants();
        test.promise1NewObject();
        test.promise2Link();
        test.promise3Rate();
        test.promise4Mint();
        test.promise5Melt();
        test.promise6Exchange();
        test.promise7Bag();
        test.promise8DeliverPlaces();
        test.promise8DeliverMarker();
        test.promise8DeliverBagWithMarks();
        test.promise8DeliverEmptyBag();
        test.promise9Snap();
        test.promise9SnapSendsByLink();
        test.promise10And11StockAndTill();
        test.promise12OnLink();
        test.promise13Thing();
        test.promise14Recorded();
        test.promise15FinishedOrdered();
        test.promise15FinishedLoose();
        test.promise15NeedsAllKiosks();
        test.promise16Piece();
        test.promise17RoadOrdered();
        test.promise17RoadLoose();
        test.promise17RoadOfTwoNumbers();
        test.promise18Total();
        test.promise19Minted();
        test.promise20TrueTotal();
        test.promise21Below();
        test.promise22Events();
        test.t.end();
    }

    private void constants() {
        t.due("NONE", PurseHouse.NONE, -1);
    }

    private void promise1NewObject() {
        int[][] asked = {{1, 1}, {2, 2}, {5, 5}, {6, 6}, {0, 1}, {-7, 1}, {7, 6},
            {Integer.MIN_VALUE, 1}, {Integer.MAX_VALUE, 6}};
        for (int[] row : asked) {
            PurseHouse h = new PurseHouse(row[0]);
            String name = "new(" + row[0] + ") ";
            t.due(name + "last kiosk", h.mint(row[1] - 1, 0, 1), true);
            t.due(name + "one more kiosk", h.mint(row[1], 0, 1), false);
        }
        PurseHouse h = new PurseHouse(3);
        for (int k = 0; k < 3; k++) {
            for (int c = 0; c < 3; c++) {
                t.due("new stock", h.stock(k, c), 0);
                t.due("new till", h.till(k, c), 0);
            }
            t.due("new events", h.events(-1, k), 0);
            t.due("new recorded", h.recorded(0, k), false);
        }
        t.due("new onLink", h.onLink(0), NONE);
        t.due("new finished", h.finished(0), false);
        t.due("new trueTotal", h.trueTotal(0), 0);
        t.due("first link", h.link(0, 1, LOOSE), 0);
        t.due("first snap", h.snap(0), 0);
    }

    private void promise2Link() {
        PurseHouse h = new PurseHouse(3);
        int[][] wrong = {{-1, 0}, {0, -1}, {3, 0}, {0, 3}, {1, 1},
            {Integer.MIN_VALUE, 0}, {0, Integer.MAX_VALUE}};
        for (int[] row : wrong) {
            t.due("link wrong", h.link(row[0], row[1], ORDERED), NONE);
        }
        for (int l = 0; l < 12; l++) {
            // Two links may join the same kiosks.
            t.due("link " + l, h.link(l % 3, (l + 1) % 3, l % 2 == 0), l);
        }
        t.due("13th link", h.link(0, 1, LOOSE), NONE);
        t.due("onLink of the 12th", h.onLink(11), 0);
        t.due("onLink of a 13th", h.onLink(12), NONE);

        PurseHouse snapped = new PurseHouse(2);
        snapped.link(0, 1, LOOSE);
        snapped.snap(1);
        t.due("link after a snapshot", snapped.link(1, 0, ORDERED), NONE);
        t.due("no link was made", snapped.onLink(1), NONE);

        PurseHouse refused = new PurseHouse(2);
        refused.snap(2);
        t.due("link after a refused snap", refused.link(1, 0, ORDERED), 0);
    }

    private void promise3Rate() {
        PurseHouse h = new PurseHouse(1);
        h.mint(0, 0, 1000);
        for (int c : NOT_CURRENCIES) {
            t.due("rate from " + c, h.rate(c, 0, 1, 1), false);
            t.due("rate to " + c, h.rate(0, c, 1, 1), false);
        }
        t.due("rate in itself", h.rate(1, 1, 2, 3), false);
        int[] wrong = {0, -1, 1000001, Integer.MIN_VALUE, Integer.MAX_VALUE};
        for (int x : wrong) {
            t.due("rate a " + x, h.rate(0, 1, x, 1), false);
            t.due("rate b " + x, h.rate(0, 1, 1, x), false);
        }
        t.due("exchange at the first rate", h.exchange(0, 0, 1, 10), true);
        t.due("1 / 1 at first", h.stock(0, 1), 10);
        t.due("rate", h.rate(0, 1, 5, 2), true);
        t.due("exchange there", h.exchange(0, 0, 1, 10), true);
        t.due("5 / 2", h.stock(0, 1), 35);
        t.due("exchange back", h.exchange(0, 1, 0, 10), true);
        t.due("the rate back is its own", h.stock(0, 0), 990);
        t.due("another pair", h.exchange(0, 0, 2, 10), true);
        t.due("the rate of another pair is its own", h.stock(0, 2), 10);
        t.due("rate changed", h.rate(0, 1, 1, 1000000), true);
        t.due("exchange for nothing", h.exchange(0, 0, 1, 10), true);
        t.due("rounded down to 0", h.stock(0, 1), 25);
        t.due("rate largest", h.rate(0, 1, 1000000, 1), true);
        t.due("exchange largest", h.exchange(0, 0, 1, 1), true);
        t.due("1000000 / 1", h.stock(0, 1), 1000025);
    }

    private void promise4Mint() {
        PurseHouse h = new PurseHouse(2);
        t.due("mint", h.mint(1, 2, 5), true);
        t.due("mint again", h.mint(1, 2, 1), true);
        t.due("mint most", h.mint(1, 2, 1000000000), true);
        t.due("minted stock", h.stock(1, 2), 1000000006);
        t.due("another currency", h.stock(1, 1), 0);
        t.due("another kiosk", h.stock(0, 2), 0);
        t.due("no till", h.till(1, 2), 0);
        for (int amount : WRONG_AMOUNTS) {
            t.due("mint of " + amount, h.mint(1, 2, amount), false);
        }
        for (int c : NOT_CURRENCIES) {
            t.due("mint currency " + c, h.mint(1, c, 5), false);
        }
        t.due("mint kiosk -1", h.mint(-1, 0, 5), false);
        t.due("mint kiosk 2", h.mint(2, 0, 5), false);
        t.due("stock unchanged", h.stock(1, 2), 1000000006);
        t.due("events", h.events(-1, 1), 3);
        for (int i = 0; i < 10; i++) {
            h.mint(0, 0, 1000000000);
        }
        t.due("a stock beyond an int", h.stock(0, 0), 10000000000L);
    }

    private void promise5Melt() {
        PurseHouse h = new PurseHouse(2);
        h.mint(0, 1, 10);
        t.due("melt more than there is", h.melt(0, 1, 11), false);
        t.due("melt another currency", h.melt(0, 0, 1), false);
        t.due("melt at another kiosk", h.melt(1, 1, 1), false);
        for (int amount : WRONG_AMOUNTS) {
            t.due("melt of " + amount, h.melt(0, 1, amount), false);
        }
        for (int c : NOT_CURRENCIES) {
            t.due("melt currency " + c, h.melt(0, c, 1), false);
        }
        t.due("melt kiosk -1", h.melt(-1, 1, 1), false);
        t.due("melt kiosk 2", h.melt(2, 1, 1), false);
        t.due("melt", h.melt(0, 1, 4), true);
        t.due("melted stock", h.stock(0, 1), 6);
        t.due("melt all", h.melt(0, 1, 6), true);
        t.due("nothing left", h.stock(0, 1), 0);
        t.due("melt of nothing", h.melt(0, 1, 1), false);
        t.due("no till", h.till(0, 1), 0);
        t.due("events", h.events(-1, 0), 3);
        h.mint(1, 0, 1000000000);
        h.mint(1, 0, 1000000000);
        t.due("melt over the most", h.melt(1, 0, 1000000001), false);
        t.due("melt the most", h.melt(1, 0, 1000000000), true);
    }

    private void promise6Exchange() {
        PurseHouse h = new PurseHouse(2);
        h.mint(0, 0, 100);
        h.rate(0, 2, 2, 3);
        t.due("exchange more than there is", h.exchange(0, 0, 2, 101), false);
        t.due("exchange for the same", h.exchange(0, 0, 0, 1), false);
        for (int amount : WRONG_AMOUNTS) {
            t.due("exchange of " + amount, h.exchange(0, 0, 2, amount), false);
        }
        for (int c : NOT_CURRENCIES) {
            t.due("exchange of currency " + c, h.exchange(0, c, 2, 1), false);
            t.due("exchange for currency " + c, h.exchange(0, 0, c, 1), false);
        }
        t.due("exchange kiosk -1", h.exchange(-1, 0, 2, 1), false);
        t.due("exchange kiosk 2", h.exchange(2, 0, 2, 1), false);
        t.due("exchange at a kiosk without", h.exchange(1, 0, 2, 1), false);
        t.due("exchange", h.exchange(0, 0, 2, 100), true);
        t.due("stock given", h.stock(0, 0), 0);
        t.due("till got", h.till(0, 0), 100);
        t.due("stock got", h.stock(0, 2), 66);
        t.due("till given", h.till(0, 2), -66);
        t.due("third stock", h.stock(0, 1), 0);
        t.due("third till", h.till(0, 1), 0);
        t.due("events", h.events(-1, 0), 2);
        h.mint(1, 1, 1000000000);
        h.rate(1, 0, 1000000, 1);
        t.due("largest exchange", h.exchange(1, 1, 0, 1000000000), true);
        t.due("without running over", h.stock(1, 0), 1000000000000000L);
        t.due("till without running over", h.till(1, 0), -1000000000000000L);
        t.due("exchange over the most", h.exchange(1, 0, 1, 1000000001), false);
    }

    private void promise7Bag() {
        PurseHouse h = new PurseHouse(2);
        h.link(0, 1, LOOSE);
        h.link(0, 1, ORDERED);
        h.mint(0, 1, 40);
        for (int amount : WRONG_AMOUNTS) {
            t.due("bag of " + amount, h.bag(0, 1, amount), false);
        }
        for (int c : NOT_CURRENCIES) {
            t.due("bag currency " + c, h.bag(0, c, 1), false);
        }
        t.due("bag link -1", h.bag(-1, 1, 1), false);
        t.due("bag link 2", h.bag(2, 1, 1), false);
        t.due("bag of more than there is", h.bag(0, 1, 41), false);
        t.due("bag of another currency", h.bag(0, 0, 1), false);
        t.due("events before", h.events(-1, 0), 1);
        for (int link = 0; link < 2; link++) {
            h.snap(0);
            for (int i = 0; i < 16; i++) {
                t.due("bag " + i, h.bag(link, 1, 1), true);
            }
            t.due("17th bag", h.bag(link, 1, 1), false);
        }
        t.due("stock after", h.stock(0, 1), 8);
        t.due("16 bags and two empty ones", h.onLink(0), 18);
        t.due("16 bags and two markers", h.onLink(1), 18);
        t.due("events after", h.events(-1, 0), 33);
        t.due("no event at the other end", h.events(-1, 1), 0);
        t.due("an empty one is taken", h.deliver(0, 0), true);
        t.due("still 16 bags", h.bag(0, 1, 1), false);
        t.due("a bag is taken", h.deliver(0, 0), true);
        t.due("15 bags", h.bag(0, 1, 8), true);
        t.due("all of the stock", h.stock(0, 1), 0);
    }

    private void promise8DeliverPlaces() {
        PurseHouse h = new PurseHouse(2);
        h.link(0, 1, ORDERED);
        h.link(0, 1, LOOSE);
        h.mint(0, 0, 100);
        for (int link = 0; link < 2; link++) {
            t.due("nothing there", h.deliver(link, 0), false);
            h.bag(link, 0, 1);
            h.bag(link, 0, 2);
            h.bag(link, 0, 4);
            t.due("place -1", h.deliver(link, -1), false);
            t.due("place 3", h.deliver(link, 3), false);
            t.due("place most", h.deliver(link, Integer.MAX_VALUE), false);
        }
        t.due("link -1", h.deliver(-1, 0), false);
        t.due("link 2", h.deliver(2, 0), false);
        t.due("ordered place 1", h.deliver(0, 1), false);
        t.due("no events yet", h.events(-1, 1), 0);
        t.due("ordered place 0", h.deliver(0, 0), true);
        t.due("its amount", h.stock(1, 0), 1);
        t.due("the next is first", h.thing(0, 0, 2), 2);
        t.due("loose place 1", h.deliver(1, 1), true);
        t.due("its amount", h.stock(1, 0), 3);
        t.due("the others keep their row", h.thing(1, 0, 2), 1);
        t.due("the others keep their row", h.thing(1, 1, 2), 4);
        t.due("loose last place", h.deliver(1, 1), true);
        t.due("its amount", h.stock(1, 0), 7);
        t.due("one is left", h.onLink(1), 1);
        t.due("events", h.events(-1, 1), 3);
    }

    private void promise8DeliverMarker() {
        PurseHouse h = new PurseHouse(3);
        h.link(0, 1, ORDERED);
        h.link(1, 2, ORDERED);
        h.link(2, 1, ORDERED);
        h.mint(0, 0, 9);
        h.snap(0);
        t.due("not yet", h.recorded(0, 1), false);
        t.due("marker", h.deliver(0, 0), true);
        t.due("recorded by the marker", h.recorded(0, 1), true);
        t.due("its own marker went on", h.thing(1, 0, 0), 3);
        t.due("a marker is no event", h.events(-1, 1), 0);
        h.deliver(1, 0);
        t.due("marker back", h.onLink(2), 1);
        h.deliver(2, 0);
        t.due("recorded once: no further marker", h.onLink(1), 0);
    }

    private void promise8DeliverBagWithMarks() {
        PurseHouse h = new PurseHouse(3);
        h.link(0, 1, LOOSE);
        h.link(1, 2, LOOSE);
        h.link(1, 2, ORDERED);
        h.mint(0, 0, 10);
        h.mint(1, 0, 100);
        h.snap(2);
        h.snap(0);
        h.snap(2);
        h.snap(0);
        h.bag(0, 0, 7);
        t.due("marks", h.thing(0, 2, 3), 0b1010);
        t.due("the bag before the empty ones", h.deliver(0, 2), true);
        t.due("0 is not in the marks", h.recorded(0, 1), false);
        t.due("1 is in the marks", h.recorded(1, 1), true);
        t.due("2 is not in the marks", h.recorded(2, 1), false);
        t.due("3 is in the marks", h.recorded(3, 1), true);
        t.due("recorded before the amount came", h.piece(1, 1, 0, 0), 100);
        t.due("recorded before the event", h.events(3, 1), 1);
        t.due("then the amount came", h.stock(1, 0), 107);
        t.due("and the event", h.events(-1, 1), 2);
        t.due("not on the road", h.road(1, 0, 0), 0);
        t.due("an empty bag for each", h.onLink(1), 2);
        t.due("the least first: marks as they were then", h.thing(1, 0, 3), 0b0010);
        t.due("then with both", h.thing(1, 1, 3), 0b1010);
        t.due("a marker for each", h.onLink(2), 2);
        t.due("the least first", h.thing(2, 0, 2), 1);
        t.due("then the other", h.thing(2, 1, 2), 3);
    }

    private void promise8DeliverEmptyBag() {
        PurseHouse h = new PurseHouse(2);
        h.link(0, 1, LOOSE);
        h.snap(0);
        h.snap(0);
        t.due("the later empty bag", h.deliver(0, 1), true);
        t.due("records all of its marks", h.recorded(0, 1) && h.recorded(1, 1), true);
        t.due("no event", h.events(-1, 1), 0);
        t.due("the other one", h.deliver(0, 0), true);
        t.due("nothing is left", h.onLink(0), 0);
    }

    private void promise9Snap() {
        PurseHouse h = new PurseHouse(2);
        t.due("snap kiosk -1", h.snap(-1), NONE);
        t.due("snap kiosk 2", h.snap(2), NONE);
        t.due("snap kiosk least", h.snap(Integer.MIN_VALUE), NONE);
        for (int n = 0; n < 16; n++) {
            t.due("snap", h.snap(n % 2), n);
            t.due("recorded there", h.recorded(n, n % 2), true);
            t.due("not at the other", h.recorded(n, 1 - n % 2), false);
        }
        t.due("17th snap", h.snap(0), NONE);
        t.due("no number 16", h.recorded(16, 0), false);
        t.due("no event", h.events(-1, 0), 0);
    }

    private void promise9SnapSendsByLink() {
        PurseHouse h = new PurseHouse(3);
        h.link(0, 1, ORDERED);
        h.link(0, 2, LOOSE);
        h.link(1, 0, ORDERED);
        h.link(1, 0, LOOSE);
        h.mint(0, 0, 5);
        h.bag(0, 0, 2);
        h.bag(1, 0, 3);
        h.snap(0);
        t.due("behind the bag", h.thing(0, 0, 0), 1);
        t.due("a marker on the ordered one", h.thing(0, 1, 0), 3);
        t.due("behind the bag", h.thing(1, 0, 0), 1);
        t.due("an empty bag on the loose one", h.thing(1, 1, 0), 2);
        t.due("nothing on an ordered link into it", h.onLink(2), 0);
        t.due("nothing on a loose link into it", h.onLink(3), 0);
    }

    private void promise10And11StockAndTill() {
        PurseHouse h = new PurseHouse(2);
        h.mint(1, 0, 10);
        h.exchange(1, 0, 2, 3);
        t.due("stock", h.stock(1, 0), 7);
        t.due("stock of the other", h.stock(1, 2), 3);
        t.due("till", h.till(1, 0), 3);
        t.due("till below 0", h.till(1, 2), -3);
        t.due("another kiosk's stock", h.stock(0, 0), 0);
        t.due("another kiosk's till", h.till(0, 0), 0);
        for (int c : NOT_CURRENCIES) {
            t.due("stock currency " + c, h.stock(1, c), 0);
            t.due("till currency " + c, h.till(1, c), 0);
        }
        int[] wrong = {-1, 2, 6, Integer.MIN_VALUE, Integer.MAX_VALUE};
        for (int k : wrong) {
            t.due("stock kiosk " + k, h.stock(k, 0), 0);
            t.due("till kiosk " + k, h.till(k, 0), 0);
        }
    }

    private void promise12OnLink() {
        PurseHouse h = new PurseHouse(2);
        h.link(0, 1, LOOSE);
        h.link(0, 1, ORDERED);
        h.mint(0, 0, 5);
        t.due("at first", h.onLink(0), 0);
        h.bag(0, 0, 1);
        h.bag(1, 0, 1);
        h.snap(0);
        t.due("a bag and an empty one", h.onLink(0), 2);
        t.due("a bag and a marker", h.onLink(1), 2);
        h.deliver(0, 1);
        t.due("one taken", h.onLink(0), 1);
        t.due("no link -1", h.onLink(-1), NONE);
        t.due("no link 2", h.onLink(2), NONE);
        t.due("no link most", h.onLink(Integer.MAX_VALUE), NONE);
    }

    private void promise13Thing() {
        PurseHouse h = new PurseHouse(2);
        h.link(0, 1, LOOSE);
        h.link(0, 1, ORDERED);
        h.mint(0, 2, 100);
        h.bag(0, 2, 9);
        h.snap(0);
        h.snap(1);
        h.snap(0);
        h.bag(0, 2, 8);
        h.bag(1, 2, 7);
        // Rows of: link, place, then what 0 .. 3.
        int[][] want = {{0, 0, 1, 2, 9, 0}, {0, 1, 2, NONE, 0, 0b001}, {0, 2, 2, NONE, 0, 0b101},
            {0, 3, 1, 2, 8, 0b101}, {1, 0, 3, NONE, 0, 0}, {1, 1, 3, NONE, 2, 0},
            {1, 2, 1, 2, 7, 0b101}};
        for (int[] row : want) {
            for (int what = 0; what < 4; what++) {
                String call = "thing(" + row[0] + ", " + row[1] + ", " + what + ")";
                t.due(call, h.thing(row[0], row[1], what), row[2 + what]);
            }
        }
        int[] wrongWhats = {-1, 4, Integer.MIN_VALUE, Integer.MAX_VALUE};
        for (int what : wrongWhats) {
            t.dueThrow("thing what " + what, () -> h.thing(0, 0, what), Checks.ILLEGAL);
            t.dueThrow("no place, what " + what, () -> h.thing(0, 4, what), Checks.NO_SUCH);
            t.dueThrow("no link, what " + what, () -> h.thing(2, 0, what), Checks.NO_SUCH);
        }
        t.dueThrow("place -1", () -> h.thing(0, -1, 0), Checks.NO_SUCH);
        t.dueThrow("place 4", () -> h.thing(0, 4, 0), Checks.NO_SUCH);
        t.dueThrow("link -1", () -> h.thing(-1, 0, 0), Checks.NO_SUCH);
        t.dueThrow("link 2", () -> h.thing(2, 0, 0), Checks.NO_SUCH);
    }

    private void promise14Recorded() {
        PurseHouse h = new PurseHouse(2);
        t.due("before any", h.recorded(0, 0), false);
        h.link(0, 1, ORDERED);
        h.snap(0);
        t.due("starter", h.recorded(0, 0), true);
        t.due("other", h.recorded(0, 1), false);
        h.deliver(0, 0);
        t.due("other now", h.recorded(0, 1), true);
        int[] wrong = {-1, 2, 32, Integer.MIN_VALUE, Integer.MAX_VALUE};
        for (int x : wrong) {
            t.due("recorded number " + x, h.recorded(x, 0), false);
            t.due("recorded kiosk " + x, h.recorded(0, x), false);
        }
        t.due("number 1", h.recorded(1, 0), false);
    }

    private void promise15FinishedOrdered() {
        PurseHouse h = new PurseHouse(2);
        h.link(0, 1, ORDERED);
        h.link(1, 0, ORDERED);
        h.mint(0, 0, 1);
        h.bag(0, 0, 1);
        h.snap(0);
        t.due("started", h.finished(0), false);
        h.deliver(0, 0);
        h.deliver(0, 0);
        t.due("all recorded, one link not done", h.finished(0), false);
        h.deliver(1, 0);
        t.due("all done", h.finished(0), true);
        h.snap(1);
        t.due("a later one does not change it", h.finished(0), true);
        t.due("the later one", h.finished(1), false);
        int[] wrong = {-1, 2, 16, 32, Integer.MIN_VALUE, Integer.MAX_VALUE};
        for (int n : wrong) {
            t.due("finished " + n, h.finished(n), false);
        }
    }

    private void promise15FinishedLoose() {
        PurseHouse h = new PurseHouse(2);
        h.link(0, 1, LOOSE);
        h.link(1, 0, LOOSE);
        h.mint(0, 0, 10);
        h.mint(1, 0, 10);
        h.bag(0, 0, 1);
        h.bag(1, 0, 2);
        h.snap(0);
        h.bag(0, 0, 4);
        t.due("started", h.finished(0), false);
        t.due("the empty bag overtakes", h.deliver(0, 1), true);
        t.due("both recorded", h.recorded(0, 0) && h.recorded(0, 1), true);
        t.due("a bag from before on each", h.finished(0), false);
        h.deliver(0, 0);
        t.due("a bag from before on one", h.finished(0), false);
        h.deliver(1, 0);
        t.due("only a later bag and an empty one are there", h.finished(0), true);
        t.due("the later bag", h.onLink(0), 1);
        t.due("the empty one", h.onLink(1), 1);
        h.bag(1, 0, 1);
        t.due("bags of later are not asked for", h.finished(0), true);
    }

    private void promise15NeedsAllKiosks() {
        PurseHouse apart = new PurseHouse(2);
        apart.snap(0);
        t.due("a kiosk that nothing reaches", apart.finished(0), false);
        PurseHouse alone = new PurseHouse(1);
        alone.snap(0);
        t.due("one kiosk alone", alone.finished(0), true);
        PurseHouse oneWay = new PurseHouse(2);
        oneWay.link(0, 1, LOOSE);
        oneWay.snap(0);
        t.due("the other has not recorded", oneWay.finished(0), false);
        oneWay.deliver(0, 0);
        t.due("one way is enough", oneWay.finished(0), true);
        oneWay.snap(1);
        t.due("against the way", oneWay.finished(1), false);
    }

    private void promise16Piece() {
        PurseHouse h = new PurseHouse(2);
        h.mint(0, 0, 10);
        h.mint(0, 1, 20);
        h.exchange(0, 1, 0, 5);
        h.snap(0);
        h.mint(0, 0, 100);
        h.exchange(0, 0, 1, 50);
        h.snap(0);
        t.due("stock at 0", h.piece(0, 0, 0, 0), 15);
        t.due("till at 0", h.piece(0, 0, 0, 1), -5);
        t.due("stock of 1 at 0", h.piece(0, 0, 1, 0), 15);
        t.due("till of 1 at 0", h.piece(0, 0, 1, 1), 5);
        t.due("stock of 2 at 0", h.piece(0, 0, 2, 0), 0);
        t.due("stock at 1", h.piece(1, 0, 0, 0), 65);
        t.due("till at 1", h.piece(1, 0, 0, 1), 45);
        t.due("till of 1 at 1", h.piece(1, 0, 1, 1), -45);
        int[] wrongWhats = {-1, 2, Integer.MIN_VALUE, Integer.MAX_VALUE};
        for (int what : wrongWhats) {
            t.dueThrow("what " + what, () -> h.piece(0, 0, 0, what), Checks.ILLEGAL);
            t.dueThrow("not recorded, what " + what, () -> h.piece(0, 1, 0, what), Checks.NO_SUCH);
        }
        int[] wrong = {-1, 16, 32, Integer.MIN_VALUE, Integer.MAX_VALUE};
        for (int x : wrong) {
            t.dueThrow("number " + x, () -> h.piece(x, 0, 0, 0), Checks.NO_SUCH);
            t.dueThrow("kiosk " + x, () -> h.piece(0, x, 0, 0), Checks.NO_SUCH);
            t.dueThrow("currency " + x, () -> h.piece(0, 0, x, 0), Checks.NO_SUCH);
        }
        t.dueThrow("number 2", () -> h.piece(2, 0, 0, 0), Checks.NO_SUCH);
        t.dueThrow("kiosk 2", () -> h.piece(0, 2, 0, 0), Checks.NO_SUCH);
        t.dueThrow("currency 3", () -> h.piece(0, 0, 3, 0), Checks.NO_SUCH);
        t.dueThrow("not recorded", () -> h.piece(0, 1, 0, 0), Checks.NO_SUCH);
    }

    private void promise17RoadOrdered() {
        PurseHouse h = new PurseHouse(2);
        h.link(0, 1, ORDERED);
        h.mint(0, 0, 1000);
        h.mint(0, 1, 1000);
        h.bag(0, 0, 1);
        h.bag(0, 0, 2);
        h.bag(0, 1, 4);
        h.deliver(0, 0);
        h.snap(1);
        t.due("taken before it recorded", h.road(0, 0, 0), 0);
        h.deliver(0, 0);
        t.due("taken after it recorded", h.road(0, 0, 0), 2);
        t.due("another currency", h.road(0, 0, 1), 0);
        h.deliver(0, 0);
        t.due("the other currency now", h.road(0, 0, 1), 4);
        t.due("the first one stays", h.road(0, 0, 0), 2);
        t.due("no number 1 yet", h.road(1, 0, 0), 0);
        h.snap(0);
        h.bag(0, 0, 8);
        h.deliver(0, 0);
        h.deliver(0, 0);
        t.due("no marker of 0 was taken", h.road(0, 0, 0), 10);
        t.due("behind the marker of 1", h.road(1, 0, 0), 0);
        int[] wrong = {-1, 16, 32, Integer.MIN_VALUE, Integer.MAX_VALUE};
        for (int x : wrong) {
            t.due("road number " + x, h.road(x, 0, 0), 0);
            t.due("road link " + x, h.road(0, x, 0), 0);
            t.due("road currency " + x, h.road(0, 0, x), 0);
        }
        t.due("road number 2", h.road(2, 0, 0), 0);
        t.due("road link 1", h.road(0, 1, 0), 0);
        t.due("road currency 3", h.road(0, 0, 3), 0);
    }

    private void promise17RoadLoose() {
        PurseHouse h = new PurseHouse(2);
        h.link(0, 1, LOOSE);
        h.mint(0, 0, 1000);
        h.bag(0, 0, 1);
        h.bag(0, 0, 2);
        h.bag(0, 0, 4);
        h.deliver(0, 0);
        h.snap(0);
        h.bag(0, 0, 8);
        h.deliver(0, 0);
        t.due("taken before it recorded", h.road(0, 0, 0), 0);
        t.due("the empty bag", h.deliver(0, 1), true);
        t.due("the later bag", h.deliver(0, 1), true);
        t.due("with the number in its marks", h.road(0, 0, 0), 0);
        t.due("the earlier bag", h.deliver(0, 0), true);
        t.due("without it", h.road(0, 0, 0), 4);
    }

    private void promise17RoadOfTwoNumbers() {
        PurseHouse h = new PurseHouse(2);
        h.link(0, 1, LOOSE);
        h.mint(0, 0, 1000);
        h.snap(1);
        h.bag(0, 0, 1);
        h.snap(0);
        h.bag(0, 0, 2);
        t.due("the bag with 1 in its marks", h.deliver(0, 2), true);
        t.due("on the road of 0", h.road(0, 0, 0), 2);
        t.due("not on that of 1", h.road(1, 0, 0), 0);
        h.deliver(0, 0);
        t.due("both on the road of 0", h.road(0, 0, 0), 3);
        t.due("the earlier on that of 1", h.road(1, 0, 0), 1);
    }

    private void promise18Total() {
        PurseHouse h = new PurseHouse(2);
        h.link(0, 1, ORDERED);
        h.link(1, 0, LOOSE);
        h.mint(0, 0, 100);
        h.mint(1, 0, 50);
        h.exchange(1, 0, 1, 10);
        h.bag(0, 0, 30);
        h.bag(1, 0, 20);
        h.snap(0);
        t.dueThrow("not finished", () -> h.total(0, 0), Checks.NO_SUCH);
        h.mint(0, 0, 1000);
        h.deliver(1, 0);
        h.deliver(0, 0);
        h.deliver(0, 0);
        h.melt(1, 0, 7);
        t.due("finished", h.finished(0), true);
        t.due("a road is part of it", h.road(0, 1, 0), 20);
        t.due("total", h.total(0, 0), 150);
        t.due("stock and till", h.total(0, 1), 0);
        t.due("none", h.total(0, 2), 0);
        t.due("now it is another", h.trueTotal(0), 1143);
        for (int c : NOT_CURRENCIES) {
            t.dueThrow("total currency " + c, () -> h.total(0, c), Checks.NO_SUCH);
        }
        int[] wrong = {-1, 1, 16, 32, Integer.MIN_VALUE, Integer.MAX_VALUE};
        for (int n : wrong) {
            t.dueThrow("total number " + n, () -> h.total(n, 0), Checks.NO_SUCH);
        }
    }

    private void promise19Minted() {
        PurseHouse h = new PurseHouse(3);
        h.link(0, 1, ORDERED);
        h.mint(0, 0, 100);
        h.melt(0, 0, 1);
        h.mint(1, 0, 10);
        h.mint(2, 0, 5000);
        h.exchange(0, 0, 1, 20);
        h.bag(0, 0, 30);
        h.snap(0);
        h.mint(0, 0, 700);
        t.due("of those that have recorded", h.minted(0, 0), 99);
        h.mint(1, 0, 5);
        h.deliver(0, 0);
        h.deliver(0, 0);
        h.melt(1, 0, 2);
        t.due("with the next one, up to then", h.minted(0, 0), 114);
        t.due("an exchange mints nothing", h.minted(0, 1), 0);
        h.mint(1, 2, 4);
        h.bag(0, 0, 1);
        h.snap(1);
        t.due("the next number", h.minted(1, 0), 13);
        t.due("the next number, currency 2", h.minted(1, 2), 4);
        int[] wrong = {-1, 3, 16, 32, Integer.MIN_VALUE, Integer.MAX_VALUE};
        for (int x : wrong) {
            t.due("minted number " + x, h.minted(x, 0), 0);
            t.due("minted currency " + x, h.minted(0, x), 0);
        }

        PurseHouse less = new PurseHouse(2);
        less.link(0, 1, ORDERED);
        less.mint(0, 0, 10);
        less.bag(0, 0, 10);
        less.deliver(0, 0);
        less.melt(1, 0, 6);
        less.snap(1);
        t.due("melted more than was minted", less.minted(0, 0), -6);
    }

    private void promise20TrueTotal() {
        PurseHouse h = new PurseHouse(2);
        h.link(0, 1, ORDERED);
        h.link(0, 1, LOOSE);
        h.mint(0, 0, 100);
        h.mint(1, 0, 10);
        h.mint(1, 1, 3);
        t.due("stocks", h.trueTotal(0), 110);
        h.exchange(0, 0, 1, 40);
        t.due("stocks and tills", h.trueTotal(0), 110);
        t.due("tills below 0", h.trueTotal(1), 3);
        h.bag(0, 0, 7);
        h.bag(1, 1, 8);
        h.snap(0);
        h.snap(0);
        t.due("bags on links, no markers", h.trueTotal(0), 110);
        t.due("bags on links, no empty ones", h.trueTotal(1), 3);
        h.deliver(0, 0);
        h.melt(1, 0, 17);
        t.due("less what is melted", h.trueTotal(0), 93);
        t.due("none", h.trueTotal(2), 0);
        for (int c : NOT_CURRENCIES) {
            t.due("trueTotal currency " + c, h.trueTotal(c), 0);
        }
    }

    private void promise21Below() {
        PurseHouse h = new PurseHouse(3);
        h.link(2, 1, ORDERED);
        h.mint(0, 0, 1);
        h.mint(1, 0, 20);
        h.mint(2, 0, 30);
        t.due("before any snapshot", h.below(0, 0, 100), NONE);
        h.snap(2);
        h.melt(2, 0, 29);
        t.due("only those that have recorded", h.below(0, 0, 100), 2);
        t.due("what was recorded, not what is", h.below(0, 0, 30), NONE);
        t.due("just below", h.below(0, 0, 31), 2);
        h.deliver(0, 0);
        t.due("the least kiosk", h.below(0, 0, 100), 1);
        t.due("the recorded one", h.below(0, 0, 21), 1);
        t.due("below it", h.below(0, 0, 20), NONE);
        t.due("another currency", h.below(0, 1, 1), 1);
        t.due("least x", h.below(0, 0, Long.MIN_VALUE), NONE);
        t.due("most x", h.below(0, 0, Long.MAX_VALUE), 1);
        t.due("beyond an int", h.below(0, 0, 1L << 32), 1);
        int[] wrong = {-1, 3, 16, 32, Integer.MIN_VALUE, Integer.MAX_VALUE};
        for (int x : wrong) {
            t.due("below number " + x, h.below(x, 0, 100), NONE);
            t.due("below currency " + x, h.below(0, x, 100), NONE);
        }
        t.due("below number 1", h.below(1, 0, 100), NONE);
    }

    private void promise22Events() {
        PurseHouse h = new PurseHouse(2);
        h.link(0, 1, ORDERED);
        h.link(0, 1, LOOSE);
        h.mint(0, 0, 100);
        h.melt(0, 0, 1);
        h.exchange(0, 0, 1, 1);
        h.rate(0, 1, 2, 1);
        h.bag(0, 0, 1);
        t.due("mint, melt, exchange, bag", h.events(-1, 0), 4);
        t.due("not at the other", h.events(-1, 1), 0);
        h.deliver(0, 0);
        t.due("a bag taken", h.events(-1, 1), 1);
        t.due("is none of the sender", h.events(-1, 0), 4);
        h.snap(0);
        h.mint(0, 0, 1);
        t.due("when it recorded", h.events(0, 0), 4);
        t.due("now", h.events(-1, 0), 5);
        t.due("has not recorded", h.events(0, 1), NONE);
        h.deliver(0, 0);
        h.deliver(1, 0);
        t.due("markers and empty bags are none", h.events(-1, 1), 1);
        t.due("recorded now", h.events(0, 1), 1);
        t.due("n far below 0", h.events(Integer.MIN_VALUE, 0), 5);
        t.due("no number 1", h.events(1, 0), NONE);
        int[] wrong = {16, 32, Integer.MAX_VALUE};
        for (int n : wrong) {
            t.due("events number " + n, h.events(n, 0), NONE);
        }
        int[] noKiosks = {-1, 2, Integer.MIN_VALUE, Integer.MAX_VALUE};
        for (int k : noKiosks) {
            t.due("events kiosk " + k, h.events(0, k), NONE);
            t.due("events now kiosk " + k, h.events(-1, k), NONE);
        }
    }
}
