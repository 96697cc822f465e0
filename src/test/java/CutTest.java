import java.util.ArrayList;
import java.util.List;

/**
 * The document's first line: each finished snapshot is a state that could have held at once. Of
 * made-up runs, what each kiosk did until it recorded is done again at a new house that takes no
 * snapshot: none of it may be refused there, and that house must come to what the snapshot has.
 */
final class CutTest {
    private static final int RUNS = 600;
    private static final int STEPS = 70;
    private static final int MOST_SNAPS = 2;
    /** So many bags are sent on a link in all, so that no road has more than a link can hold. */
    private static final int MOST_SENT = 16;
    /** Bags have amounts from here on, each another one: neither markers nor empty ones do. */
    private static final int LEAST_BAG = 100;
    /** Far more than are needed to take all: a broken house must not keep the test from ending. */
    private static final int MOST_ROUNDS = 60;

    private enum Deed { MINT, MELT, EXCHANGE, SEND, TAKE }

    /** An event, by the call that made it; at is its place among those of its kiosk. */
    private record Event(Deed deed, int kiosk, int at, int link, int c, int d, int amount) { }

    private record Way(int from, int to, boolean ordered) { }

    private final Checks t = new Checks();
    private final Dice dice = new Dice(16);
    private int coinsOnRoads = 0;
    private int cutsAcrossTime = 0;

    // Of the run under way.
    private String name;
    private PurseHouse house;
    private int kiosks;
    private int snaps;
    private int bags;
    private final List<Way> ways = new ArrayList<>();
    private final List<Event> events = new ArrayList<>();
    private int[] eventCounts;
    private int[] sentOn;
    private boolean[] checked;

    public static void main(String[] args) {
        CutTest test = new CutTest();
        for (int run = 0; run < RUNS; run++) {
            test.run(run);
        }
        // Snapshots of what did hold at one time, or with nothing under way, would prove little.
        test.t.due("many roads with coins", test.coinsOnRoads > 500, true);
        test.t.due("many cuts across time", test.cutsAcrossTime > 500, true);
        test.t.end();
    }

    private void run(int run) {
        name = "run " + run + ", ";
        makeRun();
        for (int step = 0; step < STEPS; step++) {
            oneStep();
        }
        takeAll();
        for (int n = 0; n < snaps; n++) {
            t.due(name + "snapshot " + n + " finished when all was taken", checked[n], true);
        }
    }

    /** A ring, so that each snapshot reaches all, and some links more. */
    private void makeRun() {
        kiosks = 2 + dice.pick(4);
        snaps = 0;
        bags = 0;
        events.clear();
        eventCounts = new int[kiosks];
        checked = new boolean[MOST_SNAPS];
        ways.clear();
        for (int k = 0; k < kiosks; k++) {
            ways.add(new Way(k, (k + 1) % kiosks, dice.pick(2) == 0));
        }
        int more = dice.pick(5);
        for (int i = 0; i < more; i++) {
            int from = dice.pick(kiosks);
            int to = (from + 1 + dice.pick(kiosks - 1)) % kiosks;
            ways.add(new Way(from, to, dice.pick(2) == 0));
        }
        sentOn = new int[ways.size()];
        house = newHouse();
        for (int k = 0; k < kiosks; k++) {
            for (int c = 0; c < 3; c++) {
                happens(new Event(Deed.MINT, k, eventCounts[k], 0, c, 0, 1000));
            }
        }
    }

    /** The rates are the same all through a run: they are of no kiosk. */
    private PurseHouse newHouse() {
        PurseHouse h = new PurseHouse(kiosks);
        for (Way way : ways) {
            h.link(way.from, way.to, way.ordered);
        }
        h.rate(0, 1, 3, 2);
        h.rate(1, 2, 2, 7);
        h.rate(2, 0, 5, 1);
        return h;
    }

    private void oneStep() {
        int what = dice.pick(20);
        int kiosk = dice.pick(kiosks);
        int c = dice.pick(3);
        int d = (c + 1 + dice.pick(2)) % 3;
        int amount = 1 + dice.pick(40);
        if (what < 4) {
            Deed deed = what < 1 ? Deed.MINT : what < 2 ? Deed.MELT : Deed.EXCHANGE;
            happens(new Event(deed, kiosk, eventCounts[kiosk], 0, c, d, amount));
        } else if (what < 10) {
            send(dice.pick(ways.size()), c);
        } else if (what < 19) {
            take(dice.pick(ways.size()));
        } else if (snaps < MOST_SNAPS) {
            t.due("snap", house.snap(kiosk), snaps);
            snaps++;
        }
    }

    private void send(int link, int c) {
        if (sentOn[link] < MOST_SENT) {
            int from = ways.get(link).from;
            sentOn[link]++;
            happens(new Event(Deed.SEND, from, eventCounts[from], link, c, 0, LEAST_BAG + bags));
            bags++;
        }
    }

    /** Whether there was something to take. */
    private boolean take(int link) {
        int size = house.onLink(link);
        if (size == 0) {
            return false;
        }
        int i = ways.get(link).ordered ? 0 : dice.pick(size);
        int amount = house.thing(link, i, 2);
        t.due("deliver", house.deliver(link, i), true);
        if (amount >= LEAST_BAG) {
            int to = ways.get(link).to;
            events.add(new Event(Deed.TAKE, to, eventCounts[to], link, 0, 0, amount));
            eventCounts[to]++;
        }
        checkFinished();
        return true;
    }

    /** Each as soon as it is finished: what comes later must not be needed. */
    private void checkFinished() {
        for (int n = 0; n < snaps; n++) {
            if (!checked[n] && house.finished(n)) {
                checked[n] = true;
                checkCut(n);
            }
        }
    }

    private void takeAll() {
        boolean more = true;
        for (int round = 0; more && round < MOST_ROUNDS; round++) {
            more = false;
            for (int link = 0; link < ways.size(); link++) {
                more |= take(link);
            }
        }
    }

    private void happens(Event e) {
        if (isDone(house, e)) {
            events.add(e);
            eventCounts[e.kiosk]++;
        }
    }

    private static boolean isDone(PurseHouse h, Event e) {
        switch (e.deed) {
            case MINT:
                return h.mint(e.kiosk, e.c, e.amount);
            case MELT:
                return h.melt(e.kiosk, e.c, e.amount);
            case EXCHANGE:
                return h.exchange(e.kiosk, e.c, e.d, e.amount);
            case SEND:
                return h.bag(e.link, e.c, e.amount);
            default:
                return h.deliver(e.link, placeOf(h, e.link, e.amount));
        }
    }

    /** Where the bag of an amount is on a link; a place where nothing can be if it is not there. */
    private static int placeOf(PurseHouse h, int link, int amount) {
        int size = h.onLink(link);
        for (int i = 0; i < size; i++) {
            if (h.thing(link, i, 2) == amount) {
                return i;
            }
        }
        return -1;
    }

    private void checkCut(int n) {
        int[] until = new int[kiosks];
        for (int k = 0; k < kiosks; k++) {
            until[k] = house.events(n, k);
        }
        PurseHouse again = newHouse();
        boolean left = false;
        boolean across = false;
        for (Event e : events) {
            if (e.at < until[e.kiosk]) {
                t.due(name + e + " again", isDone(again, e), true);
                across |= left;
            } else {
                left = true;
            }
        }
        cutsAcrossTime += across ? 1 : 0;
        checkKiosks(n, again);
        checkRoads(n, again);
        for (int c = 0; c < 3; c++) {
            t.due(name + "total", house.total(n, c), again.trueTotal(c));
        }
    }

    private void checkKiosks(int n, PurseHouse again) {
        for (int k = 0; k < kiosks; k++) {
            for (int c = 0; c < 3; c++) {
                t.due(name + "recorded stock", house.piece(n, k, c, 0), again.stock(k, c));
                t.due(name + "recorded till", house.piece(n, k, c, 1), again.till(k, c));
            }
        }
    }

    private void checkRoads(int n, PurseHouse again) {
        for (int link = 0; link < ways.size(); link++) {
            long[] sums = new long[3];
            int size = again.onLink(link);
            for (int i = 0; i < size; i++) {
                sums[again.thing(link, i, 1)] += again.thing(link, i, 2);
            }
            for (int c = 0; c < 3; c++) {
                t.due(name + "road of link " + link, house.road(n, link, c), sums[c]);
                coinsOnRoads += sums[c] > 0 ? 1 : 0;
            }
        }
    }
}
