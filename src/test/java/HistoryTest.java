/**
 * Long made-up runs of at most 512 calls, each answer against that of History, and then the sums
 * of finished snapshots. The runs are the same each time: the numbers come from a fixed start.
 */
final class HistoryTest {
    private static final int RUNS = 1500;
    private static final int CALLS = 512;

    private final Checks t = new Checks();
    private final Dice dice = new Dice(20261115);
    private int finishedSeen = 0;
    private int roadsSeen = 0;

    // Of the run under way.
    private PurseHouse house;
    private History history;
    private int kiosks;
    private int links;
    private int snaps;
    private int deliverShare;
    private int snapShare;

    public static void main(String[] args) {
        HistoryTest test = new HistoryTest();
        for (int run = 0; run < RUNS; run++) {
            test.run(run);
        }
        // Runs that never come to the interesting states would prove nothing.
        test.t.due("runs with many finished snapshots", test.finishedSeen > 5000, true);
        test.t.due("runs with coins on many roads", test.roadsSeen > 2000, true);
        System.out.println(test.finishedSeen + " finished snapshots, " + test.roadsSeen
                + " roads with coins");
        test.t.end();
    }

    private void run(int run) {
        int asked = dice.pick(12) == 0 ? dice.pick(20) - 6 : 1 + dice.pick(6);
        kiosks = Math.max(1, Math.min(6, asked));
        house = new PurseHouse(asked);
        history = new History(asked);
        links = 0;
        snaps = 0;
        deliverShare = 15 + dice.pick(40);
        snapShare = 1 + dice.pick(4);
        int calls = 0;
        calls += openLinks(run);
        calls += firstCoins(run);
        while (calls < CALLS - 60) {
            oneCall(run);
            calls++;
        }
        int room = CALLS - calls;
        for (int i = 0; i < room / 4; i++) {
            checkSums(run);
        }
    }

    /** A ring, so that most snapshots can finish, and some more links. */
    private int openLinks(int run) {
        int tries = 0;
        boolean ring = dice.pick(5) > 0;
        for (int k = 0; ring && k < kiosks; k++) {
            openLink(run, k, (k + 1) % kiosks);
            tries++;
        }
        int more = dice.pick(8);
        for (int i = 0; i < more; i++) {
            openLink(run, wild(kiosks), wild(kiosks));
            tries++;
        }
        return tries;
    }

    private void openLink(int run, int from, int to) {
        boolean ordered = dice.pick(2) == 0;
        int want = history.link(from, to, ordered);
        same(run, "link", house.link(from, to, ordered), want);
        links += want >= 0 ? 1 : 0;
    }

    private int firstCoins(int run) {
        for (int k = 0; k < kiosks; k++) {
            same(run, "mint", bit(house.mint(k, 0, 5000)), bit(history.mint(k, 0, 5000)));
        }
        return kiosks;
    }

    private void oneCall(int run) {
        int what = dice.pick(100);
        if (what < deliverShare) {
            int link = wild(links);
            int i = dice.pick(4) == 0 ? wild(6) : 0;
            same(run, "deliver", bit(house.deliver(link, i)), bit(history.deliver(link, i)));
        } else if (what < 75) {
            change(run);
        } else {
            ask(run);
        }
    }

    private void change(int run) {
        int what = dice.pick(20);
        int kiosk = wild(kiosks);
        int c = wild(3);
        int d = wild(3);
        int amount = amount();
        if (what < snapShare) {
            int want = history.snap(kiosk);
            same(run, "snap", house.snap(kiosk), want);
            snaps += want >= 0 ? 1 : 0;
        } else if (what < 6) {
            same(run, "mint", bit(house.mint(kiosk, c, amount)),
                    bit(history.mint(kiosk, c, amount)));
        } else if (what < 7) {
            same(run, "melt", bit(house.melt(kiosk, c, amount)),
                    bit(history.melt(kiosk, c, amount)));
        } else if (what < 8) {
            same(run, "exchange", bit(house.exchange(kiosk, c, d, amount)),
                    bit(history.exchange(kiosk, c, d, amount)));
        } else if (what < 9) {
            int a = dice.pick(3) == 0 ? wild(1000001) : 1 + dice.pick(9);
            int b = dice.pick(3) == 0 ? wild(1000001) : 1 + dice.pick(9);
            same(run, "rate", bit(house.rate(c, d, a, b)), bit(history.rate(c, d, a, b)));
        } else {
            int link = wild(links);
            int coin = dice.pick(2) == 0 ? 0 : c;
            same(run, "bag", bit(house.bag(link, coin, amount)),
                    bit(history.bag(link, coin, amount)));
        }
    }

    private void ask(int run) {
        int n = wild(snaps);
        int kiosk = wild(kiosks);
        int link = wild(links);
        int c = wild(3);
        PurseHouse h = house;
        History y = history;
        switch (dice.pick(13)) {
            case 0:
                same(run, "stock", h.stock(kiosk, c), y.stock(kiosk, c));
                break;
            case 1:
                same(run, "till", h.till(kiosk, c), y.till(kiosk, c));
                break;
            case 2:
                same(run, "onLink", h.onLink(link), y.onLink(link));
                break;
            case 3:
                int i = wild(8);
                int what = wild(4);
                t.dueThrow(name(run, "thing"), () -> h.thing(link, i, what),
                        Checks.answerOf(() -> y.thing(link, i, what)));
                break;
            case 4:
                same(run, "recorded", bit(h.recorded(n, kiosk)), bit(y.recorded(n, kiosk)));
                break;
            case 5:
                same(run, "finished", bit(h.finished(n)), bit(y.finished(n)));
                break;
            case 6:
                int which = wild(2);
                t.dueThrow(name(run, "piece"), () -> h.piece(n, kiosk, c, which),
                        Checks.answerOf(() -> y.piece(n, kiosk, c, which)));
                break;
            case 7:
                checkRoad(run, n, link, c);
                break;
            case 8:
                t.dueThrow(name(run, "total"), () -> h.total(n, c),
                        Checks.answerOf(() -> y.total(n, c)));
                break;
            case 9:
                same(run, "minted", h.minted(n, c), y.minted(n, c));
                break;
            case 10:
                same(run, "trueTotal", h.trueTotal(c), y.trueTotal(c));
                break;
            case 11:
                long x = amount();
                same(run, "below", h.below(n, c, x), y.below(n, c, x));
                break;
            default:
                same(run, "events", h.events(n, kiosk), y.events(n, kiosk));
        }
    }

    /** Coins come and go by the mint alone, so a state that could have held has just those. */
    private void checkSums(int run) {
        int n = wild(snaps);
        int c = dice.pick(3);
        checkRoad(run, n, wild(links), c);
        boolean finished = house.finished(n);
        same(run, "finished", bit(finished), bit(history.finished(n)));
        if (finished) {
            finishedSeen++;
            same(run, "total against minted", house.total(n, c), house.minted(n, c));
        }
    }

    private void checkRoad(int run, int n, int link, int c) {
        long road = history.road(n, link, c);
        roadsSeen += road > 0 ? 1 : 0;
        same(run, "road", house.road(n, link, c), road);
    }

    private void same(int run, String call, long got, long want) {
        t.due(name(run, call), got, want);
    }

    private static String name(int run, String call) {
        return "run " + run + ": " + call;
    }

    private static long bit(boolean b) {
        return b ? 1 : 0;
    }

    private int amount() {
        int kind = dice.pick(12);
        return kind == 0 ? 1000000000 + dice.pick(3) - 1 : kind == 1 ? dice.pick(3) - 1
                : kind < 4 ? 1 + dice.pick(100000) : 1 + dice.pick(50);
    }

    /** Mostly one of 0 .. end - 1, now and then one beside these. */
    private int wild(int end) {
        int kind = dice.pick(30);
        if (kind == 0) {
            int[] far = {-1, end, end + 1, Integer.MIN_VALUE, Integer.MAX_VALUE, 32, 16};
            return far[dice.pick(far.length)];
        }
        return end > 0 ? dice.pick(end) : 0;
    }
}
