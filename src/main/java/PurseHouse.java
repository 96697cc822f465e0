import java.util.ArrayList;
import java.util.NoSuchElementException;

/**
 * Kiosks that send each other bags of coins over links, and snapshots of all of it that are taken
 * while the bags move.
 */
public final class PurseHouse {
    /** None such, or it can't be. */
    public static final int NONE = -1;

    private static final int CURRENCIES = 3;
    private static final int MOST_KIOSKS = 6;
    private static final int MOST_LINKS = 12;
    private static final int MOST_NUMBERS = 16;
    private static final int MOST_BAGS = 16;
    private static final int MOST_COINS = 1000000000;
    private static final int MOST_IN_RATE = 1000000;

    private static final int BAG = 1;
    private static final int EMPTY_BAG = 2;
    private static final int MARKER = 3;

    private final Kiosk[] kiosks;
    private final ArrayList<Link> links = new ArrayList<>();
    private final int[][] rateTops = new int[CURRENCIES][CURRENCIES];
    private final int[][] rateBottoms = new int[CURRENCIES][CURRENCIES];
    private int numbers = 0;

    public PurseHouse(int kiosks) {
        this.kiosks = new Kiosk[Math.max(1, Math.min(MOST_KIOSKS, kiosks))];
        for (int k = 0; k < this.kiosks.length; k++) {
            this.kiosks[k] = new Kiosk();
        }
        for (int c = 0; c < CURRENCIES; c++) {
            for (int d = 0; d < CURRENCIES; d++) {
                rateTops[c][d] = 1;
                rateBottoms[c][d] = 1;
            }
        }
    }

    public int link(int from, int to, boolean ordered) {
        if (!hasKiosk(from) || !hasKiosk(to) || from == to) {
            return NONE;
        }
        if (links.size() >= MOST_LINKS || numbers > 0) {
            return NONE;
        }
        links.add(new Link(kiosks[from], kiosks[to], ordered));
        return links.size() - 1;
    }

    public boolean rate(int c, int d, int a, int b) {
        if (!hasCurrency(c) || !hasCurrency(d) || c == d) {
            return false;
        }
        if (!isBetween(a, 1, MOST_IN_RATE) || !isBetween(b, 1, MOST_IN_RATE)) {
            return false;
        }
        rateTops[c][d] = a;
        rateBottoms[c][d] = b;
        return true;
    }

    public boolean mint(int kiosk, int c, int amount) {
        if (!hasKiosk(kiosk) || !hasCurrency(c) || !isBetween(amount, 1, MOST_COINS)) {
            return false;
        }
        kiosks[kiosk].addCoins(c, amount);
        return true;
    }

    public boolean melt(int kiosk, int c, int amount) {
        if (!canPay(kiosk, c, amount)) {
            return false;
        }
        kiosks[kiosk].addCoins(c, -amount);
        return true;
    }

    public boolean exchange(int kiosk, int c, int d, int amount) {
        if (!canPay(kiosk, c, amount) || !hasCurrency(d) || c == d) {
            return false;
        }
        // Amount and rate are small enough that the product stays far within a long.
        long got = floorOf((long) amount * rateTops[c][d], rateBottoms[c][d]);
        kiosks[kiosk].swapCoins(c, amount, d, got);
        return true;
    }

    public boolean bag(int link, int c, int amount) {
        if (!hasLink(link)) {
            return false;
        }
        Link way = links.get(link);
        if (!hasCurrency(c) || !way.from.hasCoins(c, amount) || way.countBags() >= MOST_BAGS) {
            return false;
        }
        way.sendBag(c, amount);
        return true;
    }

    public boolean deliver(int link, int i) {
        if (!hasThing(link, i)) {
            return false;
        }
        Link way = links.get(link);
        if (way.ordered && i != 0) {
            return false;
        }
        Thing taken = way.things.remove(i);
        if (taken.kind == MARKER) {
            takeMarker(way, taken.figure);
        } else {
            takeBag(way, taken);
        }
        return true;
    }

    public int snap(int kiosk) {
        if (!hasKiosk(kiosk) || numbers >= MOST_NUMBERS) {
            return NONE;
        }
        int number = numbers;
        numbers++;
        recordAt(kiosks[kiosk], number);
        return number;
    }

    public long stock(int kiosk, int c) {
        return hasKiosk(kiosk) && hasCurrency(c) ? kiosks[kiosk].stocks[c] : 0;
    }

    public long till(int kiosk, int c) {
        return hasKiosk(kiosk) && hasCurrency(c) ? kiosks[kiosk].tills[c] : 0;
    }

    public int onLink(int link) {
        return hasLink(link) ? links.get(link).things.size() : NONE;
    }

    public int thing(int link, int i, int what)
            throws NoSuchElementException, IllegalArgumentException {
        if (!hasThing(link, i)) {
            throw new NoSuchElementException("nothing is at this place of such a link");
        }
        Thing there = links.get(link).things.get(i);
        switch (what) {
            case 0:
                return there.kind;
            case 1:
                return there.currency;
            case 2:
                return there.figure;
            case 3:
                return there.marks;
            default:
                throw new IllegalArgumentException("what is 0, 1, 2 or 3");
        }
    }

    public boolean recorded(int n, int kiosk) {
        return hasNumber(n) && hasKiosk(kiosk) && kiosks[kiosk].hasMark(n);
    }

    public boolean finished(int n) {
        return hasNumber(n) && allKiosksRecorded(n) && allLinksDone(n);
    }

    public long piece(int n, int kiosk, int c, int what)
            throws NoSuchElementException, IllegalArgumentException {
        if (!hasNumber(n) || !hasKiosk(kiosk) || !hasCurrency(c) || !kiosks[kiosk].hasMark(n)) {
            throw new NoSuchElementException("nothing such was recorded");
        }
        switch (what) {
            case 0:
                return kiosks[kiosk].stocksAt[n][c];
            case 1:
                return kiosks[kiosk].tillsAt[n][c];
            default:
                throw new IllegalArgumentException("what is 0 or 1");
        }
    }

    public long road(int n, int link, int c) {
        return hasNumber(n) && hasLink(link) && hasCurrency(c) ? links.get(link).roads[n][c] : 0;
    }

    public long total(int n, int c) throws NoSuchElementException {
        if (!hasCurrency(c) || !finished(n)) {
            throw new NoSuchElementException("no such finished snapshot or currency");
        }
        long sum = 0;
        for (int k = 0; k < kiosks.length; k++) {
            sum += kiosks[k].stocksAt[n][c] + kiosks[k].tillsAt[n][c];
        }
        for (int l = 0; l < links.size(); l++) {
            sum += links.get(l).roads[n][c];
        }
        return sum;
    }

    public long minted(int n, int c) {
        if (!hasNumber(n) || !hasCurrency(c)) {
            return 0;
        }
        long sum = 0;
        for (int k = 0; k < kiosks.length; k++) {
            if (kiosks[k].hasMark(n)) {
                sum += kiosks[k].madeAt[n][c];
            }
        }
        return sum;
    }

    public long trueTotal(int c) {
        if (!hasCurrency(c)) {
            return 0;
        }
        long sum = 0;
        for (int k = 0; k < kiosks.length; k++) {
            sum += kiosks[k].stocks[c] + kiosks[k].tills[c];
        }
        for (int l = 0; l < links.size(); l++) {
            sum += links.get(l).sumOfBags(c);
        }
        return sum;
    }

    public int below(int n, int c, long x) {
        if (!hasNumber(n) || !hasCurrency(c)) {
            return NONE;
        }
        for (int k = 0; k < kiosks.length; k++) {
            if (kiosks[k].hasMark(n) && kiosks[k].stocksAt[n][c] < x) {
                return k;
            }
        }
        return NONE;
    }

    public int events(int n, int kiosk) {
        if (!hasKiosk(kiosk)) {
            return NONE;
        }
        if (n < 0) {
            return kiosks[kiosk].eventCount;
        }
        return hasNumber(n) && kiosks[kiosk].hasMark(n) ? kiosks[kiosk].eventsAt[n] : NONE;
    }

    private static boolean isBetween(int x, int least, int most) {
        return x >= least && x <= most;
    }

    private static boolean hasCurrency(int c) {
        return isBetween(c, 0, CURRENCIES - 1);
    }

    private static boolean hasBit(int marks, int n) {
        return (marks >> n & 1) == 1;
    }

    /** No rate has a 0 below; it is looked at here so that no call can ever fail by itself. */
    private static long floorOf(long a, long b) {
        return b == 0 ? 0 : Math.floorDiv(a, b);
    }

    private boolean hasKiosk(int kiosk) {
        return isBetween(kiosk, 0, kiosks.length - 1);
    }

    private boolean hasLink(int link) {
        return isBetween(link, 0, links.size() - 1);
    }

    private boolean hasThing(int link, int i) {
        return hasLink(link) && isBetween(i, 0, links.get(link).things.size() - 1);
    }

    private boolean hasNumber(int n) {
        return isBetween(n, 0, numbers - 1);
    }

    private boolean canPay(int kiosk, int c, int amount) {
        return hasKiosk(kiosk) && hasCurrency(c) && kiosks[kiosk].hasCoins(c, amount);
    }

    private boolean allKiosksRecorded(int n) {
        for (int k = 0; k < kiosks.length; k++) {
            if (!kiosks[k].hasMark(n)) {
                return false;
            }
        }
        return true;
    }

    private boolean allLinksDone(int n) {
        for (int l = 0; l < links.size(); l++) {
            if (!links.get(l).isDone(n)) {
                return false;
            }
        }
        return true;
    }

    private void recordAt(Kiosk kiosk, int n) {
        if (kiosk.hasMark(n)) {
            return;
        }
        kiosk.keepPage(n);
        for (int l = 0; l < links.size(); l++) {
            if (links.get(l).from == kiosk) {
                links.get(l).announce(n);
            }
        }
    }

    private void takeMarker(Link way, int n) {
        recordAt(way.to, n);
        way.markersTaken |= 1 << n;
    }

    private void takeBag(Link way, Thing bag) {
        // The recording comes first: what the sender did after it recorded must not be in the page.
        for (int n = 0; n < MOST_NUMBERS; n++) {
            if (hasBit(bag.marks, n)) {
                recordAt(way.to, n);
            }
        }
        if (bag.kind == BAG) {
            way.to.receiveCoins(bag.currency, bag.figure);
            way.addToRoads(bag);
        }
    }

    /** What a kiosk has now, and a page of it for each number that it has recorded. */
    private static final class Kiosk {
        final long[] stocks = new long[CURRENCIES];
        final long[] tills = new long[CURRENCIES];
        final long[] made = new long[CURRENCIES];
        int eventCount = 0;
        int marks = 0;

        final long[][] stocksAt = new long[MOST_NUMBERS][CURRENCIES];
        final long[][] tillsAt = new long[MOST_NUMBERS][CURRENCIES];
        final long[][] madeAt = new long[MOST_NUMBERS][CURRENCIES];
        final int[] eventsAt = new int[MOST_NUMBERS];

        boolean hasMark(int n) {
            return hasBit(marks, n);
        }

        boolean hasCoins(int c, int amount) {
            return isBetween(amount, 1, MOST_COINS) && stocks[c] >= amount;
        }

        void addCoins(int c, int amount) {
            stocks[c] += amount;
            made[c] += amount;
            eventCount++;
        }

        void swapCoins(int c, long given, int d, long got) {
            stocks[c] -= given;
            tills[c] += given;
            tills[d] -= got;
            stocks[d] += got;
            eventCount++;
        }

        void giveCoins(int c, int amount) {
            stocks[c] -= amount;
            eventCount++;
        }

        void receiveCoins(int c, int amount) {
            stocks[c] += amount;
            eventCount++;
        }

        void keepPage(int n) {
            System.arraycopy(stocks, 0, stocksAt[n], 0, CURRENCIES);
            System.arraycopy(tills, 0, tillsAt[n], 0, CURRENCIES);
            System.arraycopy(made, 0, madeAt[n], 0, CURRENCIES);
            eventsAt[n] = eventCount;
            marks |= 1 << n;
        }
    }

    /** What was sent on a link and not taken, and the road of each number. */
    private static final class Link {
        final Kiosk from;
        final Kiosk to;
        final boolean ordered;
        final ArrayList<Thing> things = new ArrayList<>();
        final long[][] roads = new long[MOST_NUMBERS][CURRENCIES];
        int markersTaken = 0;

        Link(Kiosk from, Kiosk to, boolean ordered) {
            this.from = from;
            this.to = to;
            this.ordered = ordered;
        }

        int countBags() {
            int count = 0;
            for (int i = 0; i < things.size(); i++) {
                if (things.get(i).kind == BAG) {
                    count++;
                }
            }
            return count;
        }

        long sumOfBags(int c) {
            long sum = 0;
            for (int i = 0; i < things.size(); i++) {
                Thing there = things.get(i);
                if (there.kind == BAG && there.currency == c) {
                    sum += there.figure;
                }
            }
            return sum;
        }

        void sendBag(int c, int amount) {
            from.giveCoins(c, amount);
            things.add(new Thing(BAG, c, amount, from.marks));
        }

        void announce(int n) {
            if (ordered) {
                things.add(new Thing(MARKER, NONE, n, 0));
            } else {
                things.add(new Thing(EMPTY_BAG, NONE, 0, from.marks));
            }
        }

        boolean isDone(int n) {
            if (ordered) {
                return hasBit(markersTaken, n);
            }
            return from.hasMark(n) && to.hasMark(n) && !hasBagFromBefore(n);
        }

        /** A bag without the number in its marks was sent before the sender recorded it. */
        boolean hasBagFromBefore(int n) {
            for (int i = 0; i < things.size(); i++) {
                Thing there = things.get(i);
                if (there.kind == BAG && !hasBit(there.marks, n)) {
                    return true;
                }
            }
            return false;
        }

        void addToRoads(Thing bag) {
            for (int n = 0; n < MOST_NUMBERS; n++) {
                boolean late = ordered ? hasBit(markersTaken, n) : hasBit(bag.marks, n);
                if (to.hasMark(n) && !late) {
                    roads[n][bag.currency] += bag.figure;
                }
            }
        }
    }

    /** The figure is the amount of a bag, the number of a marker, 0 of an empty bag. */
    private static final class Thing {
        final int kind;
        final int currency;
        final int figure;
        final int marks;

        Thing(int kind, int currency, int figure, int marks) {
            this.kind = kind;
            this.currency = currency;
            this.figure = figure;
            this.marks = marks;
        }
    }
}
