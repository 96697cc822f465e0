/** The states that the edge tests start from; what is in them is worked out by hand. */
final class Houses {
    static final boolean ORDERED = true;
    static final boolean LOOSE = false;
    static final int MOST_COINS = 1000000000;

    private Houses() {
    }

    /** Nothing but kiosks. */
    static PurseHouse bare(int kiosks) {
        return new PurseHouse(kiosks);
    }

    /** Kiosks 0 and 1; link 0 is ordered, link 1 loose, both from 0 to 1; nothing on them. */
    static PurseHouse pair() {
        PurseHouse h = new PurseHouse(2);
        h.link(0, 1, ORDERED);
        h.link(0, 1, LOOSE);
        return h;
    }

    /** A pair whose kiosk 0 has 100 of each currency. */
    static PurseHouse richPair() {
        PurseHouse h = pair();
        for (int c = 0; c < 3; c++) {
            h.mint(0, c, 100);
        }
        return h;
    }

    /**
     * Three kiosks. Snapshot 0 is finished, 1 is recorded by kiosk 2 alone, 2 by kiosk 0 alone.
     *
     * <pre>
     *   kiosk  stock of 0, 1, 2   till of 0, 1, 2   events
     *     0     88   50   60       7  -10    0        9
     *     1    166    0   11      11    0  -11        5
     *     2     20   19  257       0  -13   13        5
     *   link 0, ordered, 0 to 1: marker 2, a bag of 4 of currency 1 with marks 101
     *   link 1, loose, 1 to 2: a bag of 8 of currency 0 with marks 1
     *   link 2, ordered, 2 to 0: a bag of 30 of currency 2 with marks 1, marker 1
     *   link 3, loose, 0 to 2: empty with marks 1, empty with 101, a bag of 9 of 2 with 101
     * </pre>
     */
    static PurseHouse busy() {
        PurseHouse h = new PurseHouse(3);
        h.link(0, 1, ORDERED);
        h.link(1, 2, LOOSE);
        h.link(2, 0, ORDERED);
        h.link(0, 2, LOOSE);
        h.mint(0, 0, 100);
        h.mint(0, 1, 50);
        h.mint(0, 2, 70);
        h.mint(1, 0, 200);
        h.mint(2, 2, 300);
        h.rate(0, 1, 3, 2);
        h.exchange(0, 0, 1, 7);
        h.melt(0, 2, 1);
        h.bag(0, 0, 5);
        h.bag(3, 1, 6);
        h.snap(0);
        h.bag(1, 0, 20);
        h.deliver(0, 0);
        h.deliver(0, 0);
        h.deliver(1, 1);
        h.deliver(1, 0);
        h.deliver(3, 0);
        h.deliver(2, 0);
        startTheNextTwo(h);
        return h;
    }

    private static void startTheNextTwo(PurseHouse h) {
        h.bag(2, 2, 30);
        h.snap(2);
        h.exchange(2, 2, 1, 13);
        h.snap(0);
        h.bag(0, 1, 4);
        h.bag(3, 2, 9);
        h.exchange(1, 0, 2, 11);
        h.bag(1, 0, 8);
    }

    /**
     * Six kiosks with 100 + their number of each currency, 12 links, 16 snapshots; links 0 to 5 are
     * ordered, links 6 to 11 loose, link k and link 6 + k from kiosk k to the next. 16 bags of 1
     * are on links 0 and 6, sent before the snapshots; snapshot n was started at kiosk n % 6.
     */
    static PurseHouse full() {
        PurseHouse h = new PurseHouse(6);
        for (int l = 0; l < 12; l++) {
            h.link(l % 6, (l + 1) % 6, l < 6);
        }
        for (int k = 0; k < 6; k++) {
            for (int c = 0; c < 3; c++) {
                h.mint(k, c, 100 + k);
            }
        }
        for (int i = 0; i < 16; i++) {
            h.bag(0, i % 3, 1);
            h.bag(6, i % 3, 1);
        }
        for (int n = 0; n < 16; n++) {
            h.snap(n % 6);
        }
        return h;
    }

    /** One kiosk that has 10 + n of currency 0, 200 + n of 1 and 3000 + n of 2 at snapshot n. */
    static PurseHouse alone(int snapshots) {
        PurseHouse h = new PurseHouse(1);
        h.mint(0, 0, 10);
        h.mint(0, 1, 200);
        h.mint(0, 2, 3000);
        for (int n = 0; n < snapshots; n++) {
            h.snap(0);
            for (int c = 0; c < 3; c++) {
                h.mint(0, c, 1);
            }
        }
        return h;
    }

    /**
     * A pair; kiosk 1 started 16 snapshots and then took, of currencies 0, 1 and 2, bags of 1, 2
     * and 3 on the ordered link and of 4, 5 and 6 on the loose one.
     */
    static PurseHouse roads() {
        PurseHouse h = richPair();
        for (int c = 0; c < 3; c++) {
            h.bag(0, c, 1 + c);
            h.bag(1, c, 4 + c);
        }
        for (int n = 0; n < 16; n++) {
            h.snap(1);
        }
        for (int i = 0; i < 3; i++) {
            h.deliver(0, 0);
            h.deliver(1, 0);
        }
        return h;
    }

    /** A pair whose kiosk 0 has three times the most that one call can move, of currency 0. */
    static PurseHouse veryRichPair() {
        PurseHouse h = pair();
        for (int i = 0; i < 3; i++) {
            h.mint(0, 0, MOST_COINS);
        }
        return h;
    }

    /**
     * A pair with 32 things on each link, as many as there can be: 8 bags of 1 of currency 0
     * without marks, what 16 snapshots of kiosk 0 sent, 8 bags of 2 of currency 2 with all marks.
     */
    static PurseHouse stuffed() {
        PurseHouse h = richPair();
        for (int i = 0; i < 8; i++) {
            h.bag(0, 0, 1);
            h.bag(1, 0, 1);
        }
        for (int n = 0; n < 16; n++) {
            h.snap(0);
        }
        for (int i = 0; i < 8; i++) {
            h.bag(0, 2, 2);
            h.bag(1, 2, 2);
        }
        return h;
    }
}
