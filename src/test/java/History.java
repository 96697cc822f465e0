import java.math.BigInteger;
import java.util.ArrayList;
import java.util.List;
import java.util.NoSuchElementException;

/**
 * The document told in another way: all that happened is kept in one list, in the order in which it
 * happened, and each answer is worked out from the list by the words of the terms.
 */
final class History {
    private static final int NONE = -1;

    enum Deed { MINT, MELT, EXCHANGE, SEND, TAKE, RECORD, POST, TAKE_MARKER }

    /** One thing that happened; the link, the number or the parcel is there where it has one. */
    private static final class Entry {
        Deed deed;
        int kiosk;
        int link = NONE;
        int number = NONE;
        int currency = NONE;
        int amount;
        int other = NONE;
        long got;
        int marks;
        // Of what was taken: when it was sent, as a place in the list.
        int sentAt = NONE;
        boolean taken;
    }

    private final int kiosks;
    private final List<int[]> links = new ArrayList<>();
    private final int[][][] rates = new int[3][3][];
    private final List<Entry> list = new ArrayList<>();
    private int numbers;

    History(int kiosks) {
        this.kiosks = kiosks < 1 ? 1 : kiosks > 6 ? 6 : kiosks;
        for (int[][] row : rates) {
            for (int d = 0; d < 3; d++) {
                row[d] = new int[] {1, 1};
            }
        }
    }

    int link(int from, int to, boolean ordered) {
        boolean can = kiosk(from) && kiosk(to) && from != to && links.size() < 12 && numbers == 0;
        if (!can) {
            return NONE;
        }
        links.add(new int[] {from, to, ordered ? 1 : 0});
        return links.size() - 1;
    }

    boolean rate(int c, int d, int a, int b) {
        boolean can = currency(c) && currency(d) && c != d && a > 0 && b > 0 && a <= 1000000
                && b <= 1000000;
        if (can) {
            rates[c][d] = new int[] {a, b};
        }
        return can;
    }

    boolean mint(int kiosk, int c, int amount) {
        boolean can = kiosk(kiosk) && currency(c) && amount(amount);
        if (can) {
            coins(Deed.MINT, kiosk, c, amount);
        }
        return can;
    }

    boolean melt(int kiosk, int c, int amount) {
        boolean can = canPay(kiosk, c, amount);
        if (can) {
            coins(Deed.MELT, kiosk, c, amount);
        }
        return can;
    }

    boolean exchange(int kiosk, int c, int d, int amount) {
        boolean can = canPay(kiosk, c, amount) && currency(d) && c != d;
        if (can) {
            Entry e = coins(Deed.EXCHANGE, kiosk, c, amount);
            e.other = d;
            e.got = BigInteger.valueOf(amount).multiply(BigInteger.valueOf(rates[c][d][0]))
                    .divide(BigInteger.valueOf(rates[c][d][1])).longValueExact();
        }
        return can;
    }

    boolean bag(int link, int c, int amount) {
        boolean can = aLink(link) && canPay(links.get(link)[0], c, amount) && bagsOn(link) < 16;
        if (can) {
            int from = links.get(link)[0];
            int marks = marksOf(from, list.size());
            Entry e = coins(Deed.SEND, from, c, amount);
            e.link = link;
            e.marks = marks;
        }
        return can;
    }

    boolean deliver(int link, int i) {
        List<Integer> row = row(link);
        boolean can = i >= 0 && i < row.size() && (i == 0 || links.get(link)[2] == 0);
        if (!can) {
            return false;
        }
        Entry sent = list.get(row.get(i));
        sent.taken = true;
        int to = links.get(link)[1];
        for (int n = 0; n < 16; n++) {
            boolean asked = isMarker(sent) ? n == sent.number : (sent.marks & 1 << n) != 0;
            if (asked && recordOf(n, to) == NONE) {
                putRecord(to, n);
            }
        }
        if (sent.deed == Deed.SEND || isMarker(sent)) {
            Entry e = entry(isMarker(sent) ? Deed.TAKE_MARKER : Deed.TAKE, to);
            e.link = link;
            e.number = isMarker(sent) ? sent.number : NONE;
            e.currency = sent.currency;
            e.amount = sent.amount;
            e.marks = sent.marks;
            e.sentAt = row.get(i);
        }
        return true;
    }

    int snap(int kiosk) {
        if (!kiosk(kiosk) || numbers == 16) {
            return NONE;
        }
        numbers++;
        putRecord(kiosk, numbers - 1);
        return numbers - 1;
    }

    long stock(int kiosk, int c) {
        return kiosk(kiosk) && currency(c) ? stockAt(kiosk, c, list.size()) : 0;
    }

    long till(int kiosk, int c) {
        return kiosk(kiosk) && currency(c) ? tillAt(kiosk, c, list.size()) : 0;
    }

    int onLink(int link) {
        return aLink(link) ? row(link).size() : NONE;
    }

    int thing(int link, int i, int what) {
        List<Integer> row = row(link);
        if (i < 0 || i >= row.size()) {
            throw new NoSuchElementException();
        }
        if (what < 0 || what > 3) {
            throw new IllegalArgumentException();
        }
        Entry e = list.get(row.get(i));
        int kind = e.deed == Deed.SEND ? 1 : isMarker(e) ? 3 : 2;
        int[] answers = {kind, kind == 1 ? e.currency : NONE,
            kind == 1 ? e.amount : kind == 3 ? e.number : 0, kind == 3 ? 0 : e.marks};
        return answers[what];
    }

    boolean recorded(int n, int kiosk) {
        return recordOf(n, kiosk) != NONE;
    }

    boolean finished(int n) {
        if (n < 0 || n >= numbers) {
            return false;
        }
        for (int k = 0; k < kiosks; k++) {
            if (!recorded(n, k)) {
                return false;
            }
        }
        for (int link = 0; link < links.size(); link++) {
            if (links.get(link)[2] == 1 ? markerTakenAt(n, link) == NONE : openBags(n, link)) {
                return false;
            }
        }
        return true;
    }

    long piece(int n, int kiosk, int c, int what) {
        int at = recordOf(n, kiosk);
        if (at == NONE || !currency(c)) {
            throw new NoSuchElementException();
        }
        if (what != 0 && what != 1) {
            throw new IllegalArgumentException();
        }
        return what == 0 ? stockAt(kiosk, c, at) : tillAt(kiosk, c, at);
    }

    long road(int n, int link, int c) {
        if (!aLink(link) || recordOf(n, links.get(link)[1]) == NONE) {
            return 0;
        }
        int recordedAt = recordOf(n, links.get(link)[1]);
        int senderAt = recordOf(n, links.get(link)[0]);
        int markerAt = markerTakenAt(n, link);
        long sum = 0;
        for (int at = recordedAt; at < list.size(); at++) {
            Entry e = list.get(at);
            if (e.deed != Deed.TAKE || e.link != link || e.currency != c) {
                continue;
            }
            boolean ordered = links.get(link)[2] == 1;
            // Marks of a bag: what its sender had recorded when it sent it.
            boolean within = ordered ? markerAt == NONE || at < markerAt
                    : senderAt == NONE || e.sentAt < senderAt;
            sum += within ? e.amount : 0;
        }
        return sum;
    }

    long total(int n, int c) {
        if (!finished(n) || !currency(c)) {
            throw new NoSuchElementException();
        }
        long sum = 0;
        for (int k = 0; k < kiosks; k++) {
            sum += piece(n, k, c, 0) + piece(n, k, c, 1);
        }
        for (int link = 0; link < links.size(); link++) {
            sum += road(n, link, c);
        }
        return sum;
    }

    long minted(int n, int c) {
        long sum = 0;
        for (int k = 0; k < kiosks; k++) {
            for (int at = 0; at < recordOf(n, k); at++) {
                Entry e = list.get(at);
                if (e.kiosk == k && e.currency == c) {
                    sum += e.deed == Deed.MINT ? e.amount : e.deed == Deed.MELT ? -e.amount : 0;
                }
            }
        }
        return sum;
    }

    /** Coins neither come nor go but by the mint: the bags on the way need not be looked at. */
    long trueTotal(int c) {
        long sum = 0;
        for (Entry e : list) {
            if (e.currency == c) {
                sum += e.deed == Deed.MINT ? e.amount : e.deed == Deed.MELT ? -e.amount : 0;
            }
        }
        return sum;
    }

    int below(int n, int c, long x) {
        for (int k = 0; k < kiosks; k++) {
            if (currency(c) && recorded(n, k) && piece(n, k, c, 0) < x) {
                return k;
            }
        }
        return NONE;
    }

    int events(int n, int kiosk) {
        if (!kiosk(kiosk) || n >= 0 && !recorded(n, kiosk)) {
            return NONE;
        }
        int end = n < 0 ? list.size() : recordOf(n, kiosk);
        int count = 0;
        for (int at = 0; at < end; at++) {
            Entry e = list.get(at);
            boolean counts = e.deed.ordinal() <= Deed.TAKE.ordinal();
            count += e.kiosk == kiosk && counts ? 1 : 0;
        }
        return count;
    }

    private boolean kiosk(int k) {
        return k >= 0 && k < kiosks;
    }

    private boolean currency(int c) {
        return c >= 0 && c < 3;
    }

    private boolean aLink(int link) {
        return link >= 0 && link < links.size();
    }

    private boolean amount(int amount) {
        return amount >= 1 && amount <= 1000000000;
    }

    private boolean canPay(int kiosk, int c, int amount) {
        return amount(amount) && kiosk(kiosk) && currency(c) && stock(kiosk, c) >= amount;
    }

    private boolean isMarker(Entry e) {
        return e.deed == Deed.POST && links.get(e.link)[2] == 1;
    }

    private Entry entry(Deed deed, int kiosk) {
        Entry e = new Entry();
        e.deed = deed;
        e.kiosk = kiosk;
        list.add(e);
        return e;
    }

    private Entry coins(Deed deed, int kiosk, int c, int amount) {
        Entry e = entry(deed, kiosk);
        e.currency = c;
        e.amount = amount;
        return e;
    }

    private void putRecord(int kiosk, int n) {
        entry(Deed.RECORD, kiosk).number = n;
        int marks = marksOf(kiosk, list.size());
        for (int link = 0; link < links.size(); link++) {
            if (links.get(link)[0] == kiosk) {
                Entry e = entry(Deed.POST, kiosk);
                e.link = link;
                e.number = n;
                e.marks = marks;
            }
        }
    }

    private int marksOf(int kiosk, int end) {
        int marks = 0;
        for (int at = 0; at < end; at++) {
            Entry e = list.get(at);
            marks |= e.deed == Deed.RECORD && e.kiosk == kiosk ? 1 << e.number : 0;
        }
        return marks;
    }

    private int recordOf(int n, int kiosk) {
        for (int at = 0; at < list.size(); at++) {
            Entry e = list.get(at);
            if (e.deed == Deed.RECORD && e.number == n && e.kiosk == kiosk) {
                return at;
            }
        }
        return NONE;
    }

    private int markerTakenAt(int n, int link) {
        for (int at = 0; at < list.size(); at++) {
            Entry e = list.get(at);
            if (e.deed == Deed.TAKE_MARKER && e.number == n && e.link == link) {
                return at;
            }
        }
        return NONE;
    }

    private List<Integer> row(int link) {
        List<Integer> row = new ArrayList<>();
        for (int at = 0; at < list.size(); at++) {
            Entry e = list.get(at);
            boolean sent = e.deed == Deed.SEND || e.deed == Deed.POST;
            if (sent && e.link == link && !e.taken) {
                row.add(at);
            }
        }
        return row;
    }

    private int bagsOn(int link) {
        int count = 0;
        for (int at : row(link)) {
            count += list.get(at).deed == Deed.SEND ? 1 : 0;
        }
        return count;
    }

    /** Whether a bag that was sent before the beginning recorded the number was not taken. */
    private boolean openBags(int n, int link) {
        for (int at : row(link)) {
            if (list.get(at).deed == Deed.SEND && at < recordOf(n, links.get(link)[0])) {
                return true;
            }
        }
        return false;
    }

    private long stockAt(int kiosk, int c, int end) {
        long sum = 0;
        for (int at = 0; at < end; at++) {
            Entry e = list.get(at);
            if (e.kiosk != kiosk) {
                continue;
            }
            if (e.currency == c) {
                boolean comes = e.deed == Deed.MINT || e.deed == Deed.TAKE;
                boolean goes = e.deed == Deed.MELT || e.deed == Deed.SEND
                        || e.deed == Deed.EXCHANGE;
                sum += comes ? e.amount : goes ? -e.amount : 0;
            }
            sum += e.other == c ? e.got : 0;
        }
        return sum;
    }

    private long tillAt(int kiosk, int c, int end) {
        long sum = 0;
        for (int at = 0; at < end; at++) {
            Entry e = list.get(at);
            if (e.kiosk == kiosk && e.deed == Deed.EXCHANGE) {
                sum += e.currency == c ? e.amount : e.other == c ? -e.got : 0;
            }
        }
        return sum;
    }
}
