import java.util.NoSuchElementException;
import java.util.Random;

/** No call throws but row(), whatever its numbers are and also behind the 512th call. */
public final class WildTest {
    private static final int[] EDGES = {
        Integer.MIN_VALUE, Integer.MIN_VALUE + 1, -1000000, -200001, -200000, -10000, -3, -2, -1, 0, 1, 2, 3, 7, 8,
        9, 10, 11, 59, 60, 61, 119, 120, 121, 9999, 10000, 10001, 65535, 65536, 100000, 100001, 200000, 200001,
        1000000, Integer.MAX_VALUE - 1, Integer.MAX_VALUE};

    private static int any(Random r) {
        return r.nextInt(3) == 0 ? EDGES[r.nextInt(EDGES.length)] : r.nextInt(r.nextBoolean() ? 9 : 121);
    }

    private static void call(PictureHeap x, int which, Random r) {
        int a = any(r);
        int b = any(r);
        int c = any(r);
        boolean most = r.nextBoolean();
        switch (which) {
            case 0 -> x.camera();
            case 1 -> x.place();
            case 2 -> x.way(a, b, c);
            case 3 -> x.picture(a, b, c, any(r));
            case 4 -> x.gap(a);
            case 5 -> x.near(a, b, c);
            case 6 -> x.ahead(a, b);
            case 7 -> x.off(a, b, c);
            case 8 -> x.quarrel();
            case 9 -> x.untie(a);
            case 10 -> x.idle(a);
            case 11 -> x.range(a, most);
            case 12 -> x.between(a, b, most);
            case 13 -> x.order(a, b);
            case 14 -> x.unsure();
            case 15 -> x.known();
            case 16 -> x.put();
            case 17 -> x.offset(a);
            case 18 -> askRow(x, a);
            case 19 -> x.time(a);
            case 20 -> x.days();
            case 21 -> x.day(a, b);
            case 22 -> x.bursts();
            case 23 -> x.longest();
            case 24 -> x.doubles();
            case 25 -> x.can(a);
            case 26 -> x.found();
            case 27 -> x.strange();
            case 28 -> x.count(a);
            case 29 -> x.picture(r.nextInt(8), r.nextInt(200), r.nextInt(8), -1);
            case 30 -> x.near(r.nextInt(120), r.nextInt(120), r.nextInt(200));
            default -> x.trouble();
        }
    }

    private static void askRow(PictureHeap x, int i) {
        try {
            x.row(i);
        } catch (NoSuchElementException e) {
            if (i == 0 && x.put() > 0) {
                x.row(0);
            }
        }
    }

    public static void main(String[] args) {
        int run = 0;
        int which = 0;
        int calls = 0;
        try {
            for (run = 0; run < 300; run++) {
                Random r = new Random(run);
                PictureHeap x = new PictureHeap();
                for (calls = 0; calls < 2000; calls++) {
                    which = r.nextInt(32);
                    call(x, which, r);
                }
            }
        } catch (RuntimeException e) {
            System.out.println("run " + run + ", call " + calls + " of kind " + which + " threw " + e);
            System.exit(1);
        }
        System.out.println("nothing was thrown");
    }
}
