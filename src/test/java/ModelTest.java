import java.util.ArrayList;
import java.util.List;
import java.util.NoSuchElementException;
import java.util.Random;

/**
 * Long runs of calls drawn from a fixed seed, each answer against a slow second telling of the document
 * that shares no way of working with the class: limits are relaxed anew for every question, a quarrel
 * is sought through all sets of ties by size.
 */
public final class ModelTest {
    private static final int THROWS = Integer.MIN_VALUE;
    /** What later calls answer is free. */
    private static final int MOST_CALLS = 512;
    private static final int CALLS_OF_A_TURN = 30;
    private static int wrong = 0;
    private static long asked = 0;
    private static final long[] quarrelsSeen = new long[9];

    /** Offset b is at most w above offset a; by no tie: -1, else its number. */
    private record Limit(int a, int b, long w, int tie) {
    }

    private record Picture(int camera, int clock, int marks, int place) {
    }

    private static final class Model {
        final List<Picture> pictures = new ArrayList<>();
        final List<Limit> limits = new ArrayList<>();
        final List<Integer> ties = new ArrayList<>();
        final int[][] ways = new int[10][10];
        int cameras, places, ever, trouble, gap = 360, quarrel = -1;
        int[] offsets;
        int[] times;
        List<Integer> row;

        boolean noPicture(int p) {
            return p < 0 || p >= pictures.size();
        }

        boolean noCamera(int c) {
            return c < 0 || c >= cameras;
        }

        int refuse(int why) {
            trouble = why;
            return -1;
        }

        static long[] relaxed(List<Limit> all, int from) {
            long[] d = new long[8];
            java.util.Arrays.fill(d, 1L << 40);
            d[from] = 0;
            for (int turn = 0; turn < 9; turn++) {
                boolean moved = false;
                for (Limit l : all) {
                    if (d[l.a] + l.w < d[l.b]) {
                        d[l.b] = d[l.a] + l.w;
                        moved = true;
                    }
                }
                if (!moved) {
                    return d;
                }
            }
            return null;
        }

        static List<Limit> bounded(List<Limit> more) {
            List<Limit> all = new ArrayList<>(more);
            for (int c = 1; c < 8; c++) {
                all.add(new Limit(0, c, 200000, -1));
                all.add(new Limit(c, 0, 200000, -1));
            }
            return all;
        }

        /** Bounds join all cameras, so relaxing from camera 0 finds any ring below 0. */
        static boolean agrees(List<Limit> more) {
            return relaxed(bounded(more), 0) != null;
        }

        int camera() {
            if (cameras == 8) {
                return refuse(3);
            }
            trouble = 0;
            return cameras++;
        }

        int place() {
            if (places == 10) {
                return refuse(3);
            }
            trouble = 0;
            return places++;
        }

        int way(int a, int b, int m) {
            trouble = a < 0 || b < 0 || a >= places || b >= places || a == b ? 1 : m < 0 || m > 10000 ? 2 : 0;
            if (trouble == 0) {
                ways[a][b] = m;
                ways[b][a] = m;
            }
            return trouble == 0 ? 1 : 0;
        }

        int picture(int c, int clock, int marks, int p) {
            if (noCamera(c) || p < -1 || p >= places) {
                return refuse(1);
            }
            if (clock < 0 || clock > 100000 || marks < 0 || marks > 65535) {
                return refuse(2);
            }
            if (pictures.size() == 120) {
                return refuse(3);
            }
            trouble = 0;
            pictures.add(new Picture(c, clock, marks, p));
            return pictures.size() - 1;
        }

        int gap(int m) {
            trouble = m < 1 || m > 10000 ? 2 : 0;
            if (trouble == 0) {
                gap = m;
            }
            return trouble == 0 ? 1 : 0;
        }

        int near(int p, int q, int m) {
            if (noPicture(p) || noPicture(q)) {
                return refuse(1);
            }
            if (m < 0 || m > 10000) {
                return refuse(2);
            }
            Picture a = pictures.get(p);
            Picture b = pictures.get(q);
            return tell(List.of(new Limit(a.camera, b.camera, m + a.clock - b.clock, ever),
                    new Limit(b.camera, a.camera, m + b.clock - a.clock, ever)));
        }

        int ahead(int p, int q) {
            if (noPicture(p) || noPicture(q)) {
                return refuse(1);
            }
            Picture a = pictures.get(p);
            Picture b = pictures.get(q);
            return tell(List.of(new Limit(b.camera, a.camera, b.clock - a.clock - 1, ever)));
        }

        int off(int c, int low, int high) {
            if (noCamera(c)) {
                return refuse(1);
            }
            if (low > high || low < -200000 || high > 200000) {
                return refuse(2);
            }
            return tell(List.of(new Limit(0, c, high, ever), new Limit(c, 0, -(long) low, ever)));
        }

        int tell(List<Limit> told) {
            if (ties.size() == 60) {
                return refuse(3);
            }
            List<Limit> all = new ArrayList<>(limits);
            all.addAll(told);
            if (!agrees(all)) {
                quarrel = fewest(told);
                quarrelsSeen[quarrel]++;
                return refuse(4);
            }
            trouble = 0;
            limits.addAll(told);
            ties.add(ever);
            return ever++;
        }

        int fewest(List<Limit> told) {
            for (int size = 0; size <= ties.size(); size++) {
                if (someSetQuarrels(size, 0, new ArrayList<>(told))) {
                    return size;
                }
            }
            throw new IllegalStateException("a tie that quarrels with nothing");
        }

        boolean someSetQuarrels(int size, int from, List<Limit> chosen) {
            if (size == 0) {
                return !agrees(chosen);
            }
            for (int i = from; i + size <= ties.size(); i++) {
                List<Limit> more = new ArrayList<>(chosen);
                for (Limit l : limits) {
                    if (l.tie == ties.get(i)) {
                        more.add(l);
                    }
                }
                if (someSetQuarrels(size - 1, i + 1, more)) {
                    return true;
                }
            }
            return false;
        }

        int untie(int tie) {
            if (!ties.remove((Integer) tie)) {
                refuse(1);
                return 0;
            }
            trouble = 0;
            limits.removeIf(l -> l.tie == tie);
            return 1;
        }

        int idle(int tie) {
            if (!ties.contains(tie)) {
                return refuse(1);
            }
            trouble = 0;
            List<Limit> fewer = new ArrayList<>(limits);
            fewer.removeIf(l -> l.tie == tie);
            for (int c = 0; c < cameras; c++) {
                if (least(limits, 0, c) != least(fewer, 0, c) || most(limits, 0, c) != most(fewer, 0, c)) {
                    return 0;
                }
            }
            for (Picture p : pictures) {
                long[] now = relaxed(bounded(limits), p.camera);
                long[] then = relaxed(bounded(fewer), p.camera);
                for (Picture q : pictures) {
                    if (now[q.camera] != then[q.camera]) {
                        return 0;
                    }
                }
            }
            return 1;
        }

        static int most(List<Limit> some, int a, int b) {
            return (int) relaxed(bounded(some), a)[b];
        }

        static int least(List<Limit> some, int a, int b) {
            return (int) -relaxed(bounded(some), b)[a];
        }

        int range(int c, boolean greatest) {
            return noCamera(c) ? -1000000 : greatest ? most(limits, 0, c) : least(limits, 0, c);
        }

        int between(int p, int q, boolean most) {
            if (noPicture(p) || noPicture(q)) {
                return -1000000;
            }
            Picture a = pictures.get(p);
            Picture b = pictures.get(q);
            return b.clock - a.clock
                    + (most ? most(limits, a.camera, b.camera) : least(limits, a.camera, b.camera));
        }

        int order(int p, int q) {
            if (noPicture(p) || noPicture(q)) {
                return -1;
            }
            int least = between(p, q, false);
            int most = between(p, q, true);
            return least >= 1 ? 1 : most <= -1 ? 2 : least == 0 && most == 0 ? 3 : 0;
        }

        int unsure() {
            int both = 0;
            for (int p = 0; p < pictures.size(); p++) {
                for (int q = 0; q < pictures.size(); q++) {
                    both += p != q && order(p, q) == 0 ? 1 : 0;
                }
            }
            return both / 2;
        }

        int known() {
            int n = 0;
            for (int c = 0; c < cameras; c++) {
                n += range(c, false) == range(c, true) ? 1 : 0;
            }
            return n;
        }

        int put() {
            List<Limit> held = new ArrayList<>(limits);
            offsets = new int[cameras];
            for (int c = 0; c < cameras; c++) {
                int low = least(held, 0, c);
                int high = most(held, 0, c);
                int v = low <= 0 && high >= 0 ? 0 : Math.abs(low) < Math.abs(high) ? low : high;
                offsets[c] = v;
                held.add(new Limit(0, c, v, -1));
                held.add(new Limit(c, 0, -(long) v, -1));
                if (!agrees(held)) {
                    throw new IllegalStateException("put what does not agree");
                }
            }
            times = new int[pictures.size()];
            row = new ArrayList<>();
            for (int p = 0; p < times.length; p++) {
                times[p] = pictures.get(p).clock + offsets[pictures.get(p).camera];
                row.add(p);
            }
            row.sort((p, q) -> times[p] != times[q] ? Integer.compare(times[p], times[q])
                    : pictures.get(p).camera != pictures.get(q).camera
                    ? Integer.compare(pictures.get(p).camera, pictures.get(q).camera) : Integer.compare(p, q));
            return row.size();
        }

        int offset(int c) {
            return offsets == null || c < 0 || c >= offsets.length ? -1000000 : offsets[c];
        }

        int row(int i) {
            return row == null || i < 0 || i >= row.size() ? THROWS : row.get(i);
        }

        int time(int p) {
            return times == null || p < 0 || p >= times.length ? -1000000 : times[p];
        }

        List<int[]> cutDays() {
            List<int[]> cut = new ArrayList<>();
            for (int i = 0; i < row.size(); i++) {
                int t = times[row.get(i)];
                if (i == 0 || t - times[row.get(i - 1)] > gap) {
                    cut.add(new int[] {i, 0, 0});
                }
                int[] last = cut.get(cut.size() - 1);
                last[1]++;
                last[2] = t - times[row.get(last[0])];
            }
            return cut;
        }

        int days() {
            return row == null ? -1 : cutDays().size();
        }

        int day(int i, int what) {
            if (row == null || i < 0 || i >= cutDays().size() || what < 0 || what > 2) {
                return -1;
            }
            return cutDays().get(i)[what];
        }

        List<Integer> burstSizes() {
            List<Integer> sizes = new ArrayList<>();
            for (int c = 0; c < cameras; c++) {
                int run = 0;
                int before = -1;
                for (int p : row) {
                    if (pictures.get(p).camera != c) {
                        continue;
                    }
                    boolean on = before >= 0 && times[p] - times[before] <= 2
                            && Integer.bitCount(pictures.get(p).marks ^ pictures.get(before).marks) <= 2;
                    if (!on) {
                        sizes.add(run);
                        run = 0;
                    }
                    run++;
                    before = p;
                }
                sizes.add(run);
            }
            sizes.removeIf(n -> n < 2);
            return sizes;
        }

        int bursts() {
            return row == null ? -1 : burstSizes().size();
        }

        int longest() {
            return row == null ? -1 : burstSizes().stream().mapToInt(n -> n).max().orElse(0);
        }

        int doubles() {
            if (row == null) {
                return -1;
            }
            int n = 0;
            for (int p = 0; p < times.length; p++) {
                for (int q = 0; q < p; q++) {
                    Picture a = pictures.get(p);
                    Picture b = pictures.get(q);
                    n += a.camera != b.camera && a.marks == b.marks && a.marks != 0
                            && Math.abs(times[p] - times[q]) <= 5 ? 1 : 0;
                }
            }
            return n;
        }

        int can(int p) {
            if (noPicture(p)) {
                return -1;
            }
            Picture a = pictures.get(p);
            if (a.place >= 0) {
                return 1 << a.place;
            }
            int bits = (1 << places) - 1;
            for (Picture b : pictures) {
                for (int s = 0; s < places; s++) {
                    if (b.camera == a.camera && b.place >= 0
                            && Math.abs(a.clock - b.clock) < ways[s][b.place]) {
                        bits &= ~(1 << s);
                    }
                }
            }
            return bits;
        }

        int found() {
            int n = 0;
            for (int p = 0; p < pictures.size(); p++) {
                n += pictures.get(p).place < 0 && Integer.bitCount(can(p)) == 1 ? 1 : 0;
            }
            return n;
        }

        int strange() {
            for (int p = 0; p < pictures.size(); p++) {
                for (int q = 0; q < pictures.size(); q++) {
                    Picture a = pictures.get(p);
                    Picture b = pictures.get(q);
                    if (p != q && a.camera == b.camera && a.place >= 0 && b.place >= 0
                            && Math.abs(a.clock - b.clock) < ways[a.place][b.place]) {
                        return p;
                    }
                }
            }
            return -2;
        }

        int count(int what) {
            int[] all = {cameras, places, pictures.size(), ties.size(), ever};
            return what < 0 || what > 4 ? -1 : all[what];
        }
    }

    /** How a run draws its numbers: narrow ones meet and quarrel, wide ones touch the bounds. */
    private record Style(int cameras, int clocks, int minutes, int offs, int mostTies, int pictures, boolean edges) {
    }

    private static final class Run {
        final int number;
        final Random r;
        final Style style;
        final PictureHeap x = new PictureHeap();
        final Model m = new Model();
        final StringBuilder told = new StringBuilder();
        int calls = 0;

        Run(int number, Style style) {
            this.number = number;
            this.r = new Random(number * 7919L + 13);
            this.style = style;
        }

        void due(String call, int got, int want) {
            asked++;
            calls++;
            told.append(call).append(" = ").append(got == THROWS ? "throws" : got).append('\n');
            if (got != want) {
                wrong++;
                System.out.println("run " + number + ": " + call + " answered " + got + ", due is " + want);
                if (wrong == 1) {
                    System.out.println("the run:\n" + told);
                }
            }
        }

        int some(int size) {
            int odd = r.nextInt(60);
            if (odd == 0) {
                return size;
            }
            return odd == 1 ? -1 : size == 0 ? 0 : r.nextInt(size);
        }

        int upTo(int most) {
            if (style.edges) {
                int[] edge = {0, 0, 1, 2, most / 2, most - 1, most, most, most + 1, -1};
                return edge[r.nextInt(r.nextInt(10) == 0 ? 10 : 8)];
            }
            return r.nextInt(40) == 0 ? r.nextInt(2) * 200003 - 1 : r.nextInt(most + 1);
        }

        int b(boolean answer) {
            return answer ? 1 : 0;
        }

        int rowOf(int i) {
            try {
                return x.row(i);
            } catch (NoSuchElementException e) {
                return THROWS;
            }
        }

        void start() {
            for (int i = 0; i < style.cameras; i++) {
                due("camera()", x.camera(), m.camera());
            }
            for (int i = 0; i < style.cameras * 2; i++) {
                addPicture();
            }
        }

        void addPicture() {
            int c = some(m.cameras);
            int clock = upTo(style.clocks);
            int marks = r.nextInt(3) == 0 ? upTo(65535) : r.nextInt(16);
            int p = r.nextBoolean() ? -1 : some(m.places);
            if (m.pictures.size() < style.pictures) {
                due("picture(" + c + ", " + clock + ", " + marks + ", " + p + ")",
                        x.picture(c, clock, marks, p), m.picture(c, clock, marks, p));
            }
        }

        void addTie() {
            if (m.ties.size() >= style.mostTies) {
                takeOut();
                return;
            }
            int n = m.pictures.size();
            int p = some(n);
            int q = some(n);
            switch (r.nextInt(4)) {
                case 0 -> {
                    int c = some(m.cameras);
                    int low = upTo(2 * style.offs) - style.offs;
                    int high = low + upTo(style.minutes);
                    due("off(" + c + ", " + low + ", " + high + ")", x.off(c, low, high), m.off(c, low, high));
                }
                case 1 -> due("ahead(" + p + ", " + q + ")", x.ahead(p, q), m.ahead(p, q));
                default -> {
                    int minutes = upTo(Math.min(10000, style.minutes));
                    due("near(" + p + ", " + q + ", " + minutes + ")", x.near(p, q, minutes), m.near(p, q, minutes));
                }
            }
            due("quarrel()", x.quarrel(), m.quarrel);
        }

        void takeOut() {
            int tie = m.ties.isEmpty() || r.nextInt(10) == 0 ? some(m.ever) : m.ties.get(r.nextInt(m.ties.size()));
            due("untie(" + tie + ")", b(x.untie(tie)), m.untie(tie));
        }

        void change() {
            switch (r.nextInt(12)) {
                case 0 -> {
                    if (m.cameras < style.cameras || r.nextInt(20) == 0) {
                        due("camera()", x.camera(), m.camera());
                    }
                }
                case 1 -> due("place()", x.place(), m.place());
                case 2 -> {
                    int a = some(m.places);
                    int c = some(m.places);
                    int minutes = upTo(Math.min(10000, style.clocks / 3 + 1));
                    due("way(" + a + ", " + c + ", " + minutes + ")", b(x.way(a, c, minutes)), m.way(a, c, minutes));
                }
                case 3, 4 -> addPicture();
                case 5 -> {
                    int minutes = upTo(Math.min(10000, style.clocks / 20 + 1));
                    due("gap(" + minutes + ")", b(x.gap(minutes)), m.gap(minutes));
                }
                case 6 -> takeOut();
                case 7 -> due("put()", x.put(), m.put());
                default -> addTie();
            }
            due("trouble()", x.trouble(), m.trouble);
        }

        void askTies() {
            int tie = m.ties.isEmpty() || r.nextInt(10) == 0 ? some(m.ever) : m.ties.get(r.nextInt(m.ties.size()));
            due("idle(" + tie + ")", x.idle(tie), m.idle(tie));
            due("trouble()", x.trouble(), m.trouble);
            int c = some(m.cameras);
            due("range(" + c + ", false)", x.range(c, false), m.range(c, false));
            due("range(" + c + ", true)", x.range(c, true), m.range(c, true));
            int p = some(m.pictures.size());
            int q = some(m.pictures.size());
            due("between(" + p + ", " + q + ", false)", x.between(p, q, false), m.between(p, q, false));
            due("between(" + p + ", " + q + ", true)", x.between(p, q, true), m.between(p, q, true));
            due("order(" + p + ", " + q + ")", x.order(p, q), m.order(p, q));
            due("known()", x.known(), m.known());
            if (m.pictures.size() < 30) {
                due("unsure()", x.unsure(), m.unsure());
            }
        }

        void askRow() {
            int c = some(m.cameras);
            int p = some(m.pictures.size());
            int i = some(5);
            int what = some(3);
            due("offset(" + c + ")", x.offset(c), m.offset(c));
            due("row(" + p + ")", rowOf(p), m.row(p));
            due("time(" + p + ")", x.time(p), m.time(p));
            due("days()", x.days(), m.days());
            due("day(" + i + ", " + what + ")", x.day(i, what), m.day(i, what));
            due("bursts()", x.bursts(), m.bursts());
            due("longest()", x.longest(), m.longest());
            due("doubles()", x.doubles(), m.doubles());
        }

        void askPlaces() {
            int p = some(m.pictures.size());
            int what = some(5);
            due("can(" + p + ")", x.can(p), m.can(p));
            due("found()", x.found(), m.found());
            due("strange()", x.strange(), m.strange());
            due("count(" + what + ")", x.count(what), m.count(what));
            due("trouble()", x.trouble(), m.trouble);
        }

        void go() {
            start();
            for (int turn = 0; turn < 60 && calls <= MOST_CALLS - CALLS_OF_A_TURN && wrong < 10; turn++) {
                change();
                if (r.nextInt(4) == 0) {
                    askTies();
                }
                if (r.nextInt(6) == 0) {
                    askRow();
                }
                if (r.nextInt(6) == 0) {
                    askPlaces();
                }
            }
        }
    }

    public static void main(String[] args) {
        Style[] styles = {
            new Style(3, 20, 8, 10, 9, 30, false),
            new Style(5, 60, 10, 30, 11, 30, false),
            new Style(8, 12, 2, 400, 12, 24, false),
            new Style(4, 100000, 10000, 200000, 10, 25, false),
            new Style(2, 30, 400000, 199990, 8, 120, false),
            new Style(8, 1, 1, 20000, 13, 60, false),
            new Style(3, 100000, 10000, 200000, 9, 30, true),
            new Style(6, 100000, 10000, 200000, 12, 30, true),
            new Style(4, 10000, 10000, 200000, 10, 30, true),
            new Style(8, 3, 2, 3, 13, 40, true),
        };
        for (int run = 0; run < 1500 && wrong < 10; run++) {
            new Run(run, styles[run % styles.length]).go();
        }
        StringBuilder seen = new StringBuilder();
        for (int q = 0; q < quarrelsSeen.length; q++) {
            seen.append(q == 0 ? "" : ", ").append(quarrelsSeen[q]).append(" of ").append(q);
        }
        System.out.println(asked + " answers; quarrels: " + seen);
        System.out.println(wrong == 0 ? "all answers are as due" : wrong + " answers are not as due");
        if (wrong != 0) {
            System.exit(1);
        }
    }
}
