import java.util.Arrays;
import java.util.NoSuchElementException;

/** Pictures from cameras with wrong clocks: see ../shared/DOC.md, whose words the names here follow. */
public final class PictureHeap {
    public static final int NONE = -1;
    public static final int UNKNOWN = -1000000;

    private static final int CAMERAS = 8;
    private static final int PICTURES = 120;
    private static final int TIES = 60;
    private static final int PLACES = 10;
    private static final int LAST_CLOCK = 100000;
    private static final int LAST_MARKS = 65535;
    private static final int FARTHEST_OFFSET = 200000;
    private static final int MOST_MINUTES = 10000;
    private static final int FIRST_GAP = 360;
    private static final int BURST_MINUTES = 2;
    private static final int BURST_BITS = 2;
    private static final int DOUBLE_MINUTES = 5;
    private static final int NOTHING_STRANGE = -2;

    /** More than any two offsets within their bounds can differ, so as a limit it never binds. */
    private static final int NO_LIMIT = 1000000;

    private static final int FINE = 0;
    private static final int NO_SUCH = 1;
    private static final int BAD_NUMBER = 2;
    private static final int NO_ROOM = 3;
    private static final int QUARRELS = 4;

    private final Album album = new Album();
    private final Atlas atlas = new Atlas();
    private final Ties ties = new Ties();
    private final Timeline timeline = new Timeline();
    private int cameras = 0;
    private int dayGap = FIRST_GAP;
    private int latestTrouble = FINE;
    private int latestQuarrel = NONE;

    public PictureHeap() {
    }

    public int camera() {
        if (cameras >= CAMERAS) {
            return refuse(NO_ROOM);
        }
        latestTrouble = FINE;
        cameras++;
        return cameras - 1;
    }

    public int place() {
        if (atlas.size >= PLACES) {
            return refuse(NO_ROOM);
        }
        latestTrouble = FINE;
        atlas.size++;
        return atlas.size - 1;
    }

    public boolean way(int one, int other, int minutes) {
        if (!atlas.has(one) || !atlas.has(other) || one == other) {
            latestTrouble = NO_SUCH;
        } else if (!within(minutes, 0, MOST_MINUTES)) {
            latestTrouble = BAD_NUMBER;
        } else {
            latestTrouble = FINE;
            atlas.tell(one, other, minutes);
        }
        return latestTrouble == FINE;
    }

    public int picture(int camera, int clock, int marks, int place) {
        if (!hasCamera(camera) || (place != NONE && !atlas.has(place))) {
            return refuse(NO_SUCH);
        }
        if (!within(clock, 0, LAST_CLOCK) || !within(marks, 0, LAST_MARKS)) {
            return refuse(BAD_NUMBER);
        }
        if (album.size >= PICTURES) {
            return refuse(NO_ROOM);
        }
        latestTrouble = FINE;
        return album.take(camera, clock, marks, place);
    }

    public boolean gap(int minutes) {
        if (!within(minutes, 1, MOST_MINUTES)) {
            latestTrouble = BAD_NUMBER;
            return false;
        }
        latestTrouble = FINE;
        dayGap = minutes;
        return true;
    }

    public int near(int one, int other, int minutes) {
        if (!album.has(one) || !album.has(other)) {
            return refuse(NO_SUCH);
        }
        if (!within(minutes, 0, MOST_MINUTES)) {
            return refuse(BAD_NUMBER);
        }
        int apart = album.clockOf[other] - album.clockOf[one];
        return tie(album.cameraOf[one], album.cameraOf[other], -minutes - apart, minutes - apart);
    }

    public int ahead(int one, int other) {
        if (!album.has(one) || !album.has(other)) {
            return refuse(NO_SUCH);
        }
        int apart = album.clockOf[other] - album.clockOf[one];
        return tie(album.cameraOf[one], album.cameraOf[other], 1 - apart, NO_LIMIT);
    }

    public int off(int camera, int low, int high) {
        if (!hasCamera(camera)) {
            return refuse(NO_SUCH);
        }
        if (!isOffset(low) || !isOffset(high) || low > high) {
            return refuse(BAD_NUMBER);
        }
        return tie(0, camera, low, high);
    }

    public int quarrel() {
        return latestQuarrel;
    }

    public boolean untie(int tie) {
        int slot = ties.slotOf(tie);
        if (slot == NONE) {
            latestTrouble = NO_SUCH;
            return false;
        }
        latestTrouble = FINE;
        ties.drop(slot);
        return true;
    }

    public int idle(int tie) {
        int slot = ties.slotOf(tie);
        if (slot == NONE) {
            return refuse(NO_SUCH);
        }
        latestTrouble = FINE;
        return ties.isOfNoMatter(slot) ? 1 : 0;
    }

    public int range(int camera, boolean greatest) {
        if (!hasCamera(camera)) {
            return UNKNOWN;
        }
        return greatest ? ties.agreed.most(0, camera) : ties.agreed.least(0, camera);
    }

    public int between(int one, int other, boolean most) {
        if (!album.has(one) || !album.has(other)) {
            return UNKNOWN;
        }
        return most ? mostBehind(one, other) : leastBehind(one, other);
    }

    public int order(int one, int other) {
        if (!album.has(one) || !album.has(other)) {
            return NONE;
        }
        return sureOrder(one, other);
    }

    public int unsure() {
        int pairs = 0;
        for (int one = 0; one < album.size; one++) {
            for (int other = one + 1; other < album.size; other++) {
                if (sureOrder(one, other) == 0) {
                    pairs++;
                }
            }
        }
        return pairs;
    }

    public int known() {
        int sure = 0;
        for (int camera = 0; camera < cameras; camera++) {
            if (ties.agreed.least(0, camera) == ties.agreed.most(0, camera)) {
                sure++;
            }
        }
        return sure;
    }

    public int put() {
        timeline.settle(cameras, ties.agreed);
        timeline.line(album);
        return timeline.size;
    }

    public int offset(int camera) {
        return timeline.hasCamera(camera) ? timeline.offsetOf[camera] : UNKNOWN;
    }

    public int row(int i) throws NoSuchElementException {
        if (!timeline.has(i)) {
            throw new NoSuchElementException("the row has no such picture");
        }
        return timeline.sequence[i];
    }

    public int time(int picture) {
        return timeline.has(picture) ? timeline.timeOf[picture] : UNKNOWN;
    }

    public int days() {
        return timeline.isPut ? timeline.dayTally(dayGap) : NONE;
    }

    public int day(int i, int what) {
        if (i < 0) {
            return NONE;
        }
        int first = timeline.startOfDay(i, dayGap);
        if (first == NONE) {
            return NONE;
        }
        int last = timeline.endOfDay(first, dayGap);
        switch (what) {
            case 0:
                return first;
            case 1:
                return last - first + 1;
            case 2:
                return timeline.minutesFrom(first, last);
            default:
                return NONE;
        }
    }

    public int bursts() {
        if (!timeline.isPut) {
            return NONE;
        }
        int tally = 0;
        for (int i = 0; i < timeline.size; i++) {
            if (timeline.burstLengthAt(i, album) == 2) {
                tally++;
            }
        }
        return tally;
    }

    public int longest() {
        if (!timeline.isPut) {
            return NONE;
        }
        int most = 0;
        for (int i = 0; i < timeline.size; i++) {
            most = Math.max(most, timeline.burstLengthAt(i, album));
        }
        return most >= 2 ? most : 0;
    }

    public int doubles() {
        return timeline.isPut ? timeline.doubleTally(album) : NONE;
    }

    public int can(int picture) {
        return album.has(picture) ? atlas.possiblePlaces(album, picture) : NONE;
    }

    public int found() {
        int tally = 0;
        for (int picture = 0; picture < album.size; picture++) {
            if (album.placeOf[picture] == NONE
                    && Integer.bitCount(atlas.possiblePlaces(album, picture)) == 1) {
                tally++;
            }
        }
        return tally;
    }

    public int strange() {
        for (int picture = 0; picture < album.size; picture++) {
            int own = album.placeOf[picture];
            if (own != NONE && !atlas.isWithinReach(album, picture, own)) {
                return picture;
            }
        }
        return NOTHING_STRANGE;
    }

    public int count(int what) {
        switch (what) {
            case 0:
                return cameras;
            case 1:
                return atlas.size;
            case 2:
                return album.size;
            case 3:
                return ties.size;
            case 4:
                return ties.everTaken;
            default:
                return NONE;
        }
    }

    public int trouble() {
        return latestTrouble;
    }

    private int refuse(int why) {
        latestTrouble = why;
        return NONE;
    }

    private boolean hasCamera(int camera) {
        return camera >= 0 && camera < cameras;
    }

    private static boolean within(int number, int low, int high) {
        return number >= low && number <= high;
    }

    private static boolean isOffset(int number) {
        return within(number, -FARTHEST_OFFSET, FARTHEST_OFFSET);
    }

    /** All three kinds of ties say the same thing in the end: by how much one offset is above another. */
    private int tie(int one, int other, int least, int most) {
        if (ties.size >= TIES) {
            return refuse(NO_ROOM);
        }
        if (!ties.agreed.admits(one, other, least, most)) {
            latestQuarrel = ties.fewestAgainst(one, other, least, most);
            return refuse(QUARRELS);
        }
        latestTrouble = FINE;
        return ties.take(one, other, least, most);
    }

    private int leastBehind(int one, int other) {
        int apart = album.clockOf[other] - album.clockOf[one];
        return apart + ties.agreed.least(album.cameraOf[one], album.cameraOf[other]);
    }

    private int mostBehind(int one, int other) {
        int apart = album.clockOf[other] - album.clockOf[one];
        return apart + ties.agreed.most(album.cameraOf[one], album.cameraOf[other]);
    }

    private int sureOrder(int one, int other) {
        int least = leastBehind(one, other);
        int most = mostBehind(one, other);
        if (least > 0) {
            return 1;
        }
        if (most < 0) {
            return 2;
        }
        return least == 0 && most == 0 ? 3 : 0;
    }

    /** The pictures as they were handed in; none is ever changed or taken away. */
    private static final class Album {
        final int[] cameraOf = new int[PICTURES];
        final int[] clockOf = new int[PICTURES];
        final int[] marksOf = new int[PICTURES];
        final int[] placeOf = new int[PICTURES];
        int size = 0;

        boolean has(int picture) {
            return picture >= 0 && picture < size;
        }

        int take(int camera, int clock, int marks, int place) {
            int number = size;
            cameraOf[number] = camera;
            clockOf[number] = clock;
            marksOf[number] = marks;
            placeOf[number] = place;
            size++;
            return number;
        }
    }

    /** The places and the ways between them. */
    private static final class Atlas {
        private final int[] minutes = new int[PLACES * PLACES];
        int size = 0;

        boolean has(int place) {
            return place >= 0 && place < size;
        }

        void tell(int one, int other, int told) {
            minutes[one * PLACES + other] = told;
            minutes[other * PLACES + one] = told;
        }

        int possiblePlaces(Album album, int picture) {
            int own = album.placeOf[picture];
            if (own != NONE) {
                return 1 << own;
            }
            int bits = 0;
            for (int place = 0; place < size; place++) {
                if (isWithinReach(album, picture, place)) {
                    bits |= 1 << place;
                }
            }
            return bits;
        }

        /** A picture needs no leave from itself: its own place is no minutes away from it. */
        boolean isWithinReach(Album album, int picture, int place) {
            int camera = album.cameraOf[picture];
            int clock = album.clockOf[picture];
            for (int other = 0; other < album.size; other++) {
                int there = album.placeOf[other];
                if (there != NONE && album.cameraOf[other] == camera
                        && Math.abs(album.clockOf[other] - clock) < minutes[there * PLACES + place]) {
                    return false;
                }
            }
            return true;
        }
    }

    /**
     * By how much each offset may be above each other one. The limits are always drawn to their end:
     * no chain of limits is tighter than the single limit between its two ends. Cameras that are not
     * there yet have theirs too, so that a new one needs no work.
     */
    private static final class Offsets {
        private final int[] limit = new int[CAMERAS * CAMERAS];

        Offsets() {
            loosen();
        }

        /** Camera 0 stands still, so any two others may drift apart by the bound twice. */
        void loosen() {
            for (int one = 0; one < CAMERAS; one++) {
                for (int other = 0; other < CAMERAS; other++) {
                    int bounds = one == other ? 0 : one == 0 || other == 0 ? 1 : 2;
                    limit[one * CAMERAS + other] = bounds * FARTHEST_OFFSET;
                }
            }
        }

        int most(int one, int other) {
            return limit[one * CAMERAS + other];
        }

        int least(int one, int other) {
            return -limit[other * CAMERAS + one];
        }

        boolean admits(int one, int other, int least, int most) {
            return most >= least(one, other) && least <= most(one, other);
        }

        void tighten(int one, int other, int least, int most) {
            lower(one, other, most);
            lower(other, one, -least);
        }

        boolean sameAs(Offsets that) {
            for (int i = 0; i < CAMERAS * CAMERAS; i++) {
                if (limit[i] != that.limit[i]) {
                    return false;
                }
            }
            return true;
        }

        private void lower(int one, int other, int most) {
            for (int from = 0; from < CAMERAS; from++) {
                int start = limit[from * CAMERAS + one] + most;
                for (int to = 0; to < CAMERAS; to++) {
                    int through = start + limit[other * CAMERAS + to];
                    if (through < limit[from * CAMERAS + to]) {
                        limit[from * CAMERAS + to] = through;
                    }
                }
            }
        }
    }

    /** The ties that are there: tie s says that offset other[s] is least[s] .. most[s] above one[s]. */
    private static final class Ties {
        private final int[] number = new int[TIES];
        private final int[] one = new int[TIES];
        private final int[] other = new int[TIES];
        private final int[] least = new int[TIES];
        private final int[] most = new int[TIES];
        private final int[] reached = new int[CAMERAS];
        private final int[] reachedNext = new int[CAMERAS];
        private final Offsets without = new Offsets();
        final Offsets agreed = new Offsets();
        int size = 0;
        int everTaken = 0;

        int slotOf(int tie) {
            for (int slot = 0; slot < size; slot++) {
                if (number[slot] == tie) {
                    return slot;
                }
            }
            return NONE;
        }

        int take(int from, int to, int low, int high) {
            number[size] = everTaken;
            one[size] = from;
            other[size] = to;
            least[size] = low;
            most[size] = high;
            size++;
            everTaken++;
            agreed.tighten(from, to, low, high);
            return everTaken - 1;
        }

        /** Limits can't be loosened one by one, so they are drawn anew from the ties that stay. */
        void drop(int slot) {
            size--;
            number[slot] = number[size];
            one[slot] = one[size];
            other[slot] = other[size];
            least[slot] = least[size];
            most[slot] = most[size];
            drawWithout(NONE, agreed);
        }

        boolean isOfNoMatter(int slot) {
            drawWithout(slot, without);
            return without.sameAs(agreed);
        }

        private void drawWithout(int left, Offsets offsets) {
            offsets.loosen();
            for (int slot = 0; slot < size; slot++) {
                if (slot != left) {
                    offsets.tighten(one[slot], other[slot], least[slot], most[slot]);
                }
            }
        }

        /** A new tie's two limits never quarrel with each other, so each is looked at alone. */
        int fewestAgainst(int from, int to, int low, int high) {
            return Math.min(fewestAgainstLimit(from, to, high), fewestAgainstLimit(to, from, -low));
        }

        /**
         * Limits quarrel if a ring of them sums below 0. The ring goes through each camera at most
         * once, so that no tie is in it twice and CAMERAS - 1 told ones are the most it can need.
         */
        private int fewestAgainstLimit(int from, int to, int limit) {
            Arrays.fill(reached, NO_LIMIT);
            reached[to] = 0;
            reachByBounds(reached);
            for (int told = 0; told < CAMERAS; told++) {
                if (reached[from] + limit < 0) {
                    return told;
                }
                reachByOneTieMore();
            }
            return CAMERAS;
        }

        private void reachByOneTieMore() {
            System.arraycopy(reached, 0, reachedNext, 0, CAMERAS);
            for (int slot = 0; slot < size; slot++) {
                int a = one[slot];
                int b = other[slot];
                reachedNext[b] = Math.min(reachedNext[b], reached[a] + most[slot]);
                reachedNext[a] = Math.min(reachedNext[a], reached[b] - least[slot]);
            }
            reachByBounds(reachedNext);
            System.arraycopy(reachedNext, 0, reached, 0, CAMERAS);
        }

        private static void reachByBounds(int[] sums) {
            for (int camera = 1; camera < CAMERAS; camera++) {
                sums[0] = Math.min(sums[0], sums[camera] + FARTHEST_OFFSET);
            }
            for (int camera = 1; camera < CAMERAS; camera++) {
                sums[camera] = Math.min(sums[camera], sums[0] + FARTHEST_OFFSET);
            }
        }
    }

    /** What the latest put() found; pictures and cameras that came later are not in it. */
    private static final class Timeline {
        final int[] offsetOf = new int[CAMERAS];
        final int[] timeOf = new int[PICTURES];
        final int[] sequence = new int[PICTURES];
        boolean isPut = false;
        int size = 0;
        private int cameras = 0;

        boolean has(int i) {
            return i >= 0 && i < size;
        }

        boolean hasCamera(int camera) {
            return camera >= 0 && camera < cameras;
        }

        /** Limits drawn to their end let any choice that keeps those to the earlier ones be gone on with. */
        void settle(int cameraTally, Offsets agreed) {
            isPut = true;
            cameras = cameraTally;
            offsetOf[0] = 0;
            for (int camera = 1; camera < cameras; camera++) {
                int low = agreed.least(0, camera);
                int high = agreed.most(0, camera);
                for (int earlier = 1; earlier < camera; earlier++) {
                    low = Math.max(low, offsetOf[earlier] + agreed.least(earlier, camera));
                    high = Math.min(high, offsetOf[earlier] + agreed.most(earlier, camera));
                }
                offsetOf[camera] = low > 0 ? low : Math.min(high, 0);
            }
        }

        void line(Album album) {
            size = album.size;
            for (int picture = 0; picture < size; picture++) {
                timeOf[picture] = album.clockOf[picture] + offsetOf[album.cameraOf[picture]];
                int i = picture;
                while (i > 0 && comesAfter(sequence[i - 1], picture, album)) {
                    sequence[i] = sequence[i - 1];
                    i--;
                }
                sequence[i] = picture;
            }
        }

        /** Pictures are lined up by number, so like ones stay in that order. */
        private boolean comesAfter(int one, int other, Album album) {
            if (timeOf[one] != timeOf[other]) {
                return timeOf[one] > timeOf[other];
            }
            return album.cameraOf[one] > album.cameraOf[other];
        }

        int minutesFrom(int i, int j) {
            return timeOf[sequence[j]] - timeOf[sequence[i]];
        }

        private boolean startsDay(int i, int gap) {
            return i == 0 || minutesFrom(i - 1, i) > gap;
        }

        int dayTally(int gap) {
            int tally = 0;
            for (int i = 0; i < size; i++) {
                if (startsDay(i, gap)) {
                    tally++;
                }
            }
            return tally;
        }

        int startOfDay(int day, int gap) {
            int ahead = day;
            for (int i = 0; i < size; i++) {
                if (startsDay(i, gap)) {
                    if (ahead == 0) {
                        return i;
                    }
                    ahead--;
                }
            }
            return NONE;
        }

        int endOfDay(int first, int gap) {
            int last = first;
            while (last + 1 < size && !startsDay(last + 1, gap)) {
                last++;
            }
            return last;
        }

        /** How many pictures a burst has when the i-th of the row is its latest: 1 if it follows on none. */
        int burstLengthAt(int i, Album album) {
            int length = 1;
            int later = sequence[i];
            for (int j = i - 1; j >= 0; j--) {
                int earlier = sequence[j];
                if (album.cameraOf[earlier] == album.cameraOf[later]) {
                    if (!followsOn(earlier, later, album)) {
                        return length;
                    }
                    length++;
                    later = earlier;
                }
            }
            return length;
        }

        private boolean followsOn(int earlier, int later, Album album) {
            int unlike = album.marksOf[earlier] ^ album.marksOf[later];
            return timeOf[later] - timeOf[earlier] <= BURST_MINUTES
                    && Integer.bitCount(unlike) <= BURST_BITS;
        }

        int doubleTally(Album album) {
            int tally = 0;
            for (int i = 0; i < size; i++) {
                for (int j = i + 1; j < size && minutesFrom(i, j) <= DOUBLE_MINUTES; j++) {
                    if (isAlike(sequence[i], sequence[j], album)) {
                        tally++;
                    }
                }
            }
            return tally;
        }

        private static boolean isAlike(int one, int other, Album album) {
            return album.cameraOf[one] != album.cameraOf[other]
                    && album.marksOf[one] == album.marksOf[other]
                    && album.marksOf[one] != 0;
        }
    }
}
