/** Boundary cases of promises 18 to 26, put right: a test for each sentence. */
public final class BoundsOfRowTest {
    private static final int NO = Due.NO;
    private static final int UNKNOWN = Due.UNKNOWN;

    private static void dueRow(PictureHeap x, int... pictures) {
        Due.due("put()", x.put(), pictures.length);
        for (int i = 0; i < pictures.length; i++) {
            Due.due("row(" + i + ")", Due.rowOf(x, i), pictures[i]);
        }
        Due.noRow(x, pictures.length);
    }

    private static void dueDay(PictureHeap x, int i, int first, int many, int minutes) {
        Due.due("day(" + i + ", 0)", x.day(i, 0), first);
        Due.due("day(" + i + ", 1)", x.day(i, 1), many);
        Due.due("day(" + i + ", 2)", x.day(i, 2), minutes);
    }

    static void promise18OfNothing() {
        Due.sentence("Promise 18", "All is PUT: how many PICTURES the ROW has");
        Due.due("put() of a new one", new PictureHeap().put(), 0);
        Due.due("put() of cameras alone", Heaps.cameras(8).put(), 0);
        PictureHeap x = Heaps.places(10);
        Due.due("put() of places", x.put(), 0);
        Due.due("offset(1) of places", x.offset(1), 0);
    }

    static void promise18UpTo120() {
        Due.sentence("Promise 18", "All is PUT: how many PICTURES the ROW has");
        Due.due("put() of one", Heaps.clocks(5).put(), 1);
        PictureHeap x = Heaps.full();
        Due.due("put() of a full heap", x.put(), 120);
        Due.due("put() again", x.put(), 120);
        x.picture(0, 0, 0, -1);
        Due.due("put() behind a refused picture", x.put(), 120);
    }

    static void promise18ByTheLatestPut() {
        Due.sentence("Promise 18", "What is told below is by the latest put()");
        PictureHeap x = Heaps.onePictureEach(2);
        x.put();
        x.picture(1, 1001, 5, -1);
        x.picture(0, 1001, 5, -1);
        x.picture(0, 5000, 5, -1);
        x.camera();
        x.off(1, 1, 1);
        Due.due("offset(1)", x.offset(1), 0);
        Due.due("offset(2)", x.offset(2), UNKNOWN);
        Due.noRow(x, 2);
        Due.due("time(1)", x.time(1), 1000);
        Due.due("time(2)", x.time(2), UNKNOWN);
        Due.due("days()", x.days(), 1);
        dueDay(x, 0, 0, 2, 0);
        Due.due("bursts()", x.bursts(), 0);
        Due.due("longest()", x.longest(), 0);
        Due.due("doubles()", x.doubles(), 0);
        dueRow(x, 0, 3, 1, 2, 4);
        Due.due("offset(1)", x.offset(1), 1);
        Due.due("offset(2)", x.offset(2), 0);
        Due.due("time(2)", x.time(2), 1002);
        Due.due("days()", x.days(), 2);
        dueDay(x, 0, 0, 4, 2);
        Due.due("bursts()", x.bursts(), 2);
        Due.due("longest()", x.longest(), 2);
        Due.due("doubles()", x.doubles(), 1);
    }

    static void promise18PutNothingThenMore() {
        Due.sentence("Promise 18", "What is told below is by the latest put()");
        PictureHeap x = new PictureHeap();
        x.put();
        x.camera();
        x.picture(0, 7, 0, -1);
        Due.due("offset(0)", x.offset(0), UNKNOWN);
        Due.due("time(0)", x.time(0), UNKNOWN);
        Due.due("days()", x.days(), 0);
        Due.noRow(x, 0);
        dueRow(x, 0);
        Due.due("offset(0)", x.offset(0), 0);
        Due.due("days()", x.days(), 1);
    }

    static void promise19NearestTo0() {
        Due.sentence("Terms III", "PUT: for each the one nearest to 0 with which some AGREE");
        int[][] offs = {{0, 0, 0}, {1, 1, 1}, {1, 9, 1}, {0, 9, 0}, {-1, 1, 0}, {-9, 9, 0}, {-9, 0, 0}, {-9, -1, -1},
            {-1, 200000, 0}, {-200000, 1, 0}, {200000, 200000, 200000}, {199999, 200000, 199999},
            {-200000, -199999, -199999}, {-200000, -200000, -200000}, {-200000, 200000, 0}};
        for (int[] o : offs) {
            PictureHeap x = Heaps.cameras(2);
            x.off(1, o[0], o[1]);
            x.put();
            Due.due("offset(1) with off(1, " + o[0] + ", " + o[1] + ")", x.offset(1), o[2]);
            Due.due("offset(0)", x.offset(0), 0);
        }
    }

    static void promise19InOrderOfCameras() {
        Due.sentence("Terms III", "PUT: OFFSETS in order of CAMERAS .. and with those put ahead");
        PictureHeap x = Heaps.onePictureEach(8);
        for (int i = 1; i < 7; i++) {
            x.ahead(i + 1, i);
        }
        x.put();
        for (int camera = 1; camera < 8; camera++) {
            Due.due("offset(" + camera + "), each behind the next", x.offset(camera), 1 - camera);
        }
        x = Heaps.onePictureEach(8);
        for (int i = 1; i < 7; i++) {
            x.ahead(i, i + 1);
        }
        x.put();
        for (int camera = 1; camera < 8; camera++) {
            Due.due("offset(" + camera + "), each ahead of the next", x.offset(camera), camera - 1);
        }
    }

    static void promise19ALaterCameraBindsAnEarlierOne() {
        Due.sentence("Terms III", "PUT: for each the one nearest to 0 with which, and with those put ahead, some AGREE");
        PictureHeap x = Heaps.onePictureEach(4);
        x.off(3, 5, 9);
        x.near(1, 3, 2);
        x.near(2, 3, 1);
        x.put();
        Due.due("offset(1): 3 .. 11", x.offset(1), 3);
        Due.due("offset(2): 4 .. 6 with 3 put", x.offset(2), 4);
        Due.due("offset(3): 5 with 3 and 4 put", x.offset(3), 5);
        x = Heaps.onePictureEach(3);
        x.off(2, -200000, -200000);
        x.near(1, 2, 10000);
        x.put();
        Due.due("offset(1): -200,000 .. -190,000", x.offset(1), -190000);
        Due.due("offset(2)", x.offset(2), -200000);
    }

    static void promise19Others() {
        Due.sentence("Promise 19", "UNKNOWN for others");
        PictureHeap x = Heaps.full();
        x.put();
        for (int nobody : Due.NOBODY) {
            Due.due("offset(" + nobody + ")", x.offset(nobody), UNKNOWN);
        }
        Due.due("offset(7)", x.offset(7), 0);
        Due.due("offset(8)", x.offset(8), UNKNOWN);
        PictureHeap y = Heaps.cameras(2);
        y.put();
        Due.due("offset(1)", y.offset(1), 0);
        Due.due("offset(2)", y.offset(2), UNKNOWN);
        y.camera();
        Due.due("offset(2), made behind put()", y.offset(2), UNKNOWN);
        y.put();
        Due.due("offset(2), put again", y.offset(2), 0);
    }

    static void promise19AheadOfAnyPut() {
        Due.sentence("Promise 19", "UNKNOWN .. ahead of any put()");
        PictureHeap x = Heaps.full();
        for (int camera = 0; camera < 8; camera++) {
            Due.due("offset(" + camera + ")", x.offset(camera), UNKNOWN);
        }
        for (int nobody : Due.NOBODY) {
            Due.due("offset(" + nobody + ")", x.offset(nobody), UNKNOWN);
        }
        Due.due("offset(0) of a new one", new PictureHeap().offset(0), UNKNOWN);
    }

    static void promise20AheadOfAnyPut() {
        Due.sentence("Promise 20", "NoSuchElementException if there is none such");
        PictureHeap x = Heaps.full();
        Due.noRow(x, 0);
        Due.noRow(x, 119);
        Due.noRow(x, -1);
        Due.noRow(new PictureHeap(), 0);
    }

    static void promise20NoneSuch() {
        Due.sentence("Promise 20", "NoSuchElementException if there is none such");
        PictureHeap x = Heaps.full();
        x.put();
        for (int nobody : Due.NOBODY) {
            Due.noRow(x, nobody);
        }
        Due.noRow(x, 120);
        Due.due("row(119)", Due.rowOf(x, 119), 119);
        Due.due("row(0)", Due.rowOf(x, 0), 0);
        PictureHeap y = Heaps.cameras(1);
        y.put();
        Due.noRow(y, 0);
        y.picture(0, 0, 0, -1);
        Due.noRow(y, 0);
        y.put();
        Due.due("row(0) of one", Due.rowOf(y, 0), 0);
        Due.noRow(y, 1);
        Due.noRow(y, -1);
    }

    static void promise20ByTimes() {
        Due.sentence("Terms III", "ROW: all PICTURES by TIMES as put");
        dueRow(Heaps.clocks(100000, 0, 99999, 1), 1, 3, 2, 0);
        PictureHeap x = Heaps.cameras(3);
        x.picture(1, 0, 0, -1);
        x.picture(0, 0, 0, -1);
        x.picture(2, 100000, 0, -1);
        x.picture(1, 100000, 0, -1);
        x.off(1, 1, 1);
        x.off(2, -100001, -100001);
        dueRow(x, 2, 1, 0, 3);
    }

    static void promise20OfLikeTimes() {
        Due.sentence("Terms III", "of like ones by CAMERA, then number");
        PictureHeap x = Heaps.cameras(3);
        int[] cameras = {2, 1, 0, 2, 1, 0};
        for (int camera : cameras) {
            x.picture(camera, 50, 0, -1);
        }
        dueRow(x, 2, 5, 1, 4, 0, 3);
        dueRow(Heaps.onePictureEach(8), 0, 1, 2, 3, 4, 5, 6, 7);
        x = Heaps.cameras(3);
        for (int camera : new int[] {0, 1, 2, 1, 0, 2}) {
            x.picture(camera, 50, 0, -1);
        }
        dueRow(x, 0, 4, 1, 3, 2, 5);
        x = Heaps.cameras(2);
        x.picture(1, 40, 0, -1);
        x.picture(0, 50, 0, -1);
        x.picture(1, 40, 0, -1);
        x.picture(0, 50, 0, -1);
        x.off(1, 10, 10);
        dueRow(x, 1, 3, 0, 2);
        x.untie(0);
        x.off(1, 9, 9);
        dueRow(x, 0, 2, 1, 3);
    }

    static void promise20AllOfOneTime() {
        Due.sentence("Terms III", "of like ones by CAMERA, then number");
        PictureHeap x = Heaps.cameras(8);
        for (int i = 0; i < 120; i++) {
            x.picture(7 - i % 8, 9, 0, -1);
        }
        int[] row = new int[120];
        for (int i = 0; i < 120; i++) {
            row[i] = i % 15 * 8 + 7 - i / 15;
        }
        dueRow(x, row);
    }

    static void promise21Widest() {
        Due.sentence("Promise 21", "TIME of a PICTURE as put");
        PictureHeap x = Heaps.cameras(4);
        x.picture(1, 100000, 0, -1);
        x.picture(2, 0, 0, -1);
        x.picture(3, 0, 0, -1);
        x.off(1, 200000, 200000);
        x.off(2, -200000, -200000);
        x.off(3, -1, -1);
        dueRow(x, 1, 2, 0);
        Due.due("time(0)", x.time(0), 300000);
        Due.due("time(1)", x.time(1), -200000);
        Due.due("time(2)", x.time(2), -1);
        dueDay(x, 1, 1, 1, 0);
    }

    static void promise21OneThatWasNotThere() {
        Due.sentence("Promise 21", "UNKNOWN for one that wasn't there");
        PictureHeap x = Heaps.clocks(5, 6);
        Due.due("time(0) ahead of any put()", x.time(0), UNKNOWN);
        x.put();
        for (int nobody : Due.NOBODY) {
            Due.due("time(" + nobody + ")", x.time(nobody), UNKNOWN);
        }
        Due.due("time(1)", x.time(1), 6);
        Due.due("time(2)", x.time(2), UNKNOWN);
        x.picture(0, 7, 0, -1);
        Due.due("time(2), handed in behind put()", x.time(2), UNKNOWN);
        x.put();
        Due.due("time(2), put again", x.time(2), 7);
        PictureHeap full = Heaps.full();
        full.put();
        Due.due("time(119)", full.time(119), 11900);
        Due.due("time(120)", full.time(120), UNKNOWN);
    }

    static void promise22AheadOfAnyPut() {
        Due.sentence("Promise 22", "NONE ahead of any put()");
        Due.due("days() of a new one", new PictureHeap().days(), NO);
        Due.due("days() of a full heap", Heaps.full().days(), NO);
        PictureHeap x = new PictureHeap();
        x.put();
        Due.due("days() with nothing put", x.days(), 0);
        x.camera();
        x.picture(0, 0, 0, -1);
        Due.due("days() with a picture behind put()", x.days(), 0);
    }

    static void promise22MoreThanGap() {
        Due.sentence("Terms III", "DAYS: the ROW cut where a PICTURE's TIME is more than GAP behind that of the one ahead");
        for (int gap : new int[] {1, 2, 359, 360, 361, 9999, 10000}) {
            PictureHeap x = Heaps.clocks(0, gap, 2 * gap + 1, 3 * gap + 1);
            x.put();
            x.gap(gap);
            Due.due("days() with gap " + gap, x.days(), 2);
            dueDay(x, 0, 0, 2, gap);
            dueDay(x, 1, 2, 2, gap);
        }
    }

    static void promise22BehindTheOneAheadNotTheFirst() {
        Due.sentence("Terms III", "DAYS: .. more than GAP .. behind that of the one ahead");
        PictureHeap x = Heaps.clocks(0, 360, 720, 1080);
        x.put();
        Due.due("days()", x.days(), 1);
        dueDay(x, 0, 0, 4, 1080);
    }

    static void promise22ByGapAsItIsNow() {
        Due.sentence("Promise 22", "DAYS, by GAP as it is now");
        PictureHeap x = Heaps.clocks(0, 10, 30, 60);
        x.put();
        int[][] gaps = {{9, 4}, {10, 3}, {19, 3}, {20, 2}, {29, 2}, {30, 1}, {10, 3}};
        for (int[] g : gaps) {
            x.gap(g[0]);
            Due.due("days() with gap " + g[0], x.days(), g[1]);
        }
    }

    static void promise22OneAndAll() {
        Due.sentence("Promise 22", "DAYS");
        PictureHeap x = Heaps.clocks(5);
        x.put();
        Due.due("days() of one picture", x.days(), 1);
        x = Heaps.cameras(1);
        for (int i = 0; i < 120; i++) {
            x.picture(0, 2 * i, 0, -1);
        }
        x.gap(1);
        x.put();
        Due.due("days() of 120", x.days(), 120);
        dueDay(x, 119, 119, 1, 0);
        dueDay(x, 120, NO, NO, NO);
        x.gap(2);
        dueDay(x, 0, 0, 120, 238);
        dueDay(x, 1, NO, NO, NO);
    }

    static void promise23PlaceInTheRowNotNumber() {
        Due.sentence("Promise 23", "what 0 its first PICTURE's place in the ROW, 1 how many");
        PictureHeap x = Heaps.clocks(5000, 4999, 100, 99, 0);
        x.put();
        Due.due("days()", x.days(), 2);
        dueDay(x, 0, 0, 3, 100);
        dueDay(x, 1, 3, 2, 1);
    }

    static void promise23NoSuchDay() {
        Due.sentence("Promise 23", "NONE");
        PictureHeap x = Heaps.clocks(0, 361, 722);
        x.put();
        for (int nobody : Due.NOBODY) {
            dueDay(x, nobody, NO, NO, NO);
        }
        dueDay(x, 2, 2, 1, 0);
        dueDay(x, 3, NO, NO, NO);
    }

    static void promise23NoSuchWhat() {
        Due.sentence("Promise 23", "what 0 .., 1 .., 2 ..; NONE");
        PictureHeap x = Heaps.clocks(0, 361, 722);
        x.put();
        for (int nobody : Due.NOBODY) {
            Due.due("day(0, " + nobody + ")", x.day(0, nobody), NO);
            Due.due("day(2, " + nobody + ")", x.day(2, nobody), NO);
            Due.due("day(" + nobody + ", " + nobody + ")", x.day(nobody, nobody), NO);
        }
        Due.due("day(0, 3)", x.day(0, 3), NO);
        Due.due("day(2, 3)", x.day(2, 3), NO);
    }

    static void promise23AheadOfAnyPut() {
        Due.sentence("Promise 23", "NONE");
        dueDay(Heaps.full(), 0, NO, NO, NO);
        dueDay(new PictureHeap(), 0, NO, NO, NO);
        PictureHeap x = new PictureHeap();
        x.put();
        dueDay(x, 0, NO, NO, NO);
    }

    static void promise23WidestDay() {
        Due.sentence("Promise 23", "2 minutes from first to last");
        PictureHeap x = Heaps.cameras(5);
        int[] offsets = {0, -200000, -100000, 100000, 200000};
        for (int camera = 0; camera < 5; camera++) {
            x.off(camera, offsets[camera], offsets[camera]);
            for (int i = 0; i <= 10; i++) {
                x.picture(camera, 10000 * i, 0, -1);
            }
        }
        x.put();
        x.gap(10000);
        Due.due("days()", x.days(), 1);
        dueDay(x, 0, 0, 55, 500000);
        x.gap(9999);
        Due.due("days()", x.days(), 51);
        dueDay(x, 10, 10, 2, 0);
        dueDay(x, 50, 54, 1, 0);
    }

    private static PictureHeap marked(int[]... clocksAndMarks) {
        PictureHeap x = Heaps.cameras(2);
        for (int[] picture : clocksAndMarks) {
            x.picture(1, picture[0], picture[1], -1);
        }
        x.put();
        return x;
    }

    private static void dueBursts(PictureHeap x, int bursts, int longest) {
        Due.due("bursts()", x.bursts(), bursts);
        Due.due("longest()", x.longest(), longest);
    }

    static void promise24AheadOfAnyPut() {
        Due.sentence("Promise 24", "NONE ahead of any put()");
        Due.due("bursts() of a new one", new PictureHeap().bursts(), NO);
        PictureHeap x = Heaps.clocks(0, 0, 0);
        Due.due("bursts()", x.bursts(), NO);
        x.put();
        Due.due("bursts()", x.bursts(), 1);
        x = new PictureHeap();
        x.put();
        Due.due("bursts() with nothing put", x.bursts(), 0);
    }

    static void promise25AheadOfAnyPut() {
        Due.sentence("Promise 25", "0 without one; NONE");
        Due.due("longest() of a new one", new PictureHeap().longest(), NO);
        PictureHeap x = Heaps.clocks(0, 0, 0);
        Due.due("longest()", x.longest(), NO);
        x.put();
        Due.due("longest()", x.longest(), 3);
        x = new PictureHeap();
        x.put();
        Due.due("longest() with nothing put", x.longest(), 0);
        x = Heaps.clocks(5);
        x.put();
        Due.due("longest() of one picture", x.longest(), 0);
        x = Heaps.clocks(5, 8);
        x.put();
        Due.due("longest() without a burst", x.longest(), 0);
    }

    static void promise24AtMost2Minutes() {
        Due.sentence("Terms III", "BURSTS: .. at most 2 minutes behind the one ahead");
        dueBursts(marked(new int[][] {{10, 1}, {10, 1}}), 1, 2);
        dueBursts(marked(new int[][] {{10, 1}, {12, 1}}), 1, 2);
        dueBursts(marked(new int[][] {{10, 1}, {13, 1}}), 0, 0);
        dueBursts(marked(new int[][] {{12, 1}, {10, 1}}), 1, 2);
        dueBursts(marked(new int[][] {{10, 1}, {12, 1}, {14, 1}}), 1, 3);
        dueBursts(marked(new int[][] {{10, 1}, {12, 1}, {15, 1}, {17, 1}, {18, 1}}), 2, 3);
    }

    static void promise24AtMost2Bits() {
        Due.sentence("Terms III", "BURSTS: .. whose MARKS differ from that one's in at most 2 bits");
        dueBursts(marked(new int[][] {{10, 0}, {11, 3}}), 1, 2);
        dueBursts(marked(new int[][] {{10, 0}, {11, 7}}), 0, 0);
        dueBursts(marked(new int[][] {{10, 65535}, {11, 65535 - 3}}), 1, 2);
        dueBursts(marked(new int[][] {{10, 65535}, {11, 65535 - 7}}), 0, 0);
        dueBursts(marked(new int[][] {{10, 0}, {11, 0xC000}}), 1, 2);
        dueBursts(marked(new int[][] {{10, 0}, {11, 0xE000}}), 0, 0);
        dueBursts(marked(new int[][] {{10, 4}, {11, 3}}), 0, 0);
        dueBursts(marked(new int[][] {{10, 0}, {11, 3}, {12, 15}, {13, 63}}), 1, 4);
        dueBursts(marked(new int[][] {{10, 0}, {11, 3}, {12, 31}, {13, 63}}), 2, 2);
        dueBursts(marked(new int[][] {{10, 0}, {11, 0}}), 1, 2);
    }

    static void promise24AsLongAsMayBe() {
        Due.sentence("Terms III", "BURSTS: .. as long as may be");
        dueBursts(marked(new int[][] {{10, 1}, {11, 1}, {12, 1}, {13, 1}}), 1, 4);
        dueBursts(marked(new int[][] {{10, 1}, {12, 1}, {14, 1}, {17, 1}}), 1, 3);
    }

    static void promise24EachTheNextOfItsCamera() {
        Due.sentence("Terms III", "BURSTS: .. each the next of that CAMERA in the ROW");
        dueBursts(marked(new int[][] {{10, 0}, {11, 7}, {12, 0}}), 0, 0);
        dueBursts(marked(new int[][] {{10, 0}, {10, 7}, {10, 0}}), 0, 0);
        dueBursts(marked(new int[][] {{10, 0}, {10, 0}, {10, 7}}), 1, 2);
        PictureHeap x = Heaps.cameras(3);
        x.picture(1, 10, 0, -1);
        x.picture(0, 11, 255, -1);
        x.picture(2, 11, 255, -1);
        x.picture(1, 12, 0, -1);
        x.put();
        dueBursts(x, 1, 2);
        x = Heaps.cameras(2);
        x.picture(0, 10, 0, -1);
        x.picture(1, 10, 0, -1);
        x.put();
        dueBursts(x, 0, 0);
    }

    static void promise24OfEachCamera() {
        Due.sentence("Terms III", "BURSTS: rows of two or more PICTURES of one CAMERA");
        PictureHeap x = Heaps.cameras(8);
        for (int i = 0; i < 120; i++) {
            x.picture(i % 8, i / 8 + i / 16 * 3, 1, -1);
        }
        x.put();
        dueBursts(x, 56, 2);
        x = Heaps.cameras(8);
        for (int i = 0; i < 120; i++) {
            x.picture(i % 8, i / 8 * 2, 1, -1);
        }
        x.put();
        dueBursts(x, 8, 15);
    }

    static void promise24SixtyBursts() {
        Due.sentence("Promise 24", "BURSTS");
        PictureHeap x = Heaps.cameras(1);
        for (int i = 0; i < 120; i++) {
            x.picture(0, i / 2 * 5 + i % 2 * 2, 1, -1);
        }
        x.put();
        dueBursts(x, 60, 2);
    }

    static void promise25All120() {
        Due.sentence("Promise 25", "How many PICTURES the longest BURST has");
        PictureHeap x = Heaps.cameras(1);
        for (int i = 0; i < 120; i++) {
            x.picture(0, 2 * (119 - i), 1, -1);
        }
        x.put();
        dueBursts(x, 1, 120);
    }

    static void promise25LongestFirstOrLast() {
        Due.sentence("Promise 25", "How many PICTURES the longest BURST has");
        dueBursts(marked(new int[][] {{0, 1}, {1, 1}, {2, 1}, {9, 1}, {10, 1}}), 2, 3);
        dueBursts(marked(new int[][] {{0, 1}, {1, 1}, {9, 1}, {10, 1}, {11, 1}}), 2, 3);
        dueBursts(marked(new int[][] {{0, 1}, {9, 1}, {10, 1}, {20, 1}}), 1, 2);
    }

    private static PictureHeap pair(int cameraB, int clockB, int marksA, int marksB) {
        PictureHeap x = Heaps.cameras(2);
        x.picture(0, 100, marksA, -1);
        x.picture(cameraB, clockB, marksB, -1);
        x.put();
        return x;
    }

    static void promise26AheadOfAnyPut() {
        Due.sentence("Promise 26", "NONE");
        Due.due("doubles() of a new one", new PictureHeap().doubles(), NO);
        Due.due("doubles() of a full heap", Heaps.full().doubles(), NO);
        PictureHeap x = new PictureHeap();
        x.put();
        Due.due("doubles() with nothing put", x.doubles(), 0);
    }

    static void promise26AtMost5Apart() {
        Due.sentence("Terms III", "DOUBLES: .. TIMES as put at most 5 apart");
        int[][] clocks = {{94, 0}, {95, 1}, {99, 1}, {100, 1}, {101, 1}, {105, 1}, {106, 0}};
        for (int[] c : clocks) {
            Due.due("doubles(), 100 and " + c[0], pair(1, c[0], 9, 9).doubles(), c[1]);
        }
    }

    static void promise26TimesAsPut() {
        Due.sentence("Terms III", "DOUBLES: .. TIMES as put at most 5 apart");
        PictureHeap x = pair(1, 100, 9, 9);
        Due.due("doubles()", x.doubles(), 1);
        x.off(1, 6, 6);
        Due.due("doubles() ahead of put()", x.doubles(), 1);
        x.put();
        Due.due("doubles(), 6 apart as put", x.doubles(), 0);
        x.untie(0);
        x.off(1, -9, -5);
        x.put();
        Due.due("doubles(), 5 apart as put", x.doubles(), 1);
    }

    static void promise26SameMarksNot0() {
        Due.sentence("Terms III", "DOUBLES: .. with the same MARKS (not 0)");
        Due.due("doubles() of marks 0", pair(1, 100, 0, 0).doubles(), 0);
        Due.due("doubles() of marks 1", pair(1, 100, 1, 1).doubles(), 1);
        Due.due("doubles() of marks 65,535", pair(1, 100, 65535, 65535).doubles(), 1);
        Due.due("doubles() of marks 32,768", pair(1, 100, 32768, 32768).doubles(), 1);
        Due.due("doubles() of marks 1 and 3", pair(1, 100, 1, 3).doubles(), 0);
        Due.due("doubles() of marks 0 and 1", pair(1, 100, 0, 1).doubles(), 0);
        Due.due("doubles() of marks 1 and 32,769", pair(1, 100, 1, 32769).doubles(), 0);
    }

    static void promise26OfUnlikeCameras() {
        Due.sentence("Terms III", "DOUBLES: two PICTURES of unlike CAMERAS");
        Due.due("doubles() of one camera", pair(0, 100, 9, 9).doubles(), 0);
        Due.due("doubles() of two cameras", pair(1, 100, 9, 9).doubles(), 1);
    }

    static void promise26EachTwoCount() {
        Due.sentence("Terms III", "DOUBLES: two PICTURES of unlike CAMERAS");
        PictureHeap x = Heaps.cameras(3);
        for (int camera = 0; camera < 3; camera++) {
            x.picture(camera, 100, 9, -1);
        }
        x.put();
        Due.due("doubles() of three", x.doubles(), 3);
        x.picture(0, 105, 9, -1);
        x.put();
        Due.due("doubles() of four", x.doubles(), 5);
        x = Heaps.cameras(8);
        for (int i = 0; i < 120; i++) {
            x.picture(i % 8, 100 + i % 6, 9, -1);
        }
        x.put();
        Due.due("doubles() of 120", x.doubles(), 6300);
    }

    static void questionsChangeNothing() {
        Due.sentence("Promises 19 to 26", "---- put right");
        Due.changesNothing(Heaps::someInTrouble, "offset", x -> x.offset(1) + x.offset(9));
        Due.changesNothing(Heaps::someInTrouble, "row", x -> Due.rowOf(x, 1) + Due.rowOf(x, 9));
        Due.changesNothing(Heaps::someInTrouble, "time", x -> x.time(1) + x.time(9));
        Due.changesNothing(Heaps::someInTrouble, "days", x -> x.days());
        Due.changesNothing(Heaps::someInTrouble, "day", x -> x.day(0, 1) + x.day(9, 9));
        Due.changesNothing(Heaps::someInTrouble, "bursts", x -> x.bursts());
        Due.changesNothing(Heaps::someInTrouble, "longest", x -> x.longest());
        Due.changesNothing(Heaps::someInTrouble, "doubles", x -> x.doubles());
    }

    static void promise18LeavesTiesAndTrouble() {
        Due.sentence("Promise 18", "All is PUT");
        PictureHeap x = Heaps.onePictureEach(3);
        x.off(1, 5, 9);
        x.near(1, 2, 3);
        x.gap(0);
        x.put();
        Due.due("trouble()", x.trouble(), 2);
        Due.due("range(1, true)", x.range(1, true), 9);
        Due.due("range(2, false)", x.range(2, false), 2);
        Due.due("count(3)", x.count(3), 2);
        Due.due("known()", x.known(), 1);
    }

    public static void main(String[] args) throws Exception {
        Due.runAll(BoundsOfRowTest.class);
    }
}
