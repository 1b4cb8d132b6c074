/** Boundary cases of promises 7 to 12, the ties: a test for each sentence. */
public final class BoundsOfTiesTest {
    private static final int NO = Due.NO;

    /** Cameras 0 and 1; pictures 0, 1 of clock 1000 each, 2 of camera 1 at 1100, 3 of camera 1 at 1000. */
    private static PictureHeap two() {
        PictureHeap x = Heaps.onePictureEach(2);
        x.picture(1, 1100, 0, -1);
        x.picture(1, 1000, 0, -1);
        return x;
    }

    /** Pictures 0 of camera 0 and 2 of camera 1 at clock 0, 1 of camera 0 and 3 of camera 1 at 100,000. */
    private static PictureHeap widest() {
        PictureHeap x = Heaps.cameras(2);
        x.picture(0, 0, 0, -1);
        x.picture(0, 100000, 0, -1);
        x.picture(1, 0, 0, -1);
        x.picture(1, 100000, 0, -1);
        return x;
    }

    /** Refused by 4, with its quarrel; all but quarrel() is left as it was. */
    private static void quarrels(Due.Made made, int quarrel, String call, Due.Number told) {
        Due.refused(made, 4, call, told);
        PictureHeap x = made.heap();
        told.on(x);
        Due.due(call + ", then quarrel()", x.quarrel(), quarrel);
    }

    static void promise07Takes0Minutes() {
        Due.sentence("Promise 7", "A TIE NEAR: its number (0 .. 10,000)");
        PictureHeap x = two();
        Due.taken(x, "near(0, 1, 0)", x.near(0, 1, 0), 0);
        Due.range(x, 1, 0, 0);
    }

    static void promise07Takes10000Minutes() {
        Due.sentence("Promise 7", "A TIE NEAR: its number (0 .. 10,000)");
        PictureHeap x = two();
        Due.taken(x, "near(0, 1, 10000)", x.near(0, 1, 10000), 0);
        Due.range(x, 1, -10000, 10000);
        Due.taken(x, "near(0, 1, 9999)", x.near(0, 1, 9999), 1);
        Due.range(x, 1, -9999, 9999);
    }

    static void promise07WidestClocks() {
        Due.sentence("Promise 7", "A TIE NEAR: its number");
        PictureHeap x = widest();
        Due.taken(x, "near(0, 3, 10000)", x.near(0, 3, 10000), 0);
        Due.range(x, 1, -110000, -90000);
        x = widest();
        Due.taken(x, "near(1, 2, 10000)", x.near(1, 2, 10000), 0);
        Due.range(x, 1, 90000, 110000);
    }

    static void promise07EitherPictureFirst() {
        Due.sentence("Terms II", "NEAR: the TIMES of two PICTURES are no more than so many minutes apart");
        PictureHeap x = two();
        Due.taken(x, "near(0, 2, 30)", x.near(0, 2, 30), 0);
        Due.range(x, 1, -130, -70);
        x = two();
        Due.taken(x, "near(2, 0, 30)", x.near(2, 0, 30), 0);
        Due.range(x, 1, -130, -70);
    }

    static void promise07JustSoManyMinutesApart() {
        Due.sentence("Terms II", "NEAR: the TIMES of two PICTURES are no more than so many minutes apart");
        for (int side : new int[] {-1, 1}) {
            PictureHeap x = two();
            x.off(1, side * 10, side * 10);
            Due.due("near(0, 1, 9)", x.near(0, 1, 9), NO);
            Due.due("trouble()", x.trouble(), 4);
            Due.taken(x, "near(0, 1, 10)", x.near(0, 1, 10), 1);
        }
    }

    static void promise07OfOneCamera() {
        Due.sentence("Promise 7", "NONE: 4");
        quarrels(BoundsOfTiesTest::two, 0, "near(1, 2, 99), 100 apart", x -> x.near(1, 2, 99));
        quarrels(BoundsOfTiesTest::two, 0, "near(2, 1, 99), 100 apart", x -> x.near(2, 1, 99));
        quarrels(BoundsOfTiesTest::widest, 0, "near(0, 1, 10000), 100,000 apart", x -> x.near(0, 1, 10000));
        quarrels(BoundsOfTiesTest::widest, 0, "near(3, 2, 10000), 100,000 apart", x -> x.near(3, 2, 10000));
        PictureHeap x = two();
        Due.taken(x, "near(1, 2, 100), 100 apart", x.near(1, 2, 100), 0);
        Due.taken(x, "near(2, 1, 100), 100 apart", x.near(2, 1, 100), 1);
        Due.taken(x, "near(1, 3, 0), of one clock", x.near(1, 3, 0), 2);
        Due.taken(x, "near(1, 1, 0), of one picture", x.near(1, 1, 0), 3);
        Due.range(x, 1, -200000, 200000);
    }

    static void promise07NoSuchPicture() {
        Due.sentence("Promise 7", "NONE: 1");
        for (int nobody : Due.NOBODY) {
            Due.refused(Heaps::some, 1, "near(" + nobody + ", 0, 5)", x -> x.near(nobody, 0, 5));
            Due.refused(Heaps::some, 1, "near(0, " + nobody + ", 5)", x -> x.near(0, nobody, 5));
        }
        Due.refused(Heaps::some, 1, "near(5, 0, 5), pictures 0 to 4", x -> x.near(5, 0, 5));
        Due.refused(Heaps::some, 1, "near(0, 5, 5), pictures 0 to 4", x -> x.near(0, 5, 5));
        Due.refused(Heaps::some, 1, "near(5, 5, 5), pictures 0 to 4", x -> x.near(5, 5, 5));
        Due.refused(Heaps::full, 1, "near(120, 0, 5), all pictures", x -> x.near(120, 0, 5));
        Due.refused(Heaps::full, 1, "near(0, 120, 5), all pictures", x -> x.near(0, 120, 5));
        PictureHeap x = Heaps.some();
        Due.taken(x, "near(4, 0, 5), pictures 0 to 4", x.near(4, 0, 5), 4);
        Due.taken(x, "near(0, 4, 5), pictures 0 to 4", x.near(0, 4, 5), 5);
    }

    static void promise07ANumber() {
        Due.sentence("Promise 7", "NONE: 2");
        Due.refused(Heaps::some, 2, "near(0, 1, -1)", x -> x.near(0, 1, -1));
        Due.refused(Heaps::some, 2, "near(0, 1, 10001)", x -> x.near(0, 1, 10001));
        Due.refused(Heaps::some, 2, "near(0, 1, 65536)", x -> x.near(0, 1, 65536));
        for (int wild : Due.WILD) {
            Due.refused(Heaps::some, 2, "near(0, 1, " + wild + ")", x -> x.near(0, 1, wild));
            Due.refused(Heaps::some, 2, "near(0, 0, " + wild + ")", x -> x.near(0, 0, wild));
        }
    }

    static void promise07InTheOrderOfTroubles() {
        Due.sentence("Promise 7", "NONE: 1; 2; 3; 4");
        Due.refused(Heaps::full, 1, "picture and minutes wrong, no room", x -> x.near(120, 0, -1));
        Due.refused(Heaps::full, 1, "picture wrong, no room", x -> x.near(0, -1, 0));
        Due.refused(Heaps::full, 2, "minutes wrong, no room", x -> x.near(0, 8, 10001));
        Due.refused(Heaps::full, 3, "no room, and a quarrel", x -> x.near(0, 8, 0));
        Due.refused(BoundsOfTiesTest::two, 2, "minutes wrong, and a quarrel", x -> x.near(1, 2, -1));
    }

    /** As many ties of all three kinds, all of which hold together. */
    private static PictureHeap ties(int many) {
        PictureHeap x = two();
        for (int i = 0; i < many; i++) {
            int got = i % 3 == 0 ? x.near(0, 1, 9000 + i) : i % 3 == 1 ? x.ahead(1, 2) : x.off(1, -900 - i, 900);
            Due.due("tie " + i, got, i);
        }
        return x;
    }

    static void promise07To09SixtyAtOnce() {
        Due.sentence("Terms I", "TIES 60 at once");
        PictureHeap x = ties(59);
        Due.taken(x, "near, the sixtieth", x.near(0, 1, 5), 59);
        x = ties(59);
        Due.taken(x, "ahead, the sixtieth", x.ahead(1, 2), 59);
        x = ties(59);
        Due.taken(x, "off, the sixtieth", x.off(1, 0, 9), 59);
        Due.due("count(3)", x.count(3), 60);
    }

    static void promise07NoRoom() {
        Due.sentence("Promise 7", "NONE: 3");
        Due.refused(() -> ties(60), 3, "near, the 61st", x -> x.near(0, 1, 5));
        Due.refused(() -> ties(60), 3, "near of no matter, the 61st", x -> x.near(0, 0, 0));
    }

    static void promise08NoRoom() {
        Due.sentence("Promise 8", "NONE: 3");
        Due.refused(() -> ties(60), 3, "ahead, the 61st", x -> x.ahead(1, 2));
        Due.refused(() -> ties(60), 3, "ahead that quarrels, the 61st", x -> x.ahead(1, 1));
    }

    static void promise09NoRoom() {
        Due.sentence("Promise 9", "NONE: 3");
        Due.refused(() -> ties(60), 3, "off, the 61st", x -> x.off(1, 0, 0));
        Due.refused(() -> ties(60), 3, "off that quarrels, the 61st", x -> x.off(0, 1, 1));
    }

    static void promise07To09RoomAgainBehindUntie() {
        Due.sentence("Terms I", "TIES 60 at once");
        for (int gone : new int[] {0, 30, 59}) {
            PictureHeap x = ties(60);
            Due.taken(x, "untie(" + gone + ")", x.untie(gone));
            Due.taken(x, "near", x.near(0, 1, 8), 60);
            Due.due("off", x.off(1, 0, 0), NO);
            Due.due("trouble()", x.trouble(), 3);
            Due.taken(x, "untie(60)", x.untie(60));
            Due.taken(x, "ahead", x.ahead(1, 2), 61);
            Due.due("count(3)", x.count(3), 60);
            Due.due("count(4)", x.count(4), 62);
        }
    }

    static void promise07RefusedOnesTakeNoRoom() {
        Due.sentence("Promise 7", "NONE: 4");
        PictureHeap x = ties(59);
        for (int i = 0; i < 70; i++) {
            Due.due("ahead(1, 1)", x.ahead(1, 1), NO);
        }
        Due.taken(x, "near, the sixtieth", x.near(0, 1, 5), 59);
    }

    static void promise07NumberNotGivenAgain() {
        Due.sentence("Promise 7", "its number (not given again)");
        PictureHeap x = two();
        for (int i = 0; i < 9; i++) {
            Due.due("near", x.near(0, 1, 5), 3 * i);
            Due.due("untie", x.untie(3 * i), true);
            Due.due("ahead", x.ahead(1, 2), 3 * i + 1);
            Due.due("untie", x.untie(3 * i + 1), true);
            Due.due("off", x.off(1, 0, 5), 3 * i + 2);
            Due.due("untie", x.untie(3 * i + 2), true);
        }
        Due.due("untie(0) of a number that was", x.untie(0), false);
    }

    static void promise07RefusedOnesTakeNoNumber() {
        Due.sentence("Promise 7", "its number");
        PictureHeap x = two();
        x.near(0, 9, 5);
        x.near(0, 1, -5);
        x.near(1, 2, 5);
        x.ahead(9, 0);
        x.ahead(0, 0);
        x.off(2, 0, 0);
        x.off(1, 1, 0);
        x.off(0, 1, 1);
        Due.taken(x, "near(0, 1, 5)", x.near(0, 1, 5), 0);
    }

    static void promise08LessByOne() {
        Due.sentence("Terms II", "AHEAD: that of the first is less than that of the second");
        PictureHeap x = two();
        Due.taken(x, "ahead(0, 1)", x.ahead(0, 1), 0);
        Due.range(x, 1, 1, 200000);
        quarrels(() -> {
            PictureHeap y = two();
            y.ahead(0, 1);
            return y;
        }, 1, "near(0, 1, 0) of one that is ahead", y -> y.near(0, 1, 0));
        Due.taken(x, "near(0, 1, 1)", x.near(0, 1, 1), 1);
        Due.range(x, 1, 1, 1);
        x = two();
        Due.taken(x, "ahead(1, 0)", x.ahead(1, 0), 0);
        Due.range(x, 1, -200000, -1);
    }

    static void promise08OfLikeTimes() {
        Due.sentence("Terms II", "AHEAD: that of the first is less than that of the second");
        Due.Made likeTimes = () -> {
            PictureHeap x = two();
            x.off(1, 0, 0);
            return x;
        };
        quarrels(likeTimes, 1, "ahead(0, 1)", x -> x.ahead(0, 1));
        quarrels(likeTimes, 1, "ahead(1, 0)", x -> x.ahead(1, 0));
        quarrels(likeTimes, 0, "ahead(1, 3), of one camera", x -> x.ahead(1, 3));
    }

    static void promise08WidestClocks() {
        Due.sentence("Promise 8", "A TIE AHEAD: its number");
        PictureHeap x = widest();
        Due.taken(x, "ahead(1, 2)", x.ahead(1, 2), 0);
        Due.range(x, 1, 100001, 200000);
        x = widest();
        Due.taken(x, "ahead(2, 1)", x.ahead(2, 1), 0);
        Due.range(x, 1, -200000, 99999);
        x = widest();
        Due.taken(x, "ahead(3, 0)", x.ahead(3, 0), 0);
        Due.range(x, 1, -200000, -100001);
    }

    static void promise08OfOneCamera() {
        Due.sentence("Promise 8", "NONE: 4");
        quarrels(BoundsOfTiesTest::two, 0, "ahead(1, 1), of one picture", x -> x.ahead(1, 1));
        quarrels(BoundsOfTiesTest::two, 0, "ahead(1, 3), of one clock", x -> x.ahead(1, 3));
        quarrels(BoundsOfTiesTest::two, 0, "ahead(3, 1), of one clock", x -> x.ahead(3, 1));
        quarrels(BoundsOfTiesTest::two, 0, "ahead(2, 1), 100 behind", x -> x.ahead(2, 1));
        quarrels(BoundsOfTiesTest::widest, 0, "ahead(1, 0), of camera 0", x -> x.ahead(1, 0));
        PictureHeap x = Heaps.clocks(5, 6);
        Due.taken(x, "ahead(0, 1), one minute", x.ahead(0, 1), 0);
        Due.due("ahead(1, 0)", x.ahead(1, 0), NO);
        x = two();
        Due.taken(x, "ahead(1, 2)", x.ahead(1, 2), 0);
        Due.range(x, 1, -200000, 200000);
    }

    static void promise08NoSuchPicture() {
        Due.sentence("Promise 8", "NONE: 1");
        for (int nobody : Due.NOBODY) {
            Due.refused(Heaps::some, 1, "ahead(" + nobody + ", 0)", x -> x.ahead(nobody, 0));
            Due.refused(Heaps::some, 1, "ahead(0, " + nobody + ")", x -> x.ahead(0, nobody));
            Due.refused(Heaps::some, 1, "ahead(" + nobody + ", " + nobody + ")", x -> x.ahead(nobody, nobody));
        }
        Due.refused(Heaps::some, 1, "ahead(5, 0), pictures 0 to 4", x -> x.ahead(5, 0));
        Due.refused(Heaps::some, 1, "ahead(0, 5), pictures 0 to 4", x -> x.ahead(0, 5));
        Due.refused(Heaps::full, 1, "ahead(120, 0), all pictures", x -> x.ahead(120, 0));
        Due.refused(Heaps::full, 1, "ahead(0, 120), all pictures", x -> x.ahead(0, 120));
        PictureHeap x = Heaps.some();
        Due.taken(x, "ahead(0, 4), pictures 0 to 4", x.ahead(0, 4), 4);
        Due.taken(x, "ahead(3, 4), pictures 0 to 4", x.ahead(3, 4), 5);
    }

    static void promise08InTheOrderOfTroubles() {
        Due.sentence("Promise 8", "NONE: 1; 3; 4");
        Due.refused(Heaps::full, 1, "picture wrong, no room", x -> x.ahead(120, 0));
        Due.refused(Heaps::full, 3, "no room, and a quarrel", x -> x.ahead(0, 0));
    }

    static void promise09WholeRange() {
        Due.sentence("Promise 9", "A TIE OFF (low to high, in -200,000 .. 200,000): its number");
        PictureHeap x = Heaps.cameras(2);
        Due.taken(x, "off(1, -200000, 200000)", x.off(1, -200000, 200000), 0);
        Due.range(x, 1, -200000, 200000);
        Due.taken(x, "off(1, -199999, 199999)", x.off(1, -199999, 199999), 1);
        Due.range(x, 1, -199999, 199999);
    }

    static void promise09OneNumber() {
        Due.sentence("Promise 9", "A TIE OFF (low to high, in -200,000 .. 200,000): its number");
        for (int one : new int[] {-200000, -1, 0, 1, 200000}) {
            PictureHeap x = Heaps.cameras(2);
            Due.taken(x, "off(1, " + one + ", " + one + ")", x.off(1, one, one), 0);
            Due.range(x, 1, one, one);
        }
    }

    static void promise09BothEndsBelong() {
        Due.sentence("Terms II", "OFF: a CAMERA's OFFSET is from one number up to another");
        PictureHeap x = Heaps.cameras(2);
        x.off(1, -7, 9);
        Due.range(x, 1, -7, 9);
        Due.due("off(1, 10, 10)", x.off(1, 10, 10), NO);
        Due.due("off(1, -8, -8)", x.off(1, -8, -8), NO);
        Due.taken(x, "off(1, 9, 10)", x.off(1, 9, 10), 1);
        Due.range(x, 1, 9, 9);
        x.untie(1);
        Due.taken(x, "off(1, -8, -7)", x.off(1, -8, -7), 2);
        Due.range(x, 1, -7, -7);
    }

    static void promise09ANumber() {
        Due.sentence("Promise 9", "NONE: 2");
        int[][] wrong = {{-200001, 0}, {0, 200001}, {-200001, 200001}, {1, 0}, {-4, -5}, {200000, -200000},
            {200001, 200001}, {-200001, -200001}, {200000, 200001}, {-200001, -200000}, {200001, -200001},
            {Integer.MIN_VALUE, 0}, {0, Integer.MAX_VALUE}, {Integer.MIN_VALUE, Integer.MAX_VALUE},
            {Integer.MAX_VALUE, Integer.MIN_VALUE}, {Integer.MAX_VALUE, Integer.MAX_VALUE},
            {Integer.MIN_VALUE, Integer.MIN_VALUE}, {Integer.MAX_VALUE, 0}, {0, Integer.MIN_VALUE}};
        for (int[] w : wrong) {
            Due.refused(Heaps::some, 2, "off(1, " + w[0] + ", " + w[1] + ")", x -> x.off(1, w[0], w[1]));
            Due.refused(Heaps::some, 2, "off(0, " + w[0] + ", " + w[1] + ")", x -> x.off(0, w[0], w[1]));
        }
    }

    static void promise09NoSuchCamera() {
        Due.sentence("Promise 9", "NONE: 1");
        for (int nobody : Due.NOBODY) {
            Due.refused(Heaps::some, 1, "off(" + nobody + ", 0, 0)", x -> x.off(nobody, 0, 0));
        }
        Due.refused(Heaps::some, 1, "off(3, 0, 0), cameras 0 to 2", x -> x.off(3, 0, 0));
        Due.refused(() -> Heaps.cameras(8), 1, "off(8, 0, 0), all cameras", x -> x.off(8, 0, 0));
        PictureHeap x = Heaps.some();
        Due.taken(x, "off(2, 0, 0), cameras 0 to 2", x.off(2, 0, 0), 4);
    }

    static void promise09InTheOrderOfTroubles() {
        Due.sentence("Promise 9", "NONE: 1; 2; 3; 4");
        Due.refused(Heaps::full, 1, "camera and numbers wrong, no room", x -> x.off(8, 1, 0));
        Due.refused(Heaps::full, 1, "camera wrong, no room", x -> x.off(-1, 0, 0));
        Due.refused(Heaps::full, 2, "numbers wrong, no room", x -> x.off(1, 1, 0));
        Due.refused(Heaps::full, 3, "no room, and a quarrel", x -> x.off(1, 200000, 200000));
        Due.refused(Heaps::some, 2, "numbers wrong, and a quarrel", x -> x.off(0, 2, 1));
        Due.refused(Heaps::some, 1, "camera and numbers wrong", x -> x.off(3, 2, 1));
    }

    static void promise09OfCamera0() {
        Due.sentence("Terms II", "CAMERA 0 has OFFSET 0");
        quarrels(Heaps::some, 0, "off(0, 1, 1)", x -> x.off(0, 1, 1));
        quarrels(Heaps::some, 0, "off(0, -1, -1)", x -> x.off(0, -1, -1));
        quarrels(Heaps::some, 0, "off(0, 1, 200000)", x -> x.off(0, 1, 200000));
        quarrels(Heaps::some, 0, "off(0, -200000, -1)", x -> x.off(0, -200000, -1));
        for (int[] held : new int[][] {{0, 0}, {0, 5}, {-5, 0}, {-200000, 200000}}) {
            PictureHeap x = Heaps.cameras(1);
            Due.taken(x, "off(0, " + held[0] + ", " + held[1] + ")", x.off(0, held[0], held[1]), 0);
            Due.range(x, 0, 0, 0);
        }
    }

    static void promise09Quarrels() {
        Due.sentence("Promise 9", "NONE: 4");
        Due.Made made = () -> {
            PictureHeap x = Heaps.onePictureEach(2);
            x.near(0, 1, 10);
            return x;
        };
        quarrels(made, 1, "off(1, 11, 11)", x -> x.off(1, 11, 11));
        quarrels(made, 1, "off(1, 11, 200000)", x -> x.off(1, 11, 200000));
        quarrels(made, 1, "off(1, -11, -11)", x -> x.off(1, -11, -11));
        quarrels(made, 1, "off(1, -200000, -11)", x -> x.off(1, -200000, -11));
        PictureHeap x = made.heap();
        Due.taken(x, "off(1, 10, 200000)", x.off(1, 10, 200000), 1);
        x.untie(1);
        Due.taken(x, "off(1, -200000, -10)", x.off(1, -200000, -10), 2);
    }

    static void promise09WithoutAPicture() {
        Due.sentence("Promise 9", "A TIE OFF: its number");
        PictureHeap x = Heaps.cameras(8);
        Due.taken(x, "off(7, 1, 2)", x.off(7, 1, 2), 0);
        Due.due("off(7, 3, 4)", x.off(7, 3, 4), NO);
        Due.due("quarrel()", x.quarrel(), 1);
    }

    static void termsAgreeUpToTheBounds() {
        Due.sentence("Terms II", "OFFSETS AGREE if they are within their bounds and all TIES hold");
        PictureHeap x = Heaps.onePictureEach(3);
        x.off(1, 199999, 200000);
        Due.taken(x, "ahead(1, 2) up to 200,000", x.ahead(1, 2), 1);
        Due.range(x, 1, 199999, 199999);
        Due.range(x, 2, 200000, 200000);
        x = Heaps.onePictureEach(3);
        x.off(1, -200000, -199999);
        Due.taken(x, "ahead(2, 1) down to -200,000", x.ahead(2, 1), 1);
        Due.range(x, 1, -199999, -199999);
        Due.range(x, 2, -200000, -200000);
    }

    private static PictureHeap oneOff(int offset) {
        PictureHeap x = Heaps.onePictureEach(3);
        x.off(1, offset, offset);
        return x;
    }

    static void termsNotBeyondTheBounds() {
        Due.sentence("Terms II", "OFFSETS AGREE if they are within their bounds and all TIES hold");
        quarrels(() -> oneOff(200000), 1, "ahead(1, 2) beyond 200,000", x -> x.ahead(1, 2));
        quarrels(() -> oneOff(-200000), 1, "ahead(2, 1) beyond -200,000", x -> x.ahead(2, 1));
        PictureHeap x = oneOff(200000);
        Due.taken(x, "near(1, 2, 0) at 200,000", x.near(1, 2, 0), 1);
        Due.range(x, 2, 200000, 200000);
        x = oneOff(-200000);
        Due.taken(x, "near(1, 2, 10000) at -200,000", x.near(1, 2, 10000), 1);
        Due.range(x, 2, -200000, -190000);
    }

    static void termsNotBeyondTheBoundsOfEachCamera() {
        Due.sentence("Terms I", "OFFSETS -200,000 .. 200,000");
        for (int one = 1; one < 8; one++) {
            for (int other = 1; other < 8; other++) {
                for (int bound = -200000; one != other && bound <= 200000; bound += 400000) {
                    PictureHeap x = Heaps.onePictureEach(8);
                    x.off(one, bound, bound);
                    String two = "ahead of " + one + ", off by " + bound + ", and " + other;
                    Due.due(two, bound > 0 ? x.ahead(one, other) : x.ahead(other, one), NO);
                    Due.due(two + ", then quarrel()", x.quarrel(), 1);
                    Due.due(two + ", turned", bound > 0 ? x.ahead(other, one) : x.ahead(one, other), 1);
                }
            }
        }
    }

    /** Each of pictures 1 to 7 is told to be ahead of the next, as many ties as said; camera 1 is off by so much. */
    private static PictureHeap chain(int off, int many) {
        PictureHeap x = Heaps.onePictureEach(8);
        x.off(1, off, 200000);
        for (int i = 1; i <= many; i++) {
            x.ahead(i, i + 1);
        }
        return x;
    }

    static void termsNotBeyondTheBoundsByAChain() {
        Due.sentence("Terms II", "A TIE with which none would AGREE any more is refused");
        PictureHeap x = chain(199994, 5);
        Due.taken(x, "ahead(6, 7), just up to 200,000", x.ahead(6, 7), 6);
        Due.due("known()", x.known(), 8);
        quarrels(() -> chain(199995, 5), 6, "ahead(6, 7), one beyond", y -> y.ahead(6, 7));
        quarrels(() -> chain(199996, 4), 5, "ahead(5, 6), one beyond", y -> y.ahead(5, 6));
        quarrels(() -> chain(200000, 0), 1, "ahead(1, 2), one beyond", y -> y.ahead(1, 2));
    }

    static void promise10NoneYet() {
        Due.sentence("Promise 10", "NONE if there is none yet");
        PictureHeap x = Heaps.onePictureEach(2);
        Due.due("quarrel()", x.quarrel(), NO);
        x.near(0, 2, 0);
        x.near(0, 1, -1);
        x.ahead(0, 2);
        x.off(2, 0, 0);
        x.off(1, 1, 0);
        Due.due("quarrel() behind troubles 1 and 2", x.quarrel(), NO);
        x.near(0, 1, 5);
        x.untie(0);
        x.untie(0);
        x.idle(0);
        Due.due("quarrel() behind a tie that held", x.quarrel(), NO);
        x = ties(60);
        x.ahead(1, 1);
        x.near(0, 0, 0);
        x.off(0, 1, 1);
        Due.due("quarrel() behind trouble 3", x.quarrel(), NO);
    }

    static void promise10OfTheLatestRefusedBy4() {
        Due.sentence("Promise 10", "QUARREL of the latest near(), ahead(), off() that was refused by 4");
        PictureHeap x = Heaps.onePictureEach(3);
        x.ahead(0, 1);
        x.ahead(1, 2);
        x.ahead(2, 0);
        Due.due("quarrel() of ahead", x.quarrel(), 2);
        x.off(1, -5, 0);
        Due.due("quarrel() of off", x.quarrel(), 1);
        x.near(0, 2, 1);
        Due.due("quarrel() of near", x.quarrel(), 2);
        x.off(0, 1, 1);
        Due.due("quarrel() by the bounds", x.quarrel(), 0);
        x.near(0, 2, 0);
        Due.due("quarrel() of near again", x.quarrel(), 2);
    }

    static void promise10StaysBehindOtherCalls() {
        Due.sentence("Promise 10", "QUARREL of the latest near(), ahead(), off() that was refused by 4");
        PictureHeap x = Heaps.onePictureEach(3);
        x.ahead(0, 1);
        x.ahead(1, 2);
        x.ahead(2, 0);
        x.near(0, 1, 5);
        x.off(2, 0, 100);
        Due.due("quarrel() behind ties that held", x.quarrel(), 2);
        x.near(0, 3, 0);
        x.near(0, 1, 10001);
        x.off(3, 0, 0);
        x.off(1, 1, 0);
        x.ahead(-1, 0);
        x.untie(17);
        x.idle(17);
        x.gap(0);
        x.way(0, 0, 0);
        Due.due("quarrel() behind other troubles", x.quarrel(), 2);
        x.untie(0);
        x.untie(1);
        x.put();
        Due.due("quarrel() behind untie() of its ties", x.quarrel(), 2);
    }

    static void promise10ZeroByItself() {
        Due.sentence("Terms II", "0: it can't by itself");
        Due.Made tied = () -> {
            PictureHeap x = two();
            x.off(1, 5, 5);
            x.near(0, 1, 5);
            x.ahead(1, 2);
            return x;
        };
        quarrels(tied, 0, "ahead(1, 1)", x -> x.ahead(1, 1));
        quarrels(tied, 0, "ahead(2, 1), though a tie says the other", x -> x.ahead(2, 1));
        quarrels(tied, 0, "near(1, 2, 99)", x -> x.near(1, 2, 99));
    }

    static void promise10ZeroByTheBounds() {
        Due.sentence("Terms II", "or by the bounds of OFFSETS alone");
        Due.Made tied = () -> {
            PictureHeap x = Heaps.onePictureEach(2);
            x.off(0, 0, 0);
            x.off(0, -3, 3);
            x.near(0, 1, 0);
            return x;
        };
        quarrels(tied, 0, "off(0, 1, 9), though ties say the other", x -> x.off(0, 1, 9));
        quarrels(tied, 0, "off(0, -9, -1), though ties say the other", x -> x.off(0, -9, -1));
    }

    /** Pictures 0 .. many in a ring of which all but the last tie is told. */
    private static PictureHeap openRing(int many) {
        PictureHeap x = Heaps.onePictureEach(8);
        for (int i = 0; i < many; i++) {
            x.ahead(i, i + 1);
        }
        return x;
    }

    static void promise10FromOneToSeven() {
        Due.sentence("Terms II", "QUARREL: the fewest TIES told (without the new one) with which it can't be");
        for (int many = 1; many <= 7; many++) {
            int last = many;
            quarrels(() -> openRing(last), last, "ahead(" + last + ", 0)", x -> x.ahead(last, 0));
        }
        quarrels(() -> openRing(7), 7, "near(7, 0, 6), 7 apart", x -> x.near(7, 0, 6));
        quarrels(() -> openRing(7), 7, "off(7, -9, 6), 7 apart", x -> x.off(7, -9, 6));
        PictureHeap x = openRing(7);
        Due.taken(x, "near(7, 0, 7), 7 apart", x.near(7, 0, 7), 7);
        Due.due("known()", x.known(), 8);
    }

    static void promise10FewestNotAll() {
        Due.sentence("Terms II", "QUARREL: the fewest TIES told (without the new one) with which it can't be");
        Due.Made shortCut = () -> {
            PictureHeap x = openRing(7);
            x.ahead(2, 6);
            return x;
        };
        quarrels(shortCut, 4, "ahead(7, 0)", x -> x.ahead(7, 0));
        quarrels(shortCut, 7, "near(0, 7, 6): only the long way is 7", x -> x.near(0, 7, 6));
        quarrels(shortCut, 3, "near(0, 6, 2): by the short cut", x -> x.near(0, 6, 2));
        quarrels(shortCut, 6, "near(0, 6, 3): the short cut lets it", x -> x.near(0, 6, 3));
        Due.Made manyLike = () -> {
            PictureHeap x = Heaps.onePictureEach(2);
            for (int i = 0; i < 59; i++) {
                x.off(1, i, 100);
            }
            return x;
        };
        quarrels(manyLike, 1, "off(1, -5, 57)", x -> x.off(1, -5, 57));
        quarrels(manyLike, 1, "off(1, -5, -1): any of 59", x -> x.off(1, -5, -1));
    }

    static void promise10LooseAndTightTies() {
        Due.sentence("Terms II", "QUARREL: the fewest TIES told (without the new one) with which it can't be");
        Due.Made made = () -> {
            PictureHeap x = Heaps.onePictureEach(3);
            x.off(2, -200, 20);
            x.near(1, 2, 10);
            x.off(1, -200, 25);
            return x;
        };
        quarrels(made, 1, "off(1, 36, 90): by 25 alone", x -> x.off(1, 36, 90));
        quarrels(made, 1, "off(1, 31, 90): by 25 alone, not by 20 and 10", x -> x.off(1, 31, 90));
        quarrels(made, 1, "off(1, 26, 90)", x -> x.off(1, 26, 90));
        PictureHeap x = made.heap();
        Due.taken(x, "off(1, 25, 90)", x.off(1, 25, 90), 3);
        Due.range(x, 2, 15, 20);
        Due.Made loose = () -> {
            PictureHeap y = Heaps.onePictureEach(3);
            y.off(2, -200, 20);
            y.near(1, 2, 10);
            y.off(1, -200, 40);
            return y;
        };
        quarrels(loose, 2, "off(1, 31, 90): by 20 and 10, 40 lets it", y -> y.off(1, 31, 90));
        quarrels(loose, 2, "off(1, 40, 90): by 20 and 10, 40 lets it", y -> y.off(1, 40, 90));
        quarrels(loose, 1, "off(1, 41, 90): by 40 alone", y -> y.off(1, 41, 90));
    }

    static void promise10BoundsAreNoTies() {
        Due.sentence("Terms II", "0: .. or by the bounds of OFFSETS alone");
        Due.Made made = () -> {
            PictureHeap x = Heaps.onePictureEach(4);
            x.off(1, 195000, 200000);
            x.near(1, 2, 2000);
            return x;
        };
        quarrels(made, 2, "off(2, 0, 192999)", x -> x.off(2, 0, 192999));
        Due.Made more = () -> {
            PictureHeap x = made.heap();
            x.off(3, 200000, 200000);
            return x;
        };
        quarrels(more, 1, "ahead(3, 1): by 200,000 and a bound", x -> x.ahead(3, 1));
        quarrels(more, 1, "ahead(3, 2): by 200,000 and a bound", x -> x.ahead(3, 2));
        quarrels(more, 1, "ahead(3, 0): by 200,000 alone", x -> x.ahead(3, 0));
    }

    static void promise10TiesTakenOutCountNoMore() {
        Due.sentence("Terms II", "QUARREL: the fewest TIES told (without the new one) with which it can't be");
        for (int shortCut : new int[] {0, 4, 7}) {
            PictureHeap x = Heaps.onePictureEach(8);
            for (int i = 0; i < 8; i++) {
                int step = i < shortCut ? i : i - 1;
                Due.due("tie " + i, i == shortCut ? x.ahead(0, 2) : x.ahead(step, step + 1), i);
            }
            Due.due("ahead(2, 0), the short cut told", x.ahead(2, 0), NO);
            Due.due("quarrel()", x.quarrel(), 1);
            x.untie(shortCut);
            Due.due("ahead(2, 0), the short cut taken out", x.ahead(2, 0), NO);
            Due.due("quarrel()", x.quarrel(), 2);
            Due.due("ahead(7, 0)", x.ahead(7, 0), NO);
            Due.due("quarrel()", x.quarrel(), 7);
        }
    }

    static void promise11TakenOut() {
        Due.sentence("Promise 11", "A TIE is taken out: true");
        PictureHeap x = two();
        x.near(0, 1, 10);
        x.off(1, 0, 5);
        x.ahead(0, 1);
        Due.range(x, 1, 1, 5);
        Due.taken(x, "untie(1)", x.untie(1));
        Due.range(x, 1, 1, 10);
        Due.taken(x, "untie(2)", x.untie(2));
        Due.range(x, 1, -10, 10);
        Due.taken(x, "untie(0), the last", x.untie(0));
        Due.range(x, 1, -200000, 200000);
        Due.due("count(3)", x.count(3), 0);
        Due.due("count(4)", x.count(4), 3);
    }

    static void promise11AllSixty() {
        Due.sentence("Promise 11", "A TIE is taken out: true");
        PictureHeap x = ties(60);
        for (int i = 0; i < 60; i++) {
            int tie = i * 7 % 60;
            Due.taken(x, "untie(" + tie + ")", x.untie(tie));
        }
        Due.due("count(3)", x.count(3), 0);
        Due.range(x, 1, -200000, 200000);
        for (int i = 0; i < 60; i++) {
            Due.due("untie(" + i + ") again", x.untie(i), false);
        }
        Due.taken(x, "off", x.off(1, 3, 3), 60);
        Due.range(x, 1, 3, 3);
    }

    static void promise11NoneSuch() {
        Due.sentence("Promise 11", "false (1)");
        for (int nobody : Due.NOBODY) {
            Due.refusedFalse(Heaps::some, 1, "untie(" + nobody + ")", x -> x.untie(nobody));
        }
        Due.refusedFalse(Heaps::some, 1, "untie(4), not given yet", x -> x.untie(4));
        Due.refusedFalse(Heaps::some, 1, "untie(2), taken out", x -> x.untie(2));
        Due.refusedFalse(Heaps::full, 1, "untie(60), not given yet", x -> x.untie(60));
        Due.refusedFalse(() -> Heaps.onePictureEach(2), 1, "untie(0), none told", x -> x.untie(0));
        PictureHeap x = two();
        x.ahead(1, 1);
        Due.due("untie(0) of a refused one", x.untie(0), false);
        Due.due("trouble()", x.trouble(), 1);
    }

    static void promise11LetsARefusedOneIn() {
        Due.sentence("Promise 11", "A TIE is taken out: true");
        PictureHeap x = openRing(7);
        Due.due("ahead(7, 0)", x.ahead(7, 0), NO);
        Due.taken(x, "untie(3)", x.untie(3));
        Due.taken(x, "ahead(7, 0)", x.ahead(7, 0), 7);
        Due.due("ahead(3, 4)", x.ahead(3, 4), NO);
        Due.due("quarrel()", x.quarrel(), 7);
    }

    static void promise11LeavesWhatIsPut() {
        Due.sentence("Promise 18", "What is told below is by the latest put()");
        PictureHeap x = two();
        x.off(1, 5, 5);
        x.put();
        x.untie(0);
        Due.due("offset(1)", x.offset(1), 5);
        x.put();
        Due.due("offset(1), put again", x.offset(1), 0);
    }

    static void promise12NoneSuch() {
        Due.sentence("Promise 12", "NONE (1)");
        for (int nobody : Due.NOBODY) {
            Due.refused(Heaps::some, 1, "idle(" + nobody + ")", x -> x.idle(nobody));
        }
        Due.refused(Heaps::some, 1, "idle(4), not given yet", x -> x.idle(4));
        Due.refused(Heaps::some, 1, "idle(2), taken out", x -> x.idle(2));
        Due.refused(Heaps::full, 1, "idle(60), not given yet", x -> x.idle(60));
        Due.refused(() -> Heaps.onePictureEach(2), 1, "idle(0), none told", x -> x.idle(0));
    }

    static void promise12LeavesAllAsItIs() {
        Due.sentence("Promise 12", "Whether a TIE is of no matter");
        for (int i : new int[] {0, 1, 3}) {
            Due.changesNothing(Heaps::some, "idle(" + i + ")", x -> x.idle(i));
        }
        Due.changesNothing(Heaps::full, "idle(0)", x -> x.idle(0));
        Due.changesNothing(Heaps::full, "idle(59)", x -> x.idle(59));
    }

    static void promise12OfTheBoundsAlone() {
        Due.sentence("Promise 12", "without it each CAMERA's RANGE would be the same: 1, 0");
        int[][] offs = {{-200000, 200000, 1}, {-199999, 200000, 0}, {-200000, 199999, 0}};
        for (int[] o : offs) {
            PictureHeap x = Heaps.cameras(2);
            x.off(1, o[0], o[1]);
            Due.taken(x, "idle(0) of off(1, " + o[0] + ", " + o[1] + ")", x.idle(0), o[2]);
        }
        PictureHeap x = Heaps.cameras(1);
        x.off(0, 0, 0);
        Due.taken(x, "idle(0) of off(0, 0, 0)", x.idle(0), 1);
    }

    static void promise12OfOneCamera() {
        Due.sentence("Promise 12", "without it each CAMERA's RANGE, and what between() tells of any two, would be the same");
        PictureHeap x = two();
        x.near(1, 2, 100);
        x.ahead(1, 2);
        x.near(1, 1, 0);
        for (int tie = 0; tie < 3; tie++) {
            Due.taken(x, "idle(" + tie + ")", x.idle(tie), 1);
        }
    }

    static void promise12TwiceTheSame() {
        Due.sentence("Promise 12", "without it each CAMERA's RANGE .. would be the same: 1, 0");
        PictureHeap x = two();
        x.near(0, 1, 10);
        Due.due("idle(0) alone", x.idle(0), 0);
        x.off(1, -10, 10);
        Due.due("idle(0) of two", x.idle(0), 1);
        Due.due("idle(1) of two", x.idle(1), 1);
        x.untie(0);
        Due.due("idle(1) alone again", x.idle(1), 0);
        x.near(0, 1, 9);
        Due.due("idle(1), wider by one", x.idle(1), 1);
        Due.due("idle(2), tighter by one", x.idle(2), 0);
    }

    static void promise12OneSideAlone() {
        Due.sentence("Promise 12", "without it each CAMERA's RANGE .. would be the same: 1, 0");
        PictureHeap x = two();
        x.near(0, 1, 10);
        x.off(1, -10, 9);
        Due.due("idle(0)", x.idle(0), 1);
        Due.due("idle(1): the greatest", x.idle(1), 0);
        x.untie(1);
        x.off(1, -9, 10);
        Due.due("idle(0)", x.idle(0), 1);
        Due.due("idle(2): the least", x.idle(2), 0);
    }

    static void promise12BetweenAlone() {
        Due.sentence("Promise 12", "and what between() tells of any two, would be the same");
        PictureHeap x = Heaps.onePictureEach(3);
        x.off(1, 0, 10);
        x.off(2, 0, 10);
        x.near(1, 2, 10);
        Due.due("idle(2): at most 10 apart by the offs", x.idle(2), 1);
        x.near(1, 2, 9);
        Due.due("idle(3): ranges stay, between() is 10 without it", x.idle(3), 0);
        Due.due("idle(2) beside it", x.idle(2), 1);
    }

    static void promise12ByAChain() {
        Due.sentence("Promise 12", "without it each CAMERA's RANGE, and what between() tells of any two, would be the same");
        PictureHeap x = openRing(7);
        x.ahead(0, 7);
        Due.due("idle(7): 7 behind by the others", x.idle(7), 1);
        for (int tie = 0; tie < 7; tie++) {
            Due.due("idle(" + tie + ")", x.idle(tie), 0);
        }
        x.off(7, 7, 200000);
        Due.due("idle(8): 7 behind by the others", x.idle(8), 1);
        x.off(7, 8, 200000);
        Due.due("idle(9)", x.idle(9), 0);
        Due.due("idle(8)", x.idle(8), 1);
    }

    static void promise12DrawsTheBoundIn() {
        Due.sentence("Promise 12", "without it each CAMERA's RANGE .. would be the same: 1, 0");
        PictureHeap x = Heaps.onePictureEach(3);
        x.ahead(1, 2);
        Due.due("idle(0): range(2, false) is one more", x.idle(0), 0);
        x.off(1, -100, 100);
        x.off(2, 101, 200);
        Due.due("idle(0): surely ahead by the others", x.idle(0), 1);
        x.untie(2);
        x.off(2, 100, 200);
        Due.due("idle(0): not surely ahead by the others", x.idle(0), 0);
    }

    public static void main(String[] args) throws Exception {
        Due.runAll(BoundsOfTiesTest.class);
    }
}
