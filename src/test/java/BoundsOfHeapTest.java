/** Boundary cases of the head of the document, the constants and promises 1 to 6: a test for each sentence. */
public final class BoundsOfHeapTest {
    private static final int NO = Due.NO;
    private static final int UNKNOWN = Due.UNKNOWN;

    static void headThe512thCallIsAsDue() {
        Due.sentence("What it is", "An object is used for at most 512 calls after it has been made");
        PictureHeap x = Heaps.cameras(2);
        for (int i = 0; i < 60; i++) {
            Due.due("off, call " + (3 + i), x.off(1, -100000 + i % 7, 100000), i);
        }
        for (int i = 0; i < 225; i++) {
            Due.due("untie, call " + (63 + 2 * i), x.untie(i), true);
            Due.due("off, call " + (64 + 2 * i), x.off(1, -100000 + i % 7, 100000), 60 + i);
        }
    }

    static void headThe512thCallTellsAllOfAFullHeap() {
        Due.sentence("What it is", "An object is used for at most 512 calls after it has been made");
        PictureHeap x = Heaps.full();
        for (int i = 198; i < 510; i++) {
            Due.due("picture, call " + (i + 1), x.picture(0, 0, 0, NO), NO);
        }
        Due.due("put, call 511", x.put(), 120);
        Due.due("days, call 512", x.days(), 1);
    }

    static void constantNone() {
        Due.sentence("Constants", "NONE = -1: There is none; refused.");
        Due.due("NONE", PictureHeap.NONE, -1);
    }

    static void constantUnknown() {
        Due.sentence("Constants", "UNKNOWN = -1000000: Nothing for certain.");
        Due.due("UNKNOWN", PictureHeap.UNKNOWN, -1000000);
    }

    static void promise01NoCameras() {
        Due.sentence("Promise 1", "No CAMERAS");
        PictureHeap x = new PictureHeap();
        Due.due("count(0)", x.count(0), 0);
        Due.due("known()", x.known(), 0);
        Due.due("range(0, false)", x.range(0, false), UNKNOWN);
        Due.due("range(0, true)", x.range(0, true), UNKNOWN);
        Due.refused(PictureHeap::new, 1, "picture(0, 0, 0, -1)", y -> y.picture(0, 0, 0, -1));
        Due.refused(PictureHeap::new, 1, "off(0, 0, 0)", y -> y.off(0, 0, 0));
    }

    static void promise01NoPictures() {
        Due.sentence("Promise 1", "no PICTURES");
        PictureHeap x = new PictureHeap();
        Due.due("count(2)", x.count(2), 0);
        Due.due("unsure()", x.unsure(), 0);
        Due.due("between(0, 0, true)", x.between(0, 0, true), UNKNOWN);
        Due.due("order(0, 0)", x.order(0, 0), NO);
        Due.due("can(0)", x.can(0), NO);
        Due.due("found()", x.found(), 0);
        Due.due("strange()", x.strange(), -2);
        Due.due("put()", x.put(), 0);
        Due.refused(PictureHeap::new, 1, "near(0, 0, 0)", y -> y.near(0, 0, 0));
        Due.refused(PictureHeap::new, 1, "ahead(0, 0)", y -> y.ahead(0, 0));
    }

    static void promise01NoPlaces() {
        Due.sentence("Promise 1", "no PLACES");
        Due.due("count(1)", new PictureHeap().count(1), 0);
        Due.refusedFalse(PictureHeap::new, 1, "way(0, 1, 0)", y -> y.way(0, 1, 0));
        Due.refused(() -> Heaps.cameras(1), 1, "picture(0, 0, 0, 0)", y -> y.picture(0, 0, 0, 0));
        PictureHeap x = Heaps.clocks(5);
        Due.due("can(0)", x.can(0), 0);
    }

    static void promise01NoTies() {
        Due.sentence("Promise 1", "A new object");
        PictureHeap x = new PictureHeap();
        Due.due("count(3)", x.count(3), 0);
        Due.due("count(4)", x.count(4), 0);
        Due.due("quarrel()", x.quarrel(), NO);
        Due.due("trouble()", x.trouble(), 0);
        Due.refusedFalse(PictureHeap::new, 1, "untie(0)", y -> y.untie(0));
        Due.refused(PictureHeap::new, 1, "idle(0)", y -> y.idle(0));
    }

    static void promise01ObjectsShareNothing() {
        Due.sentence("Promise 1", "A new object");
        PictureHeap full = Heaps.full();
        full.put();
        full.gap(1);
        full.off(9, 0, 0);
        PictureHeap x = new PictureHeap();
        for (int what = 0; what <= 4; what++) {
            Due.due("count(" + what + ") beside a full one", x.count(what), 0);
        }
        Due.due("trouble() beside a full one", x.trouble(), 0);
        Due.due("days() beside a full one", x.days(), NO);
        Due.due("camera() beside a full one", x.camera(), 0);
        Due.due("place() beside a full one", x.place(), 0);
        Due.due("picture() beside a full one", x.picture(0, 0, 0, 0), 0);
        Due.due("off() beside a full one", x.off(0, 0, 0), 0);
        Due.due("count(2) of the full one", full.count(2), 120);
    }

    static void promise02NumbersFrom0To7() {
        Due.sentence("Promise 2", "A CAMERA more: its number (CAMERAS 8)");
        PictureHeap x = new PictureHeap();
        for (int i = 0; i < 8; i++) {
            Due.due("range(" + i + ", true) ahead of it", x.range(i, true), UNKNOWN);
            Due.taken(x, "camera()", x.camera(), i);
            Due.due("count(0)", x.count(0), i + 1);
            Due.due("range(" + i + ", true)", x.range(i, true), i == 0 ? 0 : 200000);
        }
    }

    static void promise02TheNinthIsRefused() {
        Due.sentence("Promise 2", "NONE (3)");
        Due.refused(() -> Heaps.cameras(8), 3, "ninth camera()", x -> x.camera());
        Due.refused(Heaps::full, 3, "ninth camera() of a full heap", x -> x.camera());
        PictureHeap x = Heaps.cameras(8);
        x.camera();
        Due.due("tenth camera()", x.camera(), NO);
        Due.due("count(0)", x.count(0), 8);
        Due.due("range(8, true)", x.range(8, true), UNKNOWN);
        Due.due("known()", x.known(), 1);
    }

    static void promise02TheEighthIsLikeTheOthers() {
        Due.sentence("Promise 2", "CAMERAS 8");
        PictureHeap x = Heaps.cameras(8);
        Due.taken(x, "picture(7, 9, 0, -1)", x.picture(7, 9, 0, -1), 0);
        Due.taken(x, "off(7, 5, 6)", x.off(7, 5, 6), 0);
        Due.due("range(7, false)", x.range(7, false), 5);
        x.put();
        Due.due("offset(7)", x.offset(7), 5);
        Due.due("time(0)", x.time(0), 14);
    }

    static void promise03NumbersFrom0To9() {
        Due.sentence("Promise 3", "A PLACE more: its number (PLACES 10)");
        PictureHeap x = Heaps.clocks(0);
        for (int i = 0; i < 10; i++) {
            Due.due("can(0) ahead of it", x.can(0), (1 << i) - 1);
            Due.taken(x, "place()", x.place(), i);
            Due.due("count(1)", x.count(1), i + 1);
        }
        Due.due("can(0)", x.can(0), 1023);
    }

    static void promise03TheEleventhIsRefused() {
        Due.sentence("Promise 3", "NONE (3)");
        Due.refused(() -> Heaps.places(10), 3, "eleventh place()", x -> x.place());
        Due.refused(Heaps::full, 3, "eleventh place() of a full heap", x -> x.place());
        PictureHeap x = Heaps.places(10);
        x.picture(0, 0, 0, -1);
        x.place();
        Due.due("twelfth place()", x.place(), NO);
        Due.due("count(1)", x.count(1), 10);
        Due.due("can(0)", x.can(0), 1023);
    }

    static void promise03TheTenthIsLikeTheOthers() {
        Due.sentence("Promise 3", "PLACES 10");
        PictureHeap x = Heaps.places(10);
        Due.taken(x, "picture(0, 100, 0, 9)", x.picture(0, 100, 0, 9), 0);
        Due.taken(x, "picture(0, 110, 0, -1)", x.picture(0, 110, 0, -1), 1);
        Due.taken(x, "way(9, 8, 11)", x.way(9, 8, 11));
        Due.taken(x, "way(0, 9, 11)", x.way(0, 9, 11));
        Due.due("can(0)", x.can(0), 512);
        Due.due("can(1)", x.can(1), 1023 - 256 - 1);
    }

    static void promise03CamerasTakeNoRoomOfPlaces() {
        Due.sentence("Promise 3", "NONE (3)");
        PictureHeap x = Heaps.cameras(8);
        x.camera();
        Due.taken(x, "place() of a heap full of cameras", x.place(), 0);
        x = Heaps.places(10);
        x.place();
        Due.taken(x, "camera() of a heap full of places", x.camera(), 2);
    }

    /** Place 0 known at clock 50,000, and a picture without a place that many minutes from it. */
    private static PictureHeap apart(int minutes) {
        PictureHeap x = Heaps.places(3);
        x.picture(0, 50000, 0, 0);
        x.picture(0, 50000 + minutes, 0, -1);
        return x;
    }

    static void promise04Takes0Minutes() {
        Due.sentence("Promise 4", "The WAY between two PLACES: true (0 .. 10,000)");
        PictureHeap x = apart(0);
        Due.taken(x, "way(0, 1, 0)", x.way(0, 1, 0));
        Due.due("can(1)", x.can(1), 7);
        Due.taken(x, "way(0, 1, 1)", x.way(0, 1, 1));
        Due.due("can(1)", x.can(1), 5);
        Due.taken(x, "way(0, 1, 0) again", x.way(0, 1, 0));
        Due.due("can(1)", x.can(1), 7);
    }

    static void promise04Takes10000Minutes() {
        Due.sentence("Promise 4", "The WAY between two PLACES: true (0 .. 10,000)");
        PictureHeap x = apart(9999);
        Due.taken(x, "way(0, 1, 9999)", x.way(0, 1, 9999));
        Due.due("can(1)", x.can(1), 7);
        Due.taken(x, "way(0, 1, 10000)", x.way(0, 1, 10000));
        Due.due("can(1)", x.can(1), 5);
        x = apart(10000);
        x.way(0, 1, 10000);
        Due.due("can(1), 10,000 apart", x.can(1), 7);
    }

    static void promise04CountsBothWays() {
        Due.sentence("Promise 4", "The WAY between two PLACES");
        PictureHeap x = apart(10);
        Due.taken(x, "way(1, 0, 11)", x.way(1, 0, 11));
        Due.due("can(1)", x.can(1), 5);
        Due.taken(x, "way(0, 1, 10)", x.way(0, 1, 10));
        Due.due("can(1)", x.can(1), 7);
        Due.taken(x, "way(0, 2, 11)", x.way(0, 2, 11));
        Due.due("can(1)", x.can(1), 3);
        Due.taken(x, "way(2, 0, 10)", x.way(2, 0, 10));
        Due.due("can(1)", x.can(1), 7);
    }

    static void promise04NoSuchPlace() {
        Due.sentence("Promise 4", "false: 1");
        for (int nobody : Due.NOBODY) {
            Due.refusedFalse(Heaps::some, 1, "way(" + nobody + ", 0, 5)", x -> x.way(nobody, 0, 5));
            Due.refusedFalse(Heaps::some, 1, "way(0, " + nobody + ", 5)", x -> x.way(0, nobody, 5));
        }
        Due.refusedFalse(Heaps::some, 1, "way(3, 0, 5), places 0 to 2", x -> x.way(3, 0, 5));
        Due.refusedFalse(Heaps::some, 1, "way(0, 3, 5), places 0 to 2", x -> x.way(0, 3, 5));
        Due.refusedFalse(Heaps::full, 1, "way(10, 0, 5), all places", x -> x.way(10, 0, 5));
        Due.refusedFalse(Heaps::full, 1, "way(0, 10, 5), all places", x -> x.way(0, 10, 5));
        Due.refusedFalse(() -> Heaps.places(1), 1, "way(0, 1, 5), place 0 alone", x -> x.way(0, 1, 5));
    }

    static void promise04AWayToAPlaceThatComesLaterIsNotKept() {
        Due.sentence("Promise 4", "false: 1");
        PictureHeap x = apart(0);
        x.way(0, 3, 60);
        x.way(3, 0, 60);
        x.place();
        Due.due("can(1)", x.can(1), 15);
    }

    static void promise04OneWithItself() {
        Due.sentence("Promise 4", "1 (also one with itself)");
        for (int i = 0; i < 3; i++) {
            int place = i;
            Due.refusedFalse(Heaps::some, 1, "way(" + i + ", " + i + ", 5)", x -> x.way(place, place, 5));
            Due.refusedFalse(Heaps::some, 1, "way(" + i + ", " + i + ", 0)", x -> x.way(place, place, 0));
        }
        Due.refusedFalse(Heaps::full, 1, "way(9, 9, 10000)", x -> x.way(9, 9, 10000));
        PictureHeap x = apart(0);
        x.way(0, 0, 10000);
        Due.due("can(1)", x.can(1), 7);
        Due.due("strange()", x.strange(), -2);
    }

    static void promise04ANumber() {
        Due.sentence("Promise 4", "false: 2");
        Due.refusedFalse(Heaps::some, 2, "way(0, 1, -1)", x -> x.way(0, 1, -1));
        Due.refusedFalse(Heaps::some, 2, "way(0, 1, 10001)", x -> x.way(0, 1, 10001));
        Due.refusedFalse(Heaps::some, 2, "way(0, 1, 65536)", x -> x.way(0, 1, 65536));
        for (int wild : Due.WILD) {
            Due.refusedFalse(Heaps::some, 2, "way(0, 1, " + wild + ")", x -> x.way(0, 1, wild));
            Due.refusedFalse(Heaps::some, 2, "way(2, 0, " + wild + ")", x -> x.way(2, 0, wild));
        }
    }

    static void promise04NoneSuchComesAheadOfANumber() {
        Due.sentence("Promise 4", "false: 1 (also one with itself); 2");
        Due.refusedFalse(Heaps::some, 1, "way(0, 3, -1)", x -> x.way(0, 3, -1));
        Due.refusedFalse(Heaps::some, 1, "way(-1, 0, 10001)", x -> x.way(-1, 0, 10001));
        Due.refusedFalse(Heaps::some, 1, "way(1, 1, 10001)", x -> x.way(1, 1, 10001));
    }

    static void promise05NumbersFrom0To119() {
        Due.sentence("Promise 5", "A PICTURE: its number (PICTURES 120)");
        PictureHeap x = Heaps.cameras(8);
        for (int i = 0; i < 120; i++) {
            Due.taken(x, "picture()", x.picture(i * 5 % 8, i, i, -1), i);
        }
        Due.due("count(2)", x.count(2), 120);
        Due.due("between(111, 119, true), of one camera", x.between(111, 119, true), 8);
        Due.due("can(119)", x.can(119), 0);
        Due.due("can(120)", x.can(120), NO);
    }

    static void promise05AllOfOneCamera() {
        Due.sentence("Promise 5", "A PICTURE: its number (PICTURES 120)");
        PictureHeap x = Heaps.cameras(1);
        for (int i = 0; i < 120; i++) {
            Due.due("picture()", x.picture(0, 7, 7, -1), i);
        }
        Due.due("picture() 121", x.picture(0, 7, 7, -1), NO);
        Due.due("trouble()", x.trouble(), 3);
    }

    static void promise05NoRoom() {
        Due.sentence("Promise 5", "NONE: 3");
        Due.refused(Heaps::full, 3, "picture(0, 0, 0, -1)", x -> x.picture(0, 0, 0, -1));
        Due.refused(Heaps::full, 3, "picture(7, 100000, 65535, 9)", x -> x.picture(7, 100000, 65535, 9));
    }

    static void promise05NoSuchCamera() {
        Due.sentence("Promise 5", "NONE: 1 (CAMERA)");
        for (int nobody : Due.NOBODY) {
            Due.refused(Heaps::some, 1, "picture(" + nobody + ", 0, 0, -1)", x -> x.picture(nobody, 0, 0, -1));
        }
        Due.refused(Heaps::some, 1, "picture(3, 0, 0, -1), cameras 0 to 2", x -> x.picture(3, 0, 0, -1));
        Due.refused(() -> Heaps.cameras(8), 1, "picture(8, 0, 0, -1), all cameras", x -> x.picture(8, 0, 0, -1));
        PictureHeap x = Heaps.some();
        Due.taken(x, "picture(2, 0, 0, -1), cameras 0 to 2", x.picture(2, 0, 0, -1), 5);
    }

    static void promise05NoSuchPlace() {
        Due.sentence("Promise 5", "NONE: 1 (PLACE)");
        for (int nobody : Due.NOBODY) {
            if (nobody != -1) {
                Due.refused(Heaps::some, 1, "picture(0, 0, 0, " + nobody + ")", x -> x.picture(0, 0, 0, nobody));
            }
        }
        Due.refused(Heaps::some, 1, "picture(0, 0, 0, 3), places 0 to 2", x -> x.picture(0, 0, 0, 3));
        Due.refused(() -> Heaps.places(10), 1, "picture(0, 0, 0, 10), all places", x -> x.picture(0, 0, 0, 10));
        PictureHeap x = Heaps.some();
        Due.taken(x, "picture(0, 0, 0, 2), places 0 to 2", x.picture(0, 0, 0, 2), 5);
        Due.due("can(5)", x.can(5), 4);
    }

    static void promise05PlaceNotKnown() {
        Due.sentence("Promise 5", "PLACE -1: not known");
        PictureHeap x = Heaps.cameras(1);
        Due.taken(x, "picture(0, 0, 0, -1) without places", x.picture(0, 0, 0, -1), 0);
        Due.due("can(0)", x.can(0), 0);
        x.place();
        x.place();
        Due.due("can(0) with places", x.can(0), 3);
        Due.taken(x, "picture(0, 0, 0, 0)", x.picture(0, 0, 0, 0), 1);
        Due.due("can(1)", x.can(1), 1);
        Due.due("found(): 0 may be at both, 1 is known", x.found(), 0);
    }

    static void promise05ClockFrom0To100000() {
        Due.sentence("Promise 5", "NONE: 2 (CLOCK 0 .. 100,000)");
        Due.refused(Heaps::some, 2, "picture(0, -1, 0, -1)", x -> x.picture(0, -1, 0, -1));
        Due.refused(Heaps::some, 2, "picture(0, 100001, 0, -1)", x -> x.picture(0, 100001, 0, -1));
        for (int wild : Due.WILD) {
            Due.refused(Heaps::some, 2, "picture(0, " + wild + ", 0, -1)", x -> x.picture(0, wild, 0, -1));
        }
        PictureHeap x = Heaps.cameras(1);
        Due.taken(x, "picture(0, 0, 0, -1)", x.picture(0, 0, 0, -1), 0);
        Due.taken(x, "picture(0, 100000, 0, -1)", x.picture(0, 100000, 0, -1), 1);
        Due.due("between(0, 1, true)", x.between(0, 1, true), 100000);
        x.put();
        Due.due("time(0)", x.time(0), 0);
        Due.due("time(1)", x.time(1), 100000);
    }

    static void promise05MarksFrom0To65535() {
        Due.sentence("Promise 5", "NONE: 2 (MARKS 0 .. 65,535)");
        Due.refused(Heaps::some, 2, "picture(0, 0, -1, -1)", x -> x.picture(0, 0, -1, -1));
        Due.refused(Heaps::some, 2, "picture(0, 0, 65536, -1)", x -> x.picture(0, 0, 65536, -1));
        for (int wild : Due.WILD) {
            Due.refused(Heaps::some, 2, "picture(0, 0, " + wild + ", -1)", x -> x.picture(0, 0, wild, -1));
        }
        PictureHeap x = Heaps.cameras(2);
        Due.taken(x, "picture(0, 10, 0, -1)", x.picture(0, 10, 0, -1), 0);
        Due.taken(x, "picture(0, 12, 65535, -1)", x.picture(0, 12, 65535, -1), 1);
        Due.taken(x, "picture(1, 12, 65535, -1)", x.picture(1, 12, 65535, -1), 2);
        x.put();
        Due.due("doubles(): all sixteen bits are kept", x.doubles(), 1);
        Due.due("bursts(): 16 bits apart", x.bursts(), 0);
    }

    static void promise05NoneSuchThenANumberThenNoRoom() {
        Due.sentence("Promise 5", "NONE: 1 (CAMERA, PLACE); 2 (CLOCK, MARKS 0 .. 65,535); 3");
        Due.refused(Heaps::full, 1, "camera and clock wrong", x -> x.picture(8, -1, 0, -1));
        Due.refused(Heaps::full, 1, "place and marks wrong", x -> x.picture(0, 0, -1, 10));
        Due.refused(Heaps::full, 1, "camera wrong, no room", x -> x.picture(-1, 0, 0, -1));
        Due.refused(Heaps::full, 1, "place wrong, no room", x -> x.picture(0, 0, 0, -2));
        Due.refused(Heaps::full, 2, "clock wrong, no room", x -> x.picture(0, 100001, 0, -1));
        Due.refused(Heaps::full, 2, "marks wrong, no room", x -> x.picture(0, 0, 65536, -1));
        Due.refused(Heaps::some, 1, "camera and marks wrong", x -> x.picture(3, 0, 65536, -1));
        Due.refused(Heaps::some, 1, "place and clock wrong", x -> x.picture(0, -1, 0, 3));
    }

    static void promise06At360First() {
        Due.sentence("Promise 6", "GAP (1 .. 10,000; 360 at first)");
        PictureHeap x = Heaps.clocks(0, 360);
        x.put();
        Due.due("days(), 360 apart", x.days(), 1);
        x = Heaps.clocks(0, 361);
        x.put();
        Due.due("days(), 361 apart", x.days(), 2);
    }

    static void promise06Takes1() {
        Due.sentence("Promise 6", "GAP becomes it: true (1 .. 10,000)");
        PictureHeap x = Heaps.clocks(0, 1, 3);
        x.put();
        Due.taken(x, "gap(1)", x.gap(1));
        Due.due("days()", x.days(), 2);
        Due.due("day(0, 1)", x.day(0, 1), 2);
        Due.taken(x, "gap(2)", x.gap(2));
        Due.due("days()", x.days(), 1);
    }

    static void promise06Takes10000() {
        Due.sentence("Promise 6", "GAP becomes it: true (1 .. 10,000)");
        PictureHeap x = Heaps.clocks(0, 10000, 20001);
        x.put();
        Due.taken(x, "gap(9999)", x.gap(9999));
        Due.due("days()", x.days(), 3);
        Due.taken(x, "gap(10000)", x.gap(10000));
        Due.due("days()", x.days(), 2);
        Due.due("day(1, 0)", x.day(1, 0), 2);
    }

    static void promise06ANumber() {
        Due.sentence("Promise 6", "false (2)");
        Due.refusedFalse(Heaps::some, 2, "gap(0)", x -> x.gap(0));
        Due.refusedFalse(Heaps::some, 2, "gap(-1)", x -> x.gap(-1));
        Due.refusedFalse(Heaps::some, 2, "gap(10001)", x -> x.gap(10001));
        Due.refusedFalse(Heaps::some, 2, "gap(65537)", x -> x.gap(65537));
        Due.refusedFalse(PictureHeap::new, 2, "gap(0) of a new one", x -> x.gap(0));
        for (int wild : Due.WILD) {
            Due.refusedFalse(Heaps::some, 2, "gap(" + wild + ")", x -> x.gap(wild));
        }
    }

    static void promise06ARefusedOneLeavesGap() {
        Due.sentence("Promise 6", "false (2)");
        PictureHeap x = Heaps.clocks(0, 50, 101);
        x.put();
        x.gap(50);
        for (int minutes : new int[] {0, 10001, -50, Integer.MAX_VALUE, Integer.MIN_VALUE}) {
            Due.due("gap(" + minutes + ")", x.gap(minutes), false);
            Due.due("days()", x.days(), 2);
        }
    }

    static void promise06OfANewObject() {
        Due.sentence("Promise 6", "GAP becomes it: true");
        PictureHeap x = new PictureHeap();
        Due.taken(x, "gap(5) of a new one", x.gap(5));
        Due.due("days() of a new one", x.days(), NO);
        x.camera();
        x.picture(0, 0, 0, -1);
        x.picture(0, 6, 0, -1);
        x.put();
        Due.due("days()", x.days(), 2);
    }

    public static void main(String[] args) throws Exception {
        Due.runAll(BoundsOfHeapTest.class);
    }
}
