/** Boundary cases of promises 27 to 31, places, counts and troubles: a test for each sentence. */
public final class BoundsOfPlacesTest {
    private static final int NO = Due.NO;

    static void promise27NoSuchPicture() {
        Due.sentence("Promise 27", "NONE for no such one");
        PictureHeap none = new PictureHeap();
        PictureHeap some = Heaps.some();
        for (int nobody : Due.NOBODY) {
            Due.due("can(" + nobody + ") of none", none.can(nobody), NO);
            Due.due("can(" + nobody + ")", some.can(nobody), NO);
        }
        Due.due("can(0) of none", none.can(0), NO);
        Due.due("can(4), pictures 0 to 4", some.can(4), 1 + 4);
        Due.due("can(5), pictures 0 to 4", some.can(5), NO);
        PictureHeap full = Heaps.full();
        Due.due("can(117), all pictures", full.can(117), 1 << 7);
        Due.due("can(120), all pictures", full.can(120), NO);
    }

    static void promise27ItsOwnIfItIsKnown() {
        Due.sentence("Terms III", "A PICTURE CAN have been at a PLACE: its own, if it is known");
        PictureHeap x = Heaps.places(10);
        for (int place = 0; place < 10; place++) {
            x.picture(0, 50, 0, place);
        }
        for (int one = 0; one < 10; one++) {
            for (int other = 0; other < one; other++) {
                x.way(one, other, 10000);
            }
        }
        for (int place = 0; place < 10; place++) {
            Due.due("can(" + place + "), though all quarrel", x.can(place), 1 << place);
        }
        x.picture(0, 50, 0, -1);
        Due.due("can(10): each place is too far from another", x.can(10), 0);
    }

    static void promise27AllTenPlaces() {
        Due.sentence("Promise 27", "PLACES at which a PICTURE CAN have been, as bits");
        for (int many = 0; many <= 10; many++) {
            PictureHeap x = Heaps.places(many);
            x.picture(0, 0, 0, -1);
            Due.due("can(0) with " + many + " places", x.can(0), (1 << many) - 1);
        }
    }

    /** Picture 0 at place 0, clock 1000; picture 1 without one so many minutes behind; the way to place 1 is 30. */
    private static PictureHeap behind(int minutes) {
        PictureHeap x = Heaps.places(3);
        x.way(0, 1, 30);
        x.picture(0, 1000, 0, 0);
        x.picture(0, 1000 + minutes, 0, -1);
        return x;
    }

    static void promise27AtLeastTheWay() {
        Due.sentence("Terms III", "at least the WAY from there apart by CLOCK");
        int[][] minutes = {{31, 7}, {30, 7}, {29, 5}, {0, 5}, {-29, 5}, {-30, 7}, {-31, 7}};
        for (int[] m : minutes) {
            Due.due("can(1), " + m[0] + " minutes behind", behind(m[0]).can(1), m[1]);
        }
    }

    static void promise27WidestWayAndClocks() {
        Due.sentence("Terms III", "WAYS: minutes between two PLACES (0 .. 10,000)");
        PictureHeap x = Heaps.places(2);
        x.way(0, 1, 10000);
        x.picture(0, 0, 0, 0);
        x.picture(0, 100000, 0, -1);
        x.picture(0, 10000, 0, -1);
        x.picture(0, 9999, 0, -1);
        Due.due("can(1), 100,000 behind", x.can(1), 3);
        Due.due("can(2), 10,000 behind", x.can(2), 3);
        Due.due("can(3), 9,999 behind", x.can(3), 1);
    }

    static void promise27ZeroUntilTold() {
        Due.sentence("Terms III", "0 until told");
        PictureHeap x = Heaps.places(10);
        x.picture(0, 5, 0, 4);
        x.picture(0, 5, 0, -1);
        Due.due("can(1), at the same time", x.can(1), 1023);
        x.picture(0, 5, 0, 7);
        Due.due("strange()", x.strange(), -2);
        x.way(4, 7, 1);
        Due.due("can(1), a way told", x.can(1), 1023 - 16 - 128);
        Due.due("strange(), a way told", x.strange(), 0);
    }

    static void promise27ThoseToldAreAllThatCounts() {
        Due.sentence("Terms III", "those told are all that counts");
        PictureHeap x = Heaps.places(3);
        x.way(0, 1, 10);
        x.way(1, 2, 10);
        x.picture(0, 100, 0, 0);
        x.picture(0, 105, 0, -1);
        Due.due("can(1): 0 to 2 by 1 is not told", x.can(1), 5);
        x.way(0, 2, 100);
        Due.due("can(1): a way longer than that by 1", x.can(1), 1);
    }

    static void promise27AllPicturesOfItsCamera() {
        Due.sentence("Terms III", "each one for which all PICTURES of its CAMERA with a known PLACE are ..");
        PictureHeap x = Heaps.places(3);
        x.way(0, 1, 10);
        x.way(0, 2, 10);
        x.way(1, 2, 10);
        x.picture(0, 100, 0, -1);
        Due.due("can(0), none known", x.can(0), 7);
        x.picture(1, 100, 0, 0);
        Due.due("can(0), another camera's", x.can(0), 7);
        x.picture(0, 100, 0, -1);
        Due.due("can(0), one without a place", x.can(0), 7);
        x.picture(0, 109, 0, 0);
        Due.due("can(0), one behind it", x.can(0), 1);
        x.picture(0, 91, 0, 1);
        Due.due("can(0), one ahead of it too", x.can(0), 0);
        Due.due("can(1), known", x.can(1), 1);
        Due.due("can(2), like 0", x.can(2), 0);
    }

    static void promise27ByClockNotByTime() {
        Due.sentence("Terms III", ".. apart by CLOCK");
        PictureHeap x = Heaps.places(2);
        x.way(0, 1, 10);
        x.picture(1, 100, 0, 0);
        x.picture(1, 109, 0, -1);
        x.off(1, 5000, 5000);
        x.put();
        Due.due("can(1)", x.can(1), 1);
        PictureHeap y = Heaps.places(2);
        y.way(0, 1, 10);
        y.picture(0, 5100, 0, 0);
        y.picture(1, 100, 0, -1);
        y.off(1, 5000, 5000);
        y.put();
        Due.due("can(1), another camera's at the same time", y.can(1), 3);
    }

    static void promise27TheLastPictureCounts() {
        Due.sentence("Terms III", "all PICTURES of its CAMERA with a known PLACE");
        PictureHeap x = Heaps.places(10);
        x.way(8, 9, 5);
        for (int i = 0; i < 119; i++) {
            x.picture(0, 10 * i, 0, -1);
        }
        Due.due("can(118)", x.can(118), 1023);
        Due.due("found()", x.found(), 0);
        x.picture(0, 1180, 0, 9);
        Due.due("can(118)", x.can(118), 1023 - 256);
        Due.due("can(117)", x.can(117), 1023);
        Due.due("can(119)", x.can(119), 512);
    }

    static void promise28None() {
        Due.sentence("Promise 28", "How many PICTURES without a known PLACE have just one at which they CAN have been");
        Due.due("found() of a new one", new PictureHeap().found(), 0);
        PictureHeap x = Heaps.clocks(0, 0);
        Due.due("found() without places: none at which", x.found(), 0);
        x.place();
        Due.due("found() with one place", x.found(), 2);
        x.place();
        Due.due("found() with two", x.found(), 0);
    }

    static void promise28JustOne() {
        Due.sentence("Promise 28", "have just one at which they CAN have been");
        PictureHeap x = behind(29);
        Due.due("found(), two at which", x.found(), 0);
        x.way(0, 2, 30);
        Due.due("found(), just one", x.found(), 1);
        x.way(0, 2, 29);
        Due.due("found(), two again", x.found(), 0);
        x.way(0, 2, 30);
        x.picture(0, 1029, 0, 1);
        Due.due("found(), none at which", x.found(), 0);
    }

    static void promise28KnownOnesAreNotCounted() {
        Due.sentence("Promise 28", "How many PICTURES without a known PLACE");
        PictureHeap x = Heaps.places(1);
        x.picture(0, 0, 0, 0);
        Due.due("found(), known", x.found(), 0);
        x.picture(0, 0, 0, -1);
        Due.due("found(), one more that isn't", x.found(), 1);
    }

    static void promise28All120() {
        Due.sentence("Promise 28", "How many PICTURES without a known PLACE");
        PictureHeap x = Heaps.places(1);
        for (int i = 0; i < 120; i++) {
            x.picture(i % 2, i, 0, -1);
        }
        Due.due("found()", x.found(), 120);
    }

    static void promise29None() {
        Due.sentence("Promise 29", "-2 if there is none");
        Due.due("strange() of a new one", new PictureHeap().strange(), -2);
        Due.due("strange() without a known place", Heaps.clocks(0, 0).strange(), -2);
        PictureHeap x = behind(0);
        Due.due("strange() with one known place", x.strange(), -2);
        x.picture(0, 1000, 0, 0);
        Due.due("strange() at one place twice", x.strange(), -2);
    }

    static void promise29LessApartThanTheWay() {
        Due.sentence("Promise 29", "less apart by CLOCK than the WAY");
        int[][] minutes = {{31, -2}, {30, -2}, {29, 0}, {1, 0}, {0, 0}, {-29, 0}, {-30, -2}};
        for (int[] m : minutes) {
            PictureHeap x = Heaps.places(2);
            x.way(1, 0, 30);
            x.picture(1, 1000, 0, 0);
            x.picture(1, 1000 + m[0], 0, 1);
            Due.due("strange(), " + m[0] + " minutes behind", x.strange(), m[1]);
        }
        PictureHeap x = Heaps.places(2);
        x.picture(0, 0, 0, 0);
        x.picture(0, 9999, 0, 1);
        x.way(0, 1, 9999);
        Due.due("strange(), way 9,999", x.strange(), -2);
        x.way(0, 1, 10000);
        Due.due("strange(), way 10,000", x.strange(), 0);
        x.way(0, 1, 0);
        Due.due("strange(), way 0", x.strange(), -2);
    }

    static void promise29AnotherSuchOneOfItsCamera() {
        Due.sentence("Promise 29", "that quarrels with another such one of its CAMERA");
        PictureHeap x = Heaps.places(2);
        x.way(0, 1, 30);
        x.picture(0, 100, 0, 0);
        x.picture(1, 100, 0, 1);
        x.picture(0, 100, 0, -1);
        Due.due("strange(), of two cameras", x.strange(), -2);
        x.picture(1, 129, 0, 0);
        Due.due("strange(), the first of camera 1", x.strange(), 1);
    }

    static void promise29TheFirst() {
        Due.sentence("Promise 29", "The first PICTURE with a known PLACE");
        PictureHeap x = Heaps.places(2);
        x.way(0, 1, 30);
        for (int i = 0; i < 118; i++) {
            x.picture(0, 50000, 0, i % 2 == 0 ? 0 : -1);
        }
        x.picture(0, 100, 0, 0);
        Due.due("strange()", x.strange(), -2);
        x.picture(0, 90, 0, 1);
        Due.due("strange(): 118, though 119 has the earlier clock", x.strange(), 118);
        x.way(0, 1, 10);
        Due.due("strange(), just the way", x.strange(), -2);
    }

    static void promise30NoSuchWhat() {
        Due.sentence("Promise 30", "NONE for others");
        PictureHeap x = Heaps.full();
        for (int nobody : Due.NOBODY) {
            Due.due("count(" + nobody + ")", x.count(nobody), NO);
        }
        Due.due("count(5)", x.count(5), NO);
    }

    private static void dueCounts(PictureHeap x, int... want) {
        for (int what = 0; what < want.length; what++) {
            Due.due("count(" + what + ")", x.count(what), want[what]);
        }
    }

    static void promise30NoneAndAll() {
        Due.sentence("Promise 30", "0 CAMERAS, 1 PLACES, 2 PICTURES, 3 TIES that are there, 4 TIES ever taken in");
        dueCounts(new PictureHeap(), 0, 0, 0, 0, 0);
        PictureHeap x = Heaps.full();
        dueCounts(x, 8, 10, 120, 60, 60);
        x.camera();
        x.place();
        x.picture(0, 0, 0, -1);
        x.off(1, 0, 0);
        dueCounts(x, 8, 10, 120, 60, 60);
        x.untie(0);
        x.untie(0);
        dueCounts(x, 8, 10, 120, 59, 60);
        x.off(1, 0, 0);
        dueCounts(x, 8, 10, 120, 60, 61);
    }

    static void promise30OneOfEach() {
        Due.sentence("Promise 30", "0 CAMERAS, 1 PLACES, 2 PICTURES, 3 TIES that are there, 4 TIES ever taken in");
        PictureHeap x = new PictureHeap();
        x.place();
        dueCounts(x, 0, 1, 0, 0, 0);
        x.camera();
        dueCounts(x, 1, 1, 0, 0, 0);
        x.picture(0, 0, 0, 0);
        dueCounts(x, 1, 1, 1, 0, 0);
        x.near(0, 0, 0);
        dueCounts(x, 1, 1, 1, 1, 1);
        x.ahead(0, 0);
        dueCounts(x, 1, 1, 1, 1, 1);
        x.untie(0);
        dueCounts(x, 1, 1, 1, 0, 1);
        x.off(0, 0, 0);
        dueCounts(x, 1, 1, 1, 1, 2);
    }

    static void promise31NoneYet() {
        Due.sentence("Promise 31", "TROUBLE: 0 it wasn't");
        PictureHeap x = new PictureHeap();
        Due.due("trouble()", x.trouble(), 0);
        x.count(9);
        x.put();
        x.days();
        Due.due("trouble() behind questions", x.trouble(), 0);
    }

    static void promise31EachNumber() {
        Due.sentence("Terms IV", "1 there is none such; 2 a number; 3 no room; 4 a QUARREL");
        PictureHeap x = Heaps.full();
        x.untie(60);
        Due.due("trouble() of untie", x.trouble(), 1);
        x.gap(0);
        Due.due("trouble() of gap", x.trouble(), 2);
        x.camera();
        Due.due("trouble() of camera", x.trouble(), 3);
        x.untie(0);
        x.off(0, 1, 1);
        Due.due("trouble() of off", x.trouble(), 4);
        Due.due("trouble() asked again", x.trouble(), 4);
    }

    static void promise31ZeroBehindEachCallThatIsTaken() {
        Due.sentence("Terms IV", "TROUBLE of the latest call that may be refused: 0 it wasn't");
        PictureHeap x = new PictureHeap();
        x.gap(0);
        Due.taken(x, "camera()", x.camera(), 0);
        x.gap(0);
        Due.taken(x, "place()", x.place(), 0);
        x.place();
        x.gap(0);
        Due.taken(x, "way(0, 1, 5)", x.way(0, 1, 5));
        x.gap(0);
        Due.taken(x, "picture(0, 0, 0, 0)", x.picture(0, 0, 0, 0), 0);
        x.picture(0, 1, 0, 0);
        x.gap(0);
        Due.taken(x, "gap(1)", x.gap(1));
        x.gap(0);
        Due.taken(x, "near(0, 1, 1)", x.near(0, 1, 1), 0);
        x.gap(0);
        Due.taken(x, "ahead(0, 1)", x.ahead(0, 1), 1);
        x.gap(0);
        Due.taken(x, "off(0, 0, 0)", x.off(0, 0, 0), 2);
        x.gap(0);
        Due.taken(x, "idle(1)", x.idle(1), 1);
        x.gap(0);
        Due.taken(x, "untie(1)", x.untie(1));
    }

    static void promise31OfTheLatest() {
        Due.sentence("Terms IV", "TROUBLE of the latest call that may be refused");
        PictureHeap x = Heaps.onePictureEach(2);
        x.near(0, 1, -1);
        Due.due("trouble() of near", x.trouble(), 2);
        x.ahead(0, 2);
        Due.due("trouble() of ahead", x.trouble(), 1);
        x.ahead(0, 0);
        Due.due("trouble() of ahead", x.trouble(), 4);
        x.off(1, 2, 1);
        Due.due("trouble() of off", x.trouble(), 2);
        x.idle(0);
        Due.due("trouble() of idle", x.trouble(), 1);
        x.off(1, 2, 2);
        Due.due("trouble() of off that held", x.trouble(), 0);
    }

    static void questionsChangeNothing() {
        Due.sentence("Promises 27 to 31", "---- places");
        Due.changesNothing(Heaps::someInTrouble, "can", x -> x.can(1) + x.can(9));
        Due.changesNothing(Heaps::someInTrouble, "found", x -> x.found());
        Due.changesNothing(Heaps::someInTrouble, "strange", x -> x.strange());
        Due.changesNothing(Heaps::someInTrouble, "count", x -> x.count(1) + x.count(9));
        Due.changesNothing(Heaps::someInTrouble, "trouble", x -> x.trouble());
    }

    public static void main(String[] args) throws Exception {
        Due.runAll(BoundsOfPlacesTest.class);
    }
}
