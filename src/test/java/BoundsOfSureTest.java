/** Boundary cases of promises 13 to 17, what is sure: a test for each sentence. */
public final class BoundsOfSureTest {
    private static final int NO = Due.NO;
    private static final int UNKNOWN = Due.UNKNOWN;

    private static void dueBetween(PictureHeap x, int one, int other, int least, int most) {
        String two = "between(" + one + ", " + other;
        Due.due(two + ", false)", x.between(one, other, false), least);
        Due.due(two + ", true)", x.between(one, other, true), most);
    }

    static void promise13NoSuchCamera() {
        Due.sentence("Promise 13", "UNKNOWN for no such one");
        PictureHeap none = new PictureHeap();
        PictureHeap some = Heaps.some();
        PictureHeap all = Heaps.cameras(8);
        for (int nobody : Due.NOBODY) {
            Due.range(none, nobody, UNKNOWN, UNKNOWN);
            Due.range(some, nobody, UNKNOWN, UNKNOWN);
            Due.range(all, nobody, UNKNOWN, UNKNOWN);
        }
        Due.range(none, 0, UNKNOWN, UNKNOWN);
        Due.range(some, 3, UNKNOWN, UNKNOWN);
        Due.range(all, 8, UNKNOWN, UNKNOWN);
    }

    static void promise13OfCamera0() {
        Due.sentence("Terms II", "CAMERA 0 has OFFSET 0");
        Due.range(Heaps.cameras(1), 0, 0, 0);
        Due.range(Heaps.some(), 0, 0, 0);
        PictureHeap x = Heaps.onePictureEach(2);
        x.ahead(0, 1);
        Due.range(x, 0, 0, 0);
        x.untie(0);
        Due.range(x, 0, 0, 0);
    }

    static void promise13UntiedIsTheBounds() {
        Due.sentence("Terms I", "OFFSETS -200,000 .. 200,000");
        PictureHeap x = Heaps.cameras(8);
        for (int camera = 1; camera < 8; camera++) {
            Due.range(x, camera, -200000, 200000);
        }
        x = Heaps.full();
        for (int tie = 0; tie < 60; tie++) {
            x.untie(tie);
        }
        for (int camera = 1; camera < 8; camera++) {
            Due.range(x, camera, -200000, 200000);
        }
    }

    static void promise13LeastAndGreatest() {
        Due.sentence("Promise 13", "RANGE of a CAMERA: its least (or greatest) OFFSET");
        PictureHeap x = Heaps.cameras(2);
        x.off(1, -200000, -199999);
        Due.range(x, 1, -200000, -199999);
        x.untie(0);
        x.off(1, 199999, 200000);
        Due.range(x, 1, 199999, 200000);
        x.untie(1);
        x.off(1, -1, -1);
        Due.range(x, 1, -1, -1);
    }

    static void promise13AmongThoseThatAgree() {
        Due.sentence("Terms II", "RANGE of a CAMERA: the least and the greatest OFFSET that it has among those that AGREE");
        PictureHeap x = Heaps.onePictureEach(8);
        for (int i = 1; i < 7; i++) {
            x.ahead(i, i + 1);
        }
        for (int camera = 1; camera < 8; camera++) {
            Due.range(x, camera, -200000 + camera - 1, 200000 - (7 - camera));
        }
        x.off(4, 10, 10);
        Due.range(x, 1, -200000, 7);
        Due.range(x, 3, -199998, 9);
        Due.range(x, 5, 11, 199998);
        Due.range(x, 7, 13, 200000);
    }

    static void promise13WidestChain() {
        Due.sentence("Terms II", "RANGE of a CAMERA: the least and the greatest OFFSET that it has among those that AGREE");
        PictureHeap x = Heaps.cameras(8);
        for (int camera = 0; camera < 8; camera++) {
            x.picture(camera, 0, 0, -1);
            x.picture(camera, 100000, 0, -1);
        }
        x.ahead(1, 2);
        Due.range(x, 1, 100001, 200000);
        x.near(3, 4, 10000);
        Due.range(x, 2, 190001, 200000);
        Due.range(x, 1, 100001, 110000);
        Due.due("ahead(5, 6): beyond 200,000", x.ahead(5, 6), NO);
        Due.due("quarrel(): the three limits need two ties", x.quarrel(), 2);
    }

    static void promise14NoSuchPictures() {
        Due.sentence("Promise 14", "UNKNOWN for no such PICTURES");
        PictureHeap none = new PictureHeap();
        PictureHeap some = Heaps.some();
        for (int nobody : Due.NOBODY) {
            dueBetween(none, nobody, 0, UNKNOWN, UNKNOWN);
            dueBetween(some, nobody, 0, UNKNOWN, UNKNOWN);
            dueBetween(some, 0, nobody, UNKNOWN, UNKNOWN);
            dueBetween(some, nobody, nobody, UNKNOWN, UNKNOWN);
        }
        dueBetween(none, 0, 0, UNKNOWN, UNKNOWN);
        dueBetween(some, 5, 0, UNKNOWN, UNKNOWN);
        dueBetween(some, 0, 5, UNKNOWN, UNKNOWN);
        dueBetween(some, 5, 5, UNKNOWN, UNKNOWN);
        dueBetween(some, 4, 4, 0, 0);
        PictureHeap full = Heaps.full();
        dueBetween(full, 120, 0, UNKNOWN, UNKNOWN);
        dueBetween(full, 0, 120, UNKNOWN, UNKNOWN);
        dueBetween(full, 112, 0, -11200, -11200);
        dueBetween(full, 119, 119, 0, 0);
    }

    static void promise14Widest() {
        Due.sentence("Promise 14", "How many minutes the second PICTURE's TIME is behind the first one's, at least (or at most)");
        PictureHeap x = Heaps.cameras(3);
        x.picture(0, 0, 0, -1);
        x.picture(1, 0, 0, -1);
        x.picture(2, 100000, 0, -1);
        dueBetween(x, 1, 2, -300000, 500000);
        dueBetween(x, 2, 1, -500000, 300000);
        dueBetween(x, 0, 2, -100000, 300000);
        dueBetween(x, 2, 0, -300000, 100000);
        dueBetween(x, 0, 1, -200000, 200000);
        x.off(1, -200000, -200000);
        x.off(2, 200000, 200000);
        dueBetween(x, 1, 2, 500000, 500000);
        dueBetween(x, 2, 1, -500000, -500000);
    }

    static void promise14OfOneCamera() {
        Due.sentence("Promise 14", "How many minutes the second PICTURE's TIME is behind the first one's, at least (or at most)");
        PictureHeap x = Heaps.cameras(2);
        x.picture(1, 0, 0, -1);
        x.picture(1, 100000, 0, -1);
        x.picture(1, 99999, 0, -1);
        dueBetween(x, 0, 1, 100000, 100000);
        dueBetween(x, 1, 0, -100000, -100000);
        dueBetween(x, 1, 2, -1, -1);
        dueBetween(x, 2, 2, 0, 0);
    }

    static void promise14ByTies() {
        Due.sentence("Promise 14", "How many minutes the second PICTURE's TIME is behind the first one's, at least (or at most)");
        PictureHeap x = Heaps.onePictureEach(3);
        x.near(1, 2, 0);
        dueBetween(x, 1, 2, 0, 0);
        dueBetween(x, 0, 2, -200000, 200000);
        x.untie(0);
        x.near(1, 2, 10000);
        dueBetween(x, 1, 2, -10000, 10000);
        x.ahead(2, 1);
        dueBetween(x, 1, 2, -10000, -1);
        dueBetween(x, 2, 1, 1, 10000);
    }

    static void promise15NoneSuch() {
        Due.sentence("Promise 15", "NONE");
        PictureHeap none = new PictureHeap();
        PictureHeap some = Heaps.some();
        for (int nobody : Due.NOBODY) {
            Due.due("order(" + nobody + ", 0)", some.order(nobody, 0), NO);
            Due.due("order(0, " + nobody + ")", some.order(0, nobody), NO);
            Due.due("order of it with itself", some.order(nobody, nobody), NO);
            Due.due("order(" + nobody + ", 0) of none", none.order(nobody, 0), NO);
        }
        Due.due("order(0, 0) of none", none.order(0, 0), NO);
        Due.due("order(5, 0), pictures 0 to 4", some.order(5, 0), NO);
        Due.due("order(0, 5), pictures 0 to 4", some.order(0, 5), NO);
        Due.due("order(5, 5), pictures 0 to 4", some.order(5, 5), NO);
        Due.due("order(4, 4), pictures 0 to 4", some.order(4, 4), 3);
        PictureHeap full = Heaps.full();
        Due.due("order(119, 120), all pictures", full.order(119, 120), NO);
        Due.due("order(111, 119), all pictures", full.order(111, 119), 1);
    }

    static void promise15ByOneMinute() {
        Due.sentence("Promise 15", "1: surely ahead, 2: surely behind, 3: surely at one TIME, 0: it isn't sure");
        int[][] offs = {
            {1, 1, 1, 2}, {1, 200000, 1, 2}, {0, 200000, 0, 0}, {0, 1, 0, 0}, {0, 0, 3, 3}, {-1, 1, 0, 0},
            {-1, 0, 0, 0}, {-200000, 0, 0, 0}, {-200000, -1, 2, 1}, {-1, -1, 2, 1}, {-200000, 200000, 0, 0},
            {200000, 200000, 1, 2}, {-200000, -200000, 2, 1}};
        for (int[] o : offs) {
            PictureHeap x = Heaps.onePictureEach(2);
            x.off(1, o[0], o[1]);
            String with = " with off(1, " + o[0] + ", " + o[1] + ")";
            Due.due("order(0, 1)" + with, x.order(0, 1), o[2]);
            Due.due("order(1, 0)" + with, x.order(1, 0), o[3]);
            Due.due("unsure()" + with, x.unsure(), o[2] == 0 ? 1 : 0);
        }
    }

    static void promise15OfOneCamera() {
        Due.sentence("Promise 15", "1: surely ahead, 2: surely behind, 3: surely at one TIME");
        PictureHeap x = Heaps.cameras(2);
        x.picture(1, 0, 0, -1);
        x.picture(1, 1, 0, -1);
        x.picture(1, 1, 0, -1);
        Due.due("order(0, 1)", x.order(0, 1), 1);
        Due.due("order(1, 0)", x.order(1, 0), 2);
        Due.due("order(1, 2)", x.order(1, 2), 3);
        Due.due("order(1, 1)", x.order(1, 1), 3);
    }

    static void promise15ByTies() {
        Due.sentence("Promise 15", "1: surely ahead, 2: surely behind, 3: surely at one TIME, 0: it isn't sure");
        PictureHeap x = Heaps.onePictureEach(4);
        x.ahead(1, 2);
        Due.due("order(1, 2)", x.order(1, 2), 1);
        Due.due("order(2, 1)", x.order(2, 1), 2);
        x.near(2, 3, 0);
        Due.due("order(2, 3)", x.order(2, 3), 3);
        Due.due("order(1, 3)", x.order(1, 3), 1);
        x.untie(1);
        x.near(2, 3, 1);
        Due.due("order(1, 3), may be at one time", x.order(1, 3), 0);
        Due.due("order(0, 1), free", x.order(0, 1), 0);
    }

    static void promise16NoPairs() {
        Due.sentence("Promise 16", "How many pairs of PICTURES aren't sure");
        Due.due("unsure() without pictures", new PictureHeap().unsure(), 0);
        Due.due("unsure() with cameras alone", Heaps.cameras(8).unsure(), 0);
        PictureHeap x = Heaps.cameras(2);
        x.picture(1, 0, 0, -1);
        Due.due("unsure() with one picture", x.unsure(), 0);
        x.picture(1, 0, 0, -1);
        Due.due("unsure() with two at one time", x.unsure(), 0);
        x.picture(0, 0, 0, -1);
        Due.due("unsure() with one of another camera", x.unsure(), 2);
    }

    static void promise16AllPairs() {
        Due.sentence("Promise 16", "How many pairs of PICTURES aren't sure");
        PictureHeap x = Heaps.cameras(8);
        for (int i = 0; i < 120; i++) {
            x.picture(i % 8, 100000 - i, 0, -1);
        }
        Due.due("unsure() of 120, 15 of a camera", x.unsure(), 6300);
        for (int camera = 1; camera < 8; camera++) {
            x.off(camera, 0, 0);
        }
        Due.due("unsure() when all is known", x.unsure(), 0);
    }

    static void promise17None() {
        Due.sentence("Promise 17", "How many CAMERAS have a RANGE of one OFFSET");
        Due.due("known() without cameras", new PictureHeap().known(), 0);
        Due.due("known() of camera 0", Heaps.cameras(1).known(), 1);
        Due.due("known() of eight", Heaps.cameras(8).known(), 1);
    }

    static void promise17OneOffsetNotTwo() {
        Due.sentence("Promise 17", "How many CAMERAS have a RANGE of one OFFSET");
        int[][] offs = {{0, 0, 2}, {0, 1, 1}, {-1, 0, 1}, {200000, 200000, 2}, {199999, 200000, 1},
            {-200000, -200000, 2}, {-200000, -199999, 1}, {-5, 5, 1}};
        for (int[] o : offs) {
            PictureHeap x = Heaps.cameras(2);
            x.off(1, o[0], o[1]);
            Due.due("known() with off(1, " + o[0] + ", " + o[1] + ")", x.known(), o[2]);
        }
    }

    static void promise17AllEight() {
        Due.sentence("Promise 17", "How many CAMERAS have a RANGE of one OFFSET");
        PictureHeap x = Heaps.onePictureEach(8);
        for (int i = 0; i < 7; i++) {
            x.near(i, i + 1, 0);
            Due.due("known()", x.known(), i + 2);
        }
        x.untie(3);
        Due.due("known() behind untie(3)", x.known(), 4);
    }

    static void questionsChangeNothing() {
        Due.sentence("Promises 13 to 17", "---- what is sure");
        Due.changesNothing(Heaps::someInTrouble, "range", x -> x.range(1, true) + x.range(9, false));
        Due.changesNothing(Heaps::someInTrouble, "between", x -> x.between(0, 3, true) + x.between(9, 0, false));
        Due.changesNothing(Heaps::someInTrouble, "order", x -> x.order(0, 3) + x.order(9, 0));
        Due.changesNothing(Heaps::someInTrouble, "unsure", x -> x.unsure());
        Due.changesNothing(Heaps::someInTrouble, "known", x -> x.known());
        Due.changesNothing(Heaps::someInTrouble, "quarrel", x -> x.quarrel());
        Due.changesNothing(Heaps::someInTrouble, "trouble", x -> x.trouble());
    }

    public static void main(String[] args) throws Exception {
        Due.runAll(BoundsOfSureTest.class);
    }
}
