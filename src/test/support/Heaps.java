/** Heaps to start from; each call makes a new one. */
final class Heaps {
    private Heaps() {
    }

    static PictureHeap cameras(int many) {
        PictureHeap x = new PictureHeap();
        for (int i = 0; i < many; i++) {
            x.camera();
        }
        return x;
    }

    /** A camera each with one picture of clock 1000: picture numbers are camera numbers. */
    static PictureHeap onePictureEach(int many) {
        PictureHeap x = cameras(many);
        for (int i = 0; i < many; i++) {
            x.picture(i, 1000, 0, -1);
        }
        return x;
    }

    /** Cameras 0 and 1, and places. */
    static PictureHeap places(int many) {
        PictureHeap x = cameras(2);
        for (int i = 0; i < many; i++) {
            x.place();
        }
        return x;
    }

    /** Pictures of camera 0, one each clock. */
    static PictureHeap clocks(int... clocks) {
        PictureHeap x = cameras(1);
        for (int clock : clocks) {
            x.picture(0, clock, 0, -1);
        }
        return x;
    }

    /** Some of everything, and room for more: ties 0, 1 and 3 are there, 4 is the next; put once; a quarrel of 1. */
    static PictureHeap some() {
        PictureHeap x = places(3);
        x.camera();
        x.way(0, 1, 30);
        x.way(1, 2, 500);
        x.gap(100);
        x.picture(0, 1000, 7, 0);
        x.picture(1, 1003, 7, -1);
        x.picture(1, 1200, 5, -1);
        x.picture(2, 900, 3, 2);
        x.picture(0, 1002, 6, -1);
        x.near(0, 1, 10);
        x.ahead(3, 0);
        x.off(2, -50, 200);
        x.off(2, -40, 60);
        x.untie(2);
        x.put();
        x.off(2, 61, 62);
        x.gap(100);
        return x;
    }

    /** The same, with trouble 2. */
    static PictureHeap someInTrouble() {
        PictureHeap x = some();
        x.gap(0);
        return x;
    }

    /** All room used, nothing put yet: 198 calls. */
    static PictureHeap full() {
        PictureHeap x = cameras(8);
        for (int i = 0; i < 10; i++) {
            x.place();
        }
        for (int i = 0; i < 120; i++) {
            x.picture(i % 8, 100 * i, i + 1, i % 3 == 0 ? i % 10 : -1);
        }
        for (int i = 0; i < 60; i++) {
            x.off(1 + i % 7, -1000 - i, 1000 + i);
        }
        return x;
    }
}
