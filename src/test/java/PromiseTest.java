import java.util.NoSuchElementException;

/** Each promise by hand-worked runs: ordinary inputs, the edges that the document names, wrong inputs. */
public final class PromiseTest {
    private static final int NO = PictureHeap.NONE;
    private static final int UNKNOWN = PictureHeap.UNKNOWN;
    private static final int[] WILD = {Integer.MIN_VALUE, -1000000, -2, -1, 1000000, Integer.MAX_VALUE};
    private static int wrong = 0;
    private static String about = "";

    private static void due(String what, long got, long want) {
        if (got != want) {
            wrong++;
            System.out.println(about + ": " + what + " answered " + got + ", due is " + want);
        }
    }

    private static void due(String what, boolean got, boolean want) {
        due(what, got ? 1 : 0, want ? 1 : 0);
    }

    /** An answer together with the trouble that goes with it. */
    private static void due(PictureHeap x, String what, long got, long want, int trouble) {
        due(what, got, want);
        due(what + " then trouble", x.trouble(), trouble);
    }

    private static void due(PictureHeap x, String what, boolean got, boolean want, int trouble) {
        due(x, what, got ? 1 : 0, want ? 1 : 0, trouble);
    }

    private static void dueThrow(String what, PictureHeap x, int i) {
        boolean thrown = false;
        try {
            x.row(i);
        } catch (NoSuchElementException e) {
            thrown = true;
        }
        due(what + " row(" + i + ") throws", thrown, true);
    }

    private static PictureHeap withCameras(int many) {
        PictureHeap x = new PictureHeap();
        for (int i = 0; i < many; i++) {
            x.camera();
        }
        return x;
    }

    /** A camera each, all with one picture of clock 1000: picture numbers are camera numbers. */
    private static PictureHeap onePictureEach(int many) {
        PictureHeap x = withCameras(many);
        for (int i = 0; i < many; i++) {
            x.picture(i, 1000, 0, NO);
        }
        return x;
    }

    private static void newObject() {
        about = "1 new";
        PictureHeap x = new PictureHeap();
        for (int what = 0; what <= 4; what++) {
            due("count(" + what + ")", x.count(what), 0);
        }
        due("trouble", x.trouble(), 0);
        due("quarrel", x.quarrel(), NO);
        due("unsure", x.unsure(), 0);
        due("known", x.known(), 0);
        due("found", x.found(), 0);
        due("strange", x.strange(), -2);
        due("range", x.range(0, true), UNKNOWN);
        due("offset", x.offset(0), UNKNOWN);
        due("time", x.time(0), UNKNOWN);
        due("days", x.days(), NO);
        due("day", x.day(0, 0), NO);
        due("bursts", x.bursts(), NO);
        due("longest", x.longest(), NO);
        due("doubles", x.doubles(), NO);
        dueThrow("new", x, 0);
        PictureHeap other = withCameras(3);
        due("another object has its own", other.count(0), 3);
        due("count(0) of the first", x.count(0), 0);
    }

    private static void camerasAndPlaces() {
        about = "2 camera";
        PictureHeap x = new PictureHeap();
        for (int i = 0; i < 8; i++) {
            due(x, "camera", x.camera(), i, 0);
        }
        due(x, "ninth camera", x.camera(), NO, 3);
        due("count(0)", x.count(0), 8);
        about = "3 place";
        for (int i = 0; i < 10; i++) {
            due(x, "place", x.place(), i, 0);
        }
        due(x, "eleventh place", x.place(), NO, 3);
        due("count(1)", x.count(1), 10);
    }

    private static void ways() {
        about = "4 way";
        PictureHeap x = withCameras(1);
        due(x, "no places", x.way(0, 1, 5), false, 1);
        x.place();
        x.place();
        x.place();
        for (int wild : WILD) {
            due(x, "wild one", x.way(wild, 1, 5), false, 1);
            due(x, "wild other", x.way(1, wild, 5), false, 1);
            due(x, "wild minutes", x.way(0, 1, wild), false, 2);
        }
        due(x, "place 3", x.way(0, 3, 5), false, 1);
        due(x, "with itself", x.way(2, 2, 0), false, 1);
        due(x, "1 comes ahead of 2", x.way(0, 3, -1), false, 1);
        due(x, "10,001", x.way(0, 1, 10001), false, 2);
        due(x, "10,000", x.way(0, 1, 10000), true, 0);
        due(x, "0", x.way(0, 1, 0), true, 0);
        x.picture(0, 100, 0, 0);
        int free = x.picture(0, 110, 0, NO);
        due("ways of 0 minutes", x.can(free), 7);
        due(x, "told", x.way(1, 0, 11), true, 0);
        due("the way counts both ways", x.can(free), 5);
        x.way(0, 1, 12);
        x.way(1, 0, 10);
        due("told again", x.can(free), 7);
        x.way(0, 1, 3);
        x.way(1, 2, 90);
        due("ways told are all that counts", x.can(free), 7);
        x.way(0, 1, 90);
        due(x, "refused", x.way(0, 1, 10001), false, 2);
        due("a refused one changes nothing", x.can(free), 5);
    }

    private static void pictures() {
        about = "5 picture";
        PictureHeap x = new PictureHeap();
        due(x, "no camera", x.picture(0, 0, 0, NO), NO, 1);
        x.camera();
        due(x, "no place", x.picture(0, 0, 0, 0), NO, 1);
        x.place();
        for (int wild : WILD) {
            due(x, "wild camera", x.picture(wild, 0, 0, NO), NO, 1);
            due(x, "wild clock", x.picture(0, wild, 0, NO), NO, 2);
            due(x, "wild marks", x.picture(0, 0, wild, NO), NO, 2);
            if (wild != NO) {
                due(x, "wild place", x.picture(0, 0, 0, wild), NO, 1);
            }
        }
        due(x, "camera 1", x.picture(1, 0, 0, NO), NO, 1);
        due(x, "place 1", x.picture(0, 0, 0, 1), NO, 1);
        due(x, "1 comes ahead of 2", x.picture(0, -1, -1, 1), NO, 1);
        due(x, "clock 100,001", x.picture(0, 100001, 0, NO), NO, 2);
        due(x, "marks 65,536", x.picture(0, 0, 65536, NO), NO, 2);
        due("none taken in", x.count(2), 0);
        due(x, "greatest", x.picture(0, 100000, 65535, 0), 0, 0);
        due(x, "least", x.picture(0, 0, 0, NO), 1, 0);
        for (int i = 2; i < 120; i++) {
            due("picture", x.picture(0, i, i, NO), i);
        }
        due(x, "no room", x.picture(0, 0, 0, NO), NO, 3);
        due(x, "2 comes ahead of 3", x.picture(0, -1, 0, NO), NO, 2);
        due(x, "1 comes ahead of 3", x.picture(1, 0, 0, NO), NO, 1);
        due("count(2)", x.count(2), 120);
        due("put", x.put(), 120);
        due("days", x.days(), 2);
    }

    private static void gaps() {
        about = "6 gap";
        PictureHeap x = withCameras(1);
        x.picture(0, 0, 0, NO);
        x.picture(0, 360, 0, NO);
        x.picture(0, 721, 0, NO);
        x.picture(0, 10722, 0, NO);
        x.put();
        due("360 at first", x.days(), 3);
        for (int wild : WILD) {
            due(x, "wild", x.gap(wild), false, 2);
        }
        due(x, "0", x.gap(0), false, 2);
        due(x, "10,001", x.gap(10001), false, 2);
        due("still 360", x.days(), 3);
        due(x, "10,000", x.gap(10000), true, 0);
        due("10,001 is more", x.days(), 2);
        due(x, "1", x.gap(1), true, 0);
        due("all cut", x.days(), 4);
    }

    private static void nears() {
        about = "7 near";
        PictureHeap x = onePictureEach(2);
        x.picture(1, 1100, 0, NO);
        for (int wild : WILD) {
            due(x, "wild one", x.near(wild, 1, 0), NO, 1);
            due(x, "wild other", x.near(1, wild, 0), NO, 1);
            due(x, "wild minutes", x.near(0, 1, wild), NO, 2);
        }
        due(x, "picture 3", x.near(0, 3, -1), NO, 1);
        due(x, "10,001", x.near(0, 1, 10001), NO, 2);
        due(x, "10,000", x.near(0, 1, 10000), 0, 0);
        due("least", x.range(1, false), -10000);
        due("greatest", x.range(1, true), 10000);
        due(x, "other way round", x.near(2, 0, 50), 1, 0);
        due("least", x.range(1, false), -150);
        due("greatest", x.range(1, true), -50);
        due(x, "quarrels", x.near(0, 1, 49), NO, 4);
        due("quarrel", x.quarrel(), 1);
        due("refused ones change nothing", x.range(1, true), -50);
        due(x, "just touches", x.near(0, 1, 50), 2, 0);
        due("known", x.known(), 2);
        due(x, "with itself", x.near(0, 0, 0), 3, 0);
        due(x, "of one camera, too far", x.near(1, 2, 99), NO, 4);
        due("by itself", x.quarrel(), 0);
        due(x, "of one camera", x.near(1, 2, 100), 4, 0);
    }

    private static void aheads() {
        about = "8 ahead";
        PictureHeap x = onePictureEach(2);
        x.picture(1, 1100, 0, NO);
        for (int wild : WILD) {
            due(x, "wild one", x.ahead(wild, 1), NO, 1);
            due(x, "wild other", x.ahead(1, wild), NO, 1);
        }
        due(x, "picture 3", x.ahead(3, 1), NO, 1);
        due(x, "with itself", x.ahead(1, 1), NO, 4);
        due("by itself", x.quarrel(), 0);
        due(x, "of one camera, behind", x.ahead(2, 1), NO, 4);
        due("by itself", x.quarrel(), 0);
        due(x, "of one camera", x.ahead(1, 2), 0, 0);
        due("says nothing of the offset", x.range(1, false), -200000);
        due(x, "first below the second", x.ahead(0, 1), 1, 0);
        due("least", x.range(1, false), 1);
        due("greatest", x.range(1, true), 200000);
        due(x, "the second behind the first", x.ahead(2, 0), NO, 4);
        due("quarrel", x.quarrel(), 1);
        due(x, "untie", x.untie(1), true, 0);
        due(x, "now it can be", x.ahead(2, 0), 2, 0);
        due("greatest", x.range(1, true), -101);
    }

    private static void offs() {
        about = "9 off";
        PictureHeap x = withCameras(2);
        for (int wild : WILD) {
            due(x, "wild camera", x.off(wild, 0, 0), NO, 1);
        }
        due(x, "camera 2", x.off(2, 5, 1), NO, 1);
        due(x, "too low", x.off(1, -200001, 0), NO, 2);
        due(x, "too high", x.off(1, 0, 200001), NO, 2);
        due(x, "wild low", x.off(1, Integer.MIN_VALUE, 0), NO, 2);
        due(x, "wild high", x.off(1, 0, Integer.MAX_VALUE), NO, 2);
        due(x, "both too high", x.off(1, 200001, 200002), NO, 2);
        due(x, "both too low", x.off(1, -200002, -200001), NO, 2);
        due(x, "turned", x.off(1, 1, 0), NO, 2);
        due(x, "all", x.off(1, -200000, 200000), 0, 0);
        due(x, "one", x.off(1, -7, -7), 1, 0);
        due("known", x.known(), 2);
        due(x, "camera 0 at 0", x.off(0, 0, 0), 2, 0);
        due(x, "camera 0 below", x.off(0, -5, -1), NO, 4);
        due("by the bounds", x.quarrel(), 0);
        due(x, "camera 0 above", x.off(0, 1, 5), NO, 4);
        due("by the bounds", x.quarrel(), 0);
        due(x, "quarrels", x.off(1, -6, 0), NO, 4);
        due("quarrel", x.quarrel(), 1);
        due(x, "holds", x.off(1, -7, 0), 3, 0);
        x = withCameras(1);
        due(x, "of an untied camera 0", x.off(0, -5, 5), 0, 0);
    }

    private static void tiesRoom() {
        about = "7 to 9 no room";
        PictureHeap x = onePictureEach(2);
        for (int i = 0; i < 60; i++) {
            due("off", x.off(1, -100000 + i, 100000), i);
        }
        due(x, "near", x.near(0, 1, 5), NO, 3);
        due(x, "ahead", x.ahead(0, 1), NO, 3);
        due(x, "off", x.off(1, 0, 0), NO, 3);
        due(x, "3 comes ahead of 4", x.ahead(0, 0), NO, 3);
        due(x, "2 comes ahead of 3", x.off(1, 1, 0), NO, 2);
        due(x, "1 comes ahead of 3", x.near(0, 2, 0), NO, 1);
        due("quarrel", x.quarrel(), NO);
        due("count(3)", x.count(3), 60);
        due(x, "untie", x.untie(59), true, 0);
        due("least", x.range(1, false), -99942);
        due(x, "a number is not given again", x.ahead(0, 1), 60, 0);
        due(x, "no room again", x.ahead(0, 1), NO, 3);
        due("count(3)", x.count(3), 60);
        due("count(4)", x.count(4), 61);
    }

    private static void quarrels() {
        about = "10 quarrel";
        PictureHeap x = onePictureEach(8);
        due("none yet", x.quarrel(), NO);
        for (int i = 0; i < 7; i++) {
            due("chain", x.ahead(i, i + 1), i);
        }
        due(x, "ring", x.ahead(7, 0), NO, 4);
        due("all seven", x.quarrel(), 7);
        due(x, "shorter ring", x.ahead(5, 1), NO, 4);
        due("four", x.quarrel(), 4);
        due(x, "other trouble", x.near(0, 9, 0), NO, 1);
        due("stays", x.quarrel(), 4);
        due("a tie across", x.ahead(1, 5), 7);
        due(x, "ring", x.ahead(7, 0), NO, 4);
        due("a short cut", x.quarrel(), 4);
        due("stays when ties go", x.untie(7), true);
        due("stays", x.quarrel(), 4);
        x = onePictureEach(3);
        x.off(1, 150000, 200000);
        x.off(2, -200000, -150000);
        due(x, "near", x.near(1, 2, 10000), NO, 4);
        due("two offs", x.quarrel(), 2);
        x.off(1, 200000, 200000);
        due(x, "bounds and one tie", x.ahead(1, 2), NO, 4);
        due("one: a bound is no tie", x.quarrel(), 1);
        x = onePictureEach(3);
        x.off(2, 200000, 200000);
        due(x, "upper bound of camera 1", x.ahead(2, 1), NO, 4);
        due("one", x.quarrel(), 1);
        x.untie(0);
        x.off(2, -200000, -200000);
        due(x, "lower bound of camera 1", x.ahead(1, 2), NO, 4);
        due("one", x.quarrel(), 1);
        x = onePictureEach(3);
        x.off(1, -5, 5);
        x.ahead(1, 2);
        x.off(2, -100, 5);
        due(x, "touches one tie, quarrels with two", x.off(1, 5, 9), NO, 4);
        due("two", x.quarrel(), 2);
        x = onePictureEach(2);
        x.picture(0, 0, 0, NO);
        x.picture(1, 100000, 0, NO);
        due("near", x.near(0, 1, 3), 0);
        due(x, "both limits of a tie, but the tie once", x.near(2, 3, 3), NO, 4);
        due("one", x.quarrel(), 1);
    }

    private static void unties() {
        about = "11 untie";
        PictureHeap x = onePictureEach(3);
        for (int wild : WILD) {
            due(x, "wild", x.untie(wild), false, 1);
        }
        due(x, "none yet", x.untie(0), false, 1);
        x.near(0, 1, 10);
        x.near(1, 2, 10);
        x.off(2, 5, 30);
        due("greatest", x.range(2, true), 20);
        due(x, "untie", x.untie(0), true, 0);
        due(x, "once", x.untie(0), false, 1);
        due("greatest of 2", x.range(2, true), 30);
        due("least of 1", x.range(1, false), -5);
        due("others stay", x.untie(2), true);
        due("least of 1", x.range(1, false), -200000);
        due("between", x.between(1, 2, true), 10);
        due(x, "last", x.untie(1), true, 0);
        due("between", x.between(1, 2, true), 400000);
        due("count(3)", x.count(3), 0);
        due("count(4)", x.count(4), 3);
    }

    private static void idles() {
        about = "12 idle";
        PictureHeap x = onePictureEach(3);
        for (int wild : WILD) {
            due(x, "wild", x.idle(wild), NO, 1);
        }
        due(x, "none yet", x.idle(0), NO, 1);
        x.near(0, 1, 10);
        x.near(1, 2, 10);
        due(x, "0", x.idle(0), 0, 0);
        due(x, "near by two", x.near(0, 2, 20), 2, 0);
        due(x, "of no matter", x.idle(2), 1, 0);
        x.near(2, 0, 20);
        due("twice the same", x.idle(2), 1);
        due("twice the same", x.idle(3), 1);
        x.untie(3);
        x.off(1, -10, 10);
        due("now told by two", x.idle(0), 1);
        due("now told by two", x.idle(3), NO);
        due("now told by two", x.idle(4), 1);
        due("idle leaves all as it is", x.range(2, true), 20);
        due("idle takes none out", x.count(3), 4);
        x = onePictureEach(3);
        x.off(1, 0, 10);
        x.off(2, 0, 10);
        x.near(1, 2, 5);
        due("ranges stay, between does not", x.idle(2), 0);
        due("bounds alone", x.off(1, -200000, 200000), 3);
        due("bounds alone", x.idle(3), 1);
    }

    private static void ranges() {
        about = "13 range";
        PictureHeap x = onePictureEach(3);
        for (int wild : WILD) {
            due("wild", x.range(wild, true), UNKNOWN);
            due("wild", x.range(wild, false), UNKNOWN);
        }
        due("camera 3", x.range(3, false), UNKNOWN);
        due("camera 0", x.range(0, false), 0);
        due("camera 0", x.range(0, true), 0);
        due("camera 2", x.range(2, false), -200000);
        due("camera 2", x.range(2, true), 200000);
        x.ahead(1, 2);
        due("bound of the one draws the other", x.range(2, false), -199999);
        due("bound of the one draws the other", x.range(1, true), 199999);
        x.off(2, -10, 20);
        due("by both", x.range(1, true), 19);
        due("by both", x.range(1, false), -200000);
        due("no trouble of its own", x.trouble(), 0);
    }

    private static void betweens() {
        about = "14 between";
        PictureHeap x = withCameras(3);
        due("no pictures", x.between(0, 0, true), UNKNOWN);
        x.picture(0, 10, 0, NO);
        x.picture(1, 100, 0, NO);
        x.picture(2, 30, 0, NO);
        x.picture(2, 100000, 0, NO);
        for (int wild : WILD) {
            due("wild", x.between(wild, 0, true), UNKNOWN);
            due("wild", x.between(0, wild, false), UNKNOWN);
        }
        due("picture 4", x.between(0, 4, false), UNKNOWN);
        due("with itself", x.between(1, 1, true), 0);
        due("one camera", x.between(2, 3, false), 99970);
        due("one camera, turned", x.between(3, 2, true), -99970);
        due("camera 0", x.between(0, 1, false), -199910);
        due("camera 0", x.between(0, 1, true), 200090);
        due("free ones", x.between(1, 2, true), 399930);
        due("free ones", x.between(1, 2, false), -400070);
        x.ahead(1, 2);
        due("at least", x.between(1, 2, false), 1);
        due("turned, at most", x.between(2, 1, true), -1);
    }

    private static void orders() {
        about = "15 order";
        PictureHeap x = onePictureEach(4);
        for (int wild : WILD) {
            due("wild", x.order(wild, 0), NO);
            due("wild", x.order(0, wild), NO);
        }
        due("picture 4", x.order(4, 0), NO);
        due("not sure", x.order(0, 1), 0);
        due("itself", x.order(1, 1), 3);
        due("near", x.near(1, 2, 0), 0);
        due("one time", x.order(1, 2), 3);
        due("one time", x.order(2, 1), 3);
        due("ahead", x.ahead(0, 1), 1);
        due("ahead by two", x.order(0, 2), 1);
        due("behind by two", x.order(2, 0), 2);
        due("off", x.off(3, 0, 1), 2);
        due("from 0 is not sure", x.order(0, 3), 0);
        due("to 0 is not sure", x.order(3, 0), 0);
        about = "16 unsure";
        due("3 with all but itself", x.unsure(), 3);
        x.off(3, 0, 0);
        due("3 is with 0 now, ahead of 1 and 2", x.unsure(), 0);
        due("of free ones", onePictureEach(8).unsure(), 28);
        about = "17 known";
        due("0 and 3", x.known(), 2);
        x.off(2, 5, 5);
        due("1 is with 2", x.known(), 4);
        x.camera();
        due("a new one is not", x.known(), 4);
        due("camera 0 alone", withCameras(1).known(), 1);
    }

    private static void puts() {
        about = "18 put";
        PictureHeap x = new PictureHeap();
        due("put of nothing", x.put(), 0);
        due("days", x.days(), 0);
        due("bursts", x.bursts(), 0);
        due("longest", x.longest(), 0);
        due("doubles", x.doubles(), 0);
        due("offset", x.offset(0), UNKNOWN);
        dueThrow("put of nothing", x, 0);
        about = "19 offset";
        x = onePictureEach(5);
        x.off(1, 5, 9);
        x.off(2, -9, -5);
        x.off(3, -9, 9);
        x.near(1, 4, 2);
        due("ahead of put", x.offset(0), UNKNOWN);
        due("put", x.put(), 5);
        due("0", x.offset(0), 0);
        due("lowest above 0", x.offset(1), 5);
        due("highest below 0", x.offset(2), -5);
        due("0 itself", x.offset(3), 0);
        due("with those put ahead", x.offset(4), 3);
        for (int wild : WILD) {
            due("wild", x.offset(wild), UNKNOWN);
        }
        x.off(1, 8, 8);
        x.camera();
        due("by the latest put", x.offset(1), 5);
        due("not put yet", x.offset(5), UNKNOWN);
        due("put", x.put(), 5);
        due("put anew", x.offset(1), 8);
        due("put anew", x.offset(4), 6);
        due("the new one", x.offset(5), 0);
        about = "18 put, chains";
        x = onePictureEach(4);
        x.ahead(3, 2);
        x.ahead(2, 1);
        x.put();
        due("1 is put first", x.offset(1), 0);
        due("2 then", x.offset(2), -1);
        due("3 then", x.offset(3), -2);
    }

    private static void rows() {
        about = "20 row";
        PictureHeap x = withCameras(2);
        x.picture(1, 50, 0, NO);
        x.picture(0, 50, 0, NO);
        x.picture(0, 50, 0, NO);
        x.picture(1, 49, 0, NO);
        x.picture(0, 51, 0, NO);
        dueThrow("ahead of put", x, 0);
        due("put", x.put(), 5);
        int[] want = {3, 1, 2, 0, 4};
        for (int i = 0; i < want.length; i++) {
            due("row(" + i + ")", x.row(i), want[i]);
        }
        for (int wild : WILD) {
            dueThrow("wild", x, wild);
        }
        dueThrow("behind the last", x, 5);
        due("no trouble of its own", x.trouble(), 0);
        x.picture(0, 0, 0, NO);
        due("by the latest put", x.row(0), 3);
        dueThrow("by the latest put", x, 5);
        about = "21 time";
        due("not there", x.time(5), UNKNOWN);
        for (int wild : WILD) {
            due("wild", x.time(wild), UNKNOWN);
        }
        due("time", x.time(0), 50);
        x.off(1, 7, 8);
        due("by the latest put", x.time(0), 50);
        due("put", x.put(), 6);
        due("with the offset", x.time(0), 57);
        due("of camera 0", x.time(4), 51);
        due("the new one", x.time(5), 0);
        due("row", x.row(0), 5);
        due("row", x.row(5), 0);
    }

    private static void days() {
        about = "22 days, 23 day";
        PictureHeap x = withCameras(2);
        int[] clocks = {1000, 0, 10, 21, 1005, 5000};
        for (int i = 0; i < clocks.length; i++) {
            x.picture(i % 2, clocks[i], 0, NO);
        }
        x.gap(10);
        due("ahead of put", x.days(), NO);
        due("ahead of put", x.day(0, 1), NO);
        x.put();
        due("days", x.days(), 4);
        int[][] want = {{0, 2, 10}, {2, 1, 0}, {3, 2, 5}, {5, 1, 0}};
        for (int i = 0; i < want.length; i++) {
            for (int what = 0; what < 3; what++) {
                due("day(" + i + ", " + what + ")", x.day(i, what), want[i][what]);
            }
        }
        for (int wild : WILD) {
            due("wild day", x.day(wild, 0), NO);
            due("wild what", x.day(0, wild), NO);
        }
        due("day 4", x.day(4, 0), NO);
        due("what 3", x.day(0, 3), NO);
        x.gap(11);
        due("by the gap as it is now", x.days(), 3);
        due("by the gap as it is now", x.day(0, 2), 21);
        x.picture(0, 3000, 0, NO);
        due("by the latest put", x.days(), 3);
        due("no trouble of its own", x.trouble(), 0);
    }

    private static void bursts() {
        about = "24 bursts, 25 longest";
        PictureHeap x = withCameras(2);
        x.picture(0, 0, 0b0000, NO);
        due("ahead of put", x.bursts(), NO);
        due("ahead of put", x.longest(), NO);
        x.put();
        due("one picture", x.bursts(), 0);
        due("none", x.longest(), 0);
        PictureHeap y = withCameras(1);
        y.picture(0, 0, 0, NO);
        y.picture(0, 3, 0, NO);
        y.put();
        due("three minutes", y.bursts(), 0);
        y.picture(0, 5, 0, NO);
        y.put();
        due("two minutes", y.bursts(), 1);
        due("two pictures", y.longest(), 2);
        x.picture(0, 2, 0b0011, NO);
        x.picture(0, 4, 0b1111, NO);
        x.picture(1, 3, 0b1111, NO);
        x.picture(1, 3, 0b1100, NO);
        x.picture(0, 5, 0b1000000000000001, NO);
        x.picture(0, 7, 0b1000000000000001, NO);
        x.picture(0, 10, 0b1000000000000001, NO);
        due("by the latest put", x.bursts(), 0);
        x.put();
        due("bursts", x.bursts(), 3);
        due("longest", x.longest(), 3);
        x.picture(0, 8, 0b1, NO);
        x.picture(0, 9, 0b11, NO);
        x.put();
        due("as long as may be", x.bursts(), 3);
        due("from 5 to 10", x.longest(), 5);
        x.picture(0, 5, 0b111, NO);
        x.put();
        due("three bits apart", x.bursts(), 3);
        due("each the next of its camera: from 7 to 10", x.longest(), 4);
        x = withCameras(1);
        for (int i = 0; i < 120; i++) {
            x.picture(0, 2 * i, 9, NO);
        }
        x.put();
        due("one burst", x.bursts(), 1);
        due("all", x.longest(), 120);
    }

    private static void doubles() {
        about = "26 doubles";
        PictureHeap x = withCameras(3);
        x.picture(0, 100, 7, NO);
        x.picture(1, 105, 7, NO);
        x.picture(2, 95, 7, NO);
        x.picture(1, 106, 7, NO);
        x.picture(0, 100, 0, NO);
        x.picture(1, 100, 0, NO);
        x.picture(0, 101, 7, NO);
        x.picture(2, 100, 6, NO);
        due("ahead of put", x.doubles(), NO);
        x.put();
        due("doubles", x.doubles(), 4);
        x.off(2, 5, 5);
        due("by the latest put", x.doubles(), 4);
        x.put();
        due("by times as put", x.doubles(), 6);
    }

    private static void places() {
        about = "27 can";
        PictureHeap x = withCameras(2);
        x.place();
        x.place();
        x.place();
        x.way(0, 1, 10);
        x.way(0, 2, 20);
        x.picture(0, 100, 0, 0);
        x.picture(0, 90, 0, NO);
        x.picture(0, 81, 0, NO);
        x.picture(1, 100, 0, NO);
        x.picture(0, 110, 0, NO);
        x.picture(0, 100, 0, NO);
        x.picture(0, 119, 0, 2);
        for (int wild : WILD) {
            due("wild", x.can(wild), NO);
        }
        due("picture 7", x.can(7), NO);
        due("its own", x.can(0), 1);
        due("its own, though it quarrels", x.can(6), 4);
        due("just as far as the way", x.can(1), 3);
        due("not far enough", x.can(2), 3);
        due("another camera", x.can(3), 7);
        due("between both", x.can(4), 2);
        due("at the same time", x.can(5), 0);
        about = "28 found";
        due("just one", x.found(), 1);
        x.picture(0, 99, 0, NO);
        due("one more", x.found(), 2);
        x.place();
        due("a new place is no way off", x.can(5), 8);
        due("a new place is no way off", x.found(), 1);
        x.way(0, 3, 11);
        due("now it is a way off", x.found(), 2);
        PictureHeap y = withCameras(1);
        y.picture(0, 0, 0, NO);
        due("no place", y.found(), 0);
        y.place();
        due("the only place", y.found(), 1);
        about = "29 strange";
        due("first", x.strange(), 0);
        due("mended", x.way(2, 0, 19), true);
        due("just as far as the way", x.strange(), -2);
        x.picture(1, 100, 0, 2);
        due("another camera", x.strange(), -2);
        x.way(1, 2, 1);
        x.picture(1, 100, 0, 1);
        due("same clock", x.strange(), 8);
        x = withCameras(1);
        x.place();
        x.picture(0, 5, 0, 0);
        x.picture(0, 5, 0, 0);
        due("one place twice", x.strange(), -2);
        due("no trouble of their own", x.trouble(), 0);
    }

    private static void counts() {
        about = "30 count";
        PictureHeap x = withCameras(3);
        x.place();
        x.place();
        for (int i = 0; i < 5; i++) {
            x.picture(0, i, 0, NO);
        }
        for (int i = 0; i < 4; i++) {
            x.off(1, i, 10);
        }
        x.untie(2);
        x.off(1, 100, 101);
        int[] want = {3, 2, 5, 3, 4};
        for (int what = 0; what < want.length; what++) {
            due("count(" + what + ")", x.count(what), want[what]);
        }
        for (int wild : WILD) {
            due("wild", x.count(wild), NO);
        }
        due("count(5)", x.count(5), NO);
    }

    private static void troubles() {
        about = "31 trouble";
        PictureHeap x = withCameras(1);
        x.gap(0);
        due("a number", x.trouble(), 2);
        due("asked twice", x.trouble(), 2);
        x.range(7, true);
        x.between(7, 7, true);
        x.order(7, 7);
        x.offset(7);
        x.time(7);
        x.day(7, 7);
        x.can(7);
        x.count(7);
        x.put();
        x.days();
        x.quarrel();
        due("calls that are not refused leave it", x.trouble(), 2);
        x.idle(0);
        due("none such", x.trouble(), 1);
        x.gap(5);
        due("it wasn't", x.trouble(), 0);
        x.off(0, 0, 0);
        x.gap(0);
        x.idle(0);
        due("idle that wasn't", x.trouble(), 0);
        x.gap(0);
        x.untie(0);
        due("untie that wasn't", x.trouble(), 0);
        x.gap(0);
        x.camera();
        due("camera that wasn't", x.trouble(), 0);
        x.gap(0);
        x.place();
        due("place that wasn't", x.trouble(), 0);
        x.gap(0);
        x.place();
        x.gap(0);
        x.way(0, 1, 4);
        due("way that wasn't", x.trouble(), 0);
        x.gap(0);
        x.picture(0, 0, 0, 0);
        due("picture that wasn't", x.trouble(), 0);
    }

    /** All rooms full, and every call that goes over them. */
    private static void full() {
        about = "full";
        PictureHeap x = withCameras(8);
        for (int i = 0; i < 10; i++) {
            x.place();
        }
        for (int i = 0; i < 120; i++) {
            due("picture", x.picture(i % 8, i, 1 + i, NO), i);
        }
        for (int i = 0; i < 60; i++) {
            due("near", x.near(i, i + 1, 1), i);
        }
        due("count(3)", x.count(3), 60);
        due("put", x.put(), 120);
        due("row", x.row(119), 119);
        dueThrow("full", x, 120);
        due("time", x.time(119), 119);
        due("days", x.days(), 1);
        due("day", x.day(0, 1), 120);
        due("day", x.day(0, 2), 119);
        due("bursts", x.bursts(), 0);
        due("longest", x.longest(), 0);
        due("doubles", x.doubles(), 0);
        due("found", x.found(), 0);
        due("strange", x.strange(), -2);
        due("can", x.can(119), 1023);
        due("idle", x.idle(59), 1);
        due("each is at most the one ahead, and 0 at most the last", x.known(), 8);
        due("least", x.range(7, false), 0);
        due("greatest", x.range(7, true), 0);
        due("untie", x.untie(59), true);
        due(x, "off", x.off(7, 1, 1), NO, 4);
        due("one tie for each step", x.quarrel(), 7);
        due(x, "off", x.off(7, 3, 3), NO, 4);
        due("the tie that closes the ring", x.quarrel(), 1);
        due("sure ones of one camera", x.order(0, 112), 1);
    }

    /** Rooms that are not taken yet count for nothing. */
    private static void emptyRooms() {
        about = "27 can, rooms not taken";
        PictureHeap x = withCameras(1);
        x.place();
        x.place();
        x.way(0, 1, 10);
        x.picture(0, 5, 0, NO);
        due("nothing known", x.can(0), 3);
        x.picture(0, 0, 0, 1);
        due("known now", x.can(0), 2);
        due("strange", x.strange(), -2);
    }

    public static void main(String[] args) {
        newObject();
        camerasAndPlaces();
        ways();
        pictures();
        gaps();
        nears();
        aheads();
        offs();
        tiesRoom();
        quarrels();
        unties();
        idles();
        ranges();
        betweens();
        orders();
        puts();
        rows();
        days();
        bursts();
        doubles();
        places();
        counts();
        troubles();
        full();
        emptyRooms();
        System.out.println(wrong == 0 ? "all answers are as due" : wrong + " answers are not as due");
        if (wrong != 0) {
            System.exit(1);
        }
    }
}
