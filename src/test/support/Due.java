import java.lang.reflect.Method;
import java.util.Arrays;
import java.util.Comparator;
import java.util.LinkedHashMap;
import java.util.Map;
import java.util.NoSuchElementException;

/**
 * What the tests of the bounds share. Each test is a static method without arguments that first names the
 * sentence of the document that it holds; no object in it gets more than 512 calls.
 */
final class Due {
    static final int NO = -1;
    static final int UNKNOWN = -1000000;

    /** Numbers of nothing; some of them would be 0 again if they were cut to 8 or 16 bits or made an index of a table. */
    static final int[] NOBODY = {
        Integer.MIN_VALUE, Integer.MIN_VALUE + 1, -65536, -256, -2, -1, 256, 65536, 1 << 28, 1 << 29, 1 << 30,
        Integer.MAX_VALUE - 1, Integer.MAX_VALUE};

    /** Beyond every range of numbers that the document names. */
    static final int[] WILD = {
        Integer.MIN_VALUE, Integer.MIN_VALUE + 1, -1000000, 1000000, 1 << 20, Integer.MAX_VALUE - 1, Integer.MAX_VALUE};

    private static int wrong = 0;
    private static String held = "";

    interface Made {
        PictureHeap heap();
    }

    interface Number {
        int on(PictureHeap x);
    }

    interface Truth {
        boolean on(PictureHeap x);
    }

    private Due() {
    }

    /** The sentence that the checks from here on hold. */
    static void sentence(String promise, String words) {
        held = promise + ": \"" + words + "\"";
    }

    static void due(String call, long got, long want) {
        if (got != want) {
            wrong++;
            System.out.println(held + ": " + call + " answered " + got + ", due is " + want);
        }
    }

    static void due(String call, boolean got, boolean want) {
        due(call, got ? 1 : 0, want ? 1 : 0);
    }

    static void range(PictureHeap x, int camera, int least, int greatest) {
        due("range(" + camera + ", false)", x.range(camera, false), least);
        due("range(" + camera + ", true)", x.range(camera, true), greatest);
    }

    /** A call that is not refused: its answer, and trouble 0. */
    static void taken(PictureHeap x, String call, long got, long want) {
        due(call, got, want);
        due(call + ", then trouble()", x.trouble(), 0);
    }

    static void taken(PictureHeap x, String call, boolean got) {
        taken(x, call, got ? 1 : 0, 1);
    }

    /** A call that answers NONE with its trouble and leaves the heap as one that never got the call. */
    static void refused(Made made, int trouble, String call, Number refusedCall) {
        PictureHeap x = made.heap();
        due(call, refusedCall.on(x), NO);
        leftAsItWas(made, x, trouble, call);
    }

    /** A call that answers false with its trouble and leaves the heap as one that never got the call. */
    static void refusedFalse(Made made, int trouble, String call, Truth refusedCall) {
        PictureHeap x = made.heap();
        due(call, refusedCall.on(x), false);
        leftAsItWas(made, x, trouble, call);
    }

    private static void leftAsItWas(Made made, PictureHeap x, int trouble, String call) {
        due(call + ", then trouble()", x.trouble(), trouble);
        PictureHeap y = made.heap();
        if (trouble != 4) {
            due(call + ", then quarrel()", x.quarrel(), y.quarrel());
        }
        tellTheSame(x, y, call);
    }

    /** A question that must leave the heap, trouble() and quarrel() too, as one that was never asked. */
    static void changesNothing(Made made, String call, Number question) {
        PictureHeap x = made.heap();
        question.on(x);
        PictureHeap y = made.heap();
        due(call + ", then trouble()", x.trouble(), y.trouble());
        due(call + ", then quarrel()", x.quarrel(), y.quarrel());
        tellTheSame(x, y, call);
    }

    private static void tellTheSame(PictureHeap x, PictureHeap y, String call) {
        Map<String, Integer> got = told(x);
        told(y).forEach((question, want) -> {
            due(call + ", then " + question, got.getOrDefault(question, Integer.MIN_VALUE), want);
        });
    }

    /** row(i) throws what the document names, and nothing else. */
    static void noRow(PictureHeap x, int i) {
        due("row(" + i + ")", rowOf(x, i), Integer.MIN_VALUE);
    }

    /** row(i), and the smallest int where it throws. */
    static int rowOf(PictureHeap x, int i) {
        try {
            return x.row(i);
        } catch (NoSuchElementException e) {
            return Integer.MIN_VALUE;
        }
    }

    /** All that a heap tells but trouble and quarrel, then what it goes on to give: some 200 calls. */
    private static Map<String, Integer> told(PictureHeap x) {
        Map<String, Integer> all = new LinkedHashMap<>();
        for (int what = 0; what <= 4; what++) {
            all.put("count(" + what + ")", x.count(what));
        }
        tellWhatIsSure(x, all);
        tellRow(x, all, "");
        tellPlaces(x, all);
        int ever = x.count(4);
        for (int tie = Math.max(0, ever - 4); tie <= ever; tie++) {
            all.put("idle(" + tie + ")", x.idle(tie));
        }
        all.put("put()", x.put());
        tellRow(x, all, ", put again");
        all.put("near(0, 0, 0)", x.near(0, 0, 0));
        all.put("off(0, 0, 0)", x.off(0, 0, 0));
        all.put("ahead(0, 1)", x.ahead(0, 1));
        all.put("picture(0, 50, 9, -1)", x.picture(0, 50, 9, NO));
        all.put("camera()", x.camera());
        all.put("place()", x.place());
        for (int tie = Math.max(0, ever - 4); tie <= ever; tie++) {
            all.put("untie(" + tie + ")", x.untie(tie) ? 1 : 0);
        }
        all.put("range(1, false) behind untie", x.range(1, false));
        all.put("range(1, true) behind untie", x.range(1, true));
        return all;
    }

    private static void tellWhatIsSure(PictureHeap x, Map<String, Integer> all) {
        for (int c = 0; c < 9; c++) {
            all.put("range(" + c + ", false)", x.range(c, false));
            all.put("range(" + c + ", true)", x.range(c, true));
        }
        for (int p = 0; p < 4; p++) {
            for (int q = 0; q < 6; q++) {
                String two = "(" + p + ", " + q;
                all.put("between" + two + ", false)", x.between(p, q, false));
                all.put("between" + two + ", true)", x.between(p, q, true));
                all.put("order" + two + ")", x.order(p, q));
            }
        }
        all.put("unsure()", x.unsure());
        all.put("known()", x.known());
    }

    private static void tellRow(PictureHeap x, Map<String, Integer> all, String when) {
        for (int c = 0; c < 8; c++) {
            all.put("offset(" + c + ")" + when, x.offset(c));
        }
        int pictures = x.count(2);
        for (int i : new int[] {0, 1, 2, 3, pictures - 1, pictures}) {
            all.put("row(" + i + ")" + when, rowOf(x, i));
            all.put("time(" + i + ")" + when, x.time(i));
        }
        all.put("days()" + when, x.days());
        for (int i = 0; i < 3; i++) {
            for (int what = 0; what < 3; what++) {
                all.put("day(" + i + ", " + what + ")" + when, x.day(i, what));
            }
        }
        all.put("bursts()" + when, x.bursts());
        all.put("longest()" + when, x.longest());
        all.put("doubles()" + when, x.doubles());
    }

    private static void tellPlaces(PictureHeap x, Map<String, Integer> all) {
        for (int p = 0; p < 6; p++) {
            all.put("can(" + p + ")", x.can(p));
        }
        all.put("found()", x.found());
        all.put("strange()", x.strange());
    }

    /** Every static method of the tests that takes nothing, by name, so that none can be forgotten. */
    static void runAll(Class<?> tests) throws ReflectiveOperationException {
        Method[] all = tests.getDeclaredMethods();
        Arrays.sort(all, Comparator.comparing(Method::getName));
        int ran = 0;
        for (Method test : all) {
            if (test.getParameterCount() == 0 && test.getReturnType() == void.class) {
                held = test.getName() + " names no sentence";
                test.setAccessible(true);
                test.invoke(null);
                ran++;
            }
        }
        System.out.println(ran + " tests; " + (wrong == 0 ? "all answers are as due" : wrong + " answers are not as due"));
        if (wrong != 0 || ran == 0) {
            System.exit(1);
        }
    }
}
