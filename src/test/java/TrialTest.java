import java.util.ArrayList;
import java.util.Arrays;
import java.util.List;
import java.util.Random;

/**
 * Small drawn heaps whose every answer about ties is found by trying: all offsets one after another, each tie looked at
 * by the document's words alone, with no limits, chains or rings. Each camera but the first is held in a narrow
 * window by a tie OFF that stays, so that trying all is quick.
 */
public final class TrialTest {
    private static final int CAMERAS = 4;
    private static final int PICTURES = 6;
    private static final int WINDOW = 5;
    private static final int LATEST_CLOCK = 6;
    private static final int MOST_NEAR = 4;
    /**
     * No tie asks an offset to be farther from another one than LATEST_CLOCK + 1 (OFF no farther from 0 than WINDOW), so
     * offsets that agree without a window can be chosen so near to 0: from camera to camera, three steps at most.
     */
    private static final int REACH = 3 * (LATEST_CLOCK + 1);
    private static final int RUNS = 400;
    private static int wrong = 0;
    private static final int[] quarrelsSeen = new int[CAMERAS];

    private enum Kind { NEAR, AHEAD, OFF }

    /** Of NEAR a, b, minutes; of AHEAD a, b; of OFF camera a, low, high. */
    private record Tie(int number, Kind kind, int a, int b, int c) {
    }

    private final PictureHeap heap = new PictureHeap();
    private final List<Tie> ties = new ArrayList<>();
    private final int[] cameraOf = new int[PICTURES];
    private final int[] clockOf = new int[PICTURES];
    private final Random random;
    private final int run;

    private TrialTest(int run) {
        this.run = run;
        random = new Random(run);
        for (int camera = 0; camera < CAMERAS; camera++) {
            heap.camera();
        }
        for (int p = 0; p < PICTURES; p++) {
            cameraOf[p] = p < CAMERAS ? p : random.nextInt(CAMERAS);
            clockOf[p] = random.nextInt(LATEST_CLOCK + 1);
            heap.picture(cameraOf[p], clockOf[p], 0, PictureHeap.NONE);
        }
        for (int camera = 1; camera < CAMERAS; camera++) {
            ties.add(new Tie(heap.off(camera, -WINDOW, WINDOW), Kind.OFF, camera, -WINDOW, WINDOW));
        }
    }

    private void due(String what, int got, int want) {
        if (got != want) {
            wrong++;
            System.out.println("run " + run + ": " + what + " answered " + got + ", due is " + want + " with " + ties);
        }
    }

    private int time(int picture, int[] offsets) {
        return clockOf[picture] + offsets[cameraOf[picture]];
    }

    private boolean holds(Tie tie, int[] offsets) {
        return switch (tie.kind) {
            case NEAR -> Math.abs(time(tie.a, offsets) - time(tie.b, offsets)) <= tie.c;
            case AHEAD -> time(tie.a, offsets) < time(tie.b, offsets);
            case OFF -> tie.b <= offsets[tie.a] && offsets[tie.a] <= tie.c;
        };
    }

    private int latestCamera(Tie tie) {
        return tie.kind == Kind.OFF ? tie.a : Math.max(cameraOf[tie.a], cameraOf[tie.b]);
    }

    /** All offsets from -reach to reach that agree; only the first that is found if one is enough. */
    private List<int[]> agreeing(List<Tie> held, int reach, boolean oneIsEnough) {
        List<int[]> found = new ArrayList<>();
        tryCamera(0, new int[CAMERAS], held, reach, oneIsEnough, found);
        return found;
    }

    private void tryCamera(int camera, int[] offsets, List<Tie> held, int reach, boolean oneIsEnough, List<int[]> found) {
        if (camera == CAMERAS) {
            found.add(offsets.clone());
            return;
        }
        int farthest = camera == 0 ? 0 : reach;
        for (int step = 0; step <= 2 * farthest; step++) {
            if (oneIsEnough && !found.isEmpty()) {
                return;
            }
            offsets[camera] = outward(step);
            boolean all = true;
            for (Tie tie : held) {
                all = all && (latestCamera(tie) != camera || holds(tie, offsets));
            }
            if (all) {
                tryCamera(camera + 1, offsets, held, reach, oneIsEnough, found);
            }
        }
    }

    /** 0, 1, -1, 2, -2 .. */
    private static int outward(int step) {
        return step % 2 == 0 ? -step / 2 : (step + 1) / 2;
    }

    private boolean canBe(List<Tie> held) {
        return !agreeing(held, REACH, true).isEmpty();
    }

    private int fewestAgainst(Tie added) {
        for (int size = 0; size <= ties.size(); size++) {
            if (someCantBe(size, 0, List.of(added))) {
                return size;
            }
        }
        throw new IllegalStateException("a tie that can be with all");
    }

    private boolean someCantBe(int size, int from, List<Tie> chosen) {
        if (size == 0) {
            return !canBe(chosen);
        }
        for (int i = from; i + size <= ties.size(); i++) {
            List<Tie> more = new ArrayList<>(chosen);
            more.add(ties.get(i));
            if (someCantBe(size - 1, i + 1, more)) {
                return true;
            }
        }
        return false;
    }

    private Tie drawnTie() {
        int number = heap.count(4);
        int a = random.nextInt(PICTURES);
        int b = random.nextInt(PICTURES);
        int from = random.nextInt(2 * WINDOW + 1) - WINDOW;
        return switch (random.nextInt(5)) {
            case 0 -> new Tie(number, Kind.OFF, random.nextInt(CAMERAS), from, from + random.nextInt(2 * WINDOW));
            case 1, 2 -> new Tie(number, Kind.NEAR, a, b, random.nextInt(MOST_NEAR + 1));
            default -> new Tie(number, Kind.AHEAD, a, b, 0);
        };
    }

    private int told(Tie tie) {
        return switch (tie.kind) {
            case NEAR -> heap.near(tie.a, tie.b, tie.c);
            case AHEAD -> heap.ahead(tie.a, tie.b);
            case OFF -> heap.off(tie.a, tie.b, tie.c);
        };
    }

    private void tellOne() {
        Tie tie = drawnTie();
        List<Tie> more = new ArrayList<>(ties);
        more.add(tie);
        if (!agreeing(more, WINDOW, true).isEmpty()) {
            due(tie + "", told(tie), tie.number);
            due(tie + ", then trouble()", heap.trouble(), 0);
            ties.add(tie);
            return;
        }
        int fewest = fewestAgainst(tie);
        quarrelsSeen[fewest]++;
        due(tie + "", told(tie), PictureHeap.NONE);
        due(tie + ", then trouble()", heap.trouble(), 4);
        due(tie + ", then quarrel()", heap.quarrel(), fewest);
    }

    private void takeOneOut() {
        int windows = CAMERAS - 1;
        if (ties.size() > windows) {
            Tie tie = ties.remove(windows + random.nextInt(ties.size() - windows));
            due("untie(" + tie.number + ")", heap.untie(tie.number) ? 1 : 0, 1);
        }
    }

    /** How many minutes each picture is behind each other one, least then most, and each camera's range behind these. */
    private int[] sureOf(List<int[]> all) {
        int[] sure = new int[2 * (PICTURES * PICTURES + CAMERAS)];
        for (int i = 0; i < sure.length; i += 2) {
            sure[i] = Integer.MAX_VALUE;
            sure[i + 1] = Integer.MIN_VALUE;
            for (int[] offsets : all) {
                int pair = i / 2;
                int value = pair < PICTURES * PICTURES
                        ? time(pair % PICTURES, offsets) - time(pair / PICTURES, offsets)
                        : offsets[pair - PICTURES * PICTURES];
                sure[i] = Math.min(sure[i], value);
                sure[i + 1] = Math.max(sure[i + 1], value);
            }
        }
        return sure;
    }

    private void lookAtWhatIsSure(List<int[]> all) {
        int[] sure = sureOf(all);
        int unsure = 0;
        int known = 0;
        for (int pair = 0; pair < PICTURES * PICTURES; pair++) {
            int one = pair / PICTURES;
            int other = pair % PICTURES;
            due("between(" + one + ", " + other + ", false)", heap.between(one, other, false), sure[2 * pair]);
            due("between(" + one + ", " + other + ", true)", heap.between(one, other, true), sure[2 * pair + 1]);
            int order = sureOrder(one, other, all);
            due("order(" + one + ", " + other + ")", heap.order(one, other), order);
            unsure += one < other && order == 0 ? 1 : 0;
        }
        for (int camera = 0; camera < CAMERAS; camera++) {
            int at = 2 * (PICTURES * PICTURES + camera);
            due("range(" + camera + ", false)", heap.range(camera, false), sure[at]);
            due("range(" + camera + ", true)", heap.range(camera, true), sure[at + 1]);
            known += sure[at] == sure[at + 1] ? 1 : 0;
        }
        due("unsure()", heap.unsure(), unsure);
        due("known()", heap.known(), known);
    }

    private int sureOrder(int one, int other, List<int[]> all) {
        int ahead = 0;
        int behind = 0;
        for (int[] offsets : all) {
            ahead += time(one, offsets) < time(other, offsets) ? 1 : 0;
            behind += time(one, offsets) > time(other, offsets) ? 1 : 0;
        }
        return ahead == all.size() ? 1 : behind == all.size() ? 2 : ahead + behind == 0 ? 3 : 0;
    }

    private void lookAtIdle(List<int[]> all) {
        int[] with = sureOf(all);
        for (Tie tie : ties.subList(CAMERAS - 1, ties.size())) {
            List<Tie> fewer = new ArrayList<>(ties);
            fewer.remove(tie);
            boolean same = Arrays.equals(with, sureOf(agreeing(fewer, WINDOW, false)));
            due("idle(" + tie.number + ")", heap.idle(tie.number), same ? 1 : 0);
        }
    }

    private void lookAtPut(List<int[]> all) {
        due("put()", heap.put(), PICTURES);
        List<int[]> left = new ArrayList<>(all);
        for (int camera = 0; camera < CAMERAS; camera++) {
            int c = camera;
            int nearest = left.stream().mapToInt(o -> Math.abs(o[c])).min().orElseThrow();
            left.removeIf(o -> Math.abs(o[c]) != nearest);
            due("offset(" + camera + ")", heap.offset(camera), left.get(0)[c]);
        }
        due("offsets that are nearest to 0", left.size(), 1);
        for (int p = 0; p < PICTURES; p++) {
            due("time(" + p + ")", heap.time(p), time(p, left.get(0)));
        }
    }

    private void go() {
        int steps = 1 + random.nextInt(14);
        for (int step = 0; step < steps; step++) {
            if (random.nextInt(5) == 0) {
                takeOneOut();
            } else {
                tellOne();
            }
        }
        List<int[]> all = agreeing(ties, WINDOW, false);
        lookAtWhatIsSure(all);
        lookAtIdle(all);
        lookAtPut(all);
    }

    public static void main(String[] args) {
        for (int run = 0; run < RUNS; run++) {
            new TrialTest(run).go();
        }
        System.out.println("quarrels of 0, 1, 2, 3: " + Arrays.toString(quarrelsSeen));
        System.out.println(wrong == 0 ? "all answers are as due" : wrong + " answers are not as due");
        if (wrong != 0) {
            System.exit(1);
        }
    }
}
