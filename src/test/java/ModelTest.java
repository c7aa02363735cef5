import java.util.ArrayList;
import java.util.Arrays;
import java.util.List;
import java.util.Random;

/** All promises: long runs of calls, right and wrong ones, compared with NaiveDots. The seeds are fixed. */
public final class ModelTest {
    private static final int RUNS = 1500;
    private static final int CALLS = 512;
    private static final String[] NAMES = {
        "sheet", "set", "copy", "drop", "order", "marks", "powers", "sums", "take", "put", "turn", "nth", "clear",
        "kind", "is", "as", "ask", "trace", "at", "alike", "meeting", "most", "together", "echo", "lonely",
        "shortest", "count", "status"};
    private static final int[] EXTREMES = {Integer.MIN_VALUE, Integer.MIN_VALUE + 1, -1, Integer.MAX_VALUE - 1, Integer.MAX_VALUE};
    private static final int[] PRIMES = {3, 5, 7, 11, 13, 17};

    private final Random random;
    private final LonelyDots real = new LonelyDots();
    private final NaiveDots naive = new NaiveDots();
    private final List<String> told = new ArrayList<>();
    private boolean right = true;

    private ModelTest(int seed) {
        random = new Random(seed);
    }

    public static void main(String[] args) {
        int wrong = 0;
        for (int seed = 0; seed < RUNS && wrong < 3; seed++) {
            ModelTest run = new ModelTest(seed);
            if (!run.isRight()) {
                wrong++;
                System.out.println("seed " + seed + ": " + run.told.subList(Math.max(0, run.told.size() - 40), run.told.size()));
            }
        }
        System.out.println("ModelTest: " + RUNS + " runs, " + wrong + " wrong");
        if (wrong != 0) {
            System.exit(1);
        }
    }

    private boolean isRight() {
        while (right && told.size() < CALLS) {
            int chance = random.nextInt(20);
            if (chance == 0) {
                writeOrder();
            } else if (chance == 1) {
                writeMarks();
            } else if (chance == 2) {
                writeEcho();
            } else {
                anyCall();
            }
            both("status");
        }
        return right;
    }

    private int both(String name, int... v) {
        if (!right || told.size() >= CALLS) {
            return 0;
        }
        int got = call(real, name, v);
        int want = naive.call(name, v);
        told.add(name + Arrays.toString(v) + "=" + got + (got == want ? "" : ", due is " + want));
        right = got == want;
        return got;
    }

    private void writeOrder() {
        int n = 1 + random.nextInt(random.nextInt(4) == 0 ? 16 : 7);
        List<Integer> columns = new ArrayList<>();
        for (int k = 0; k < n; k++) {
            columns.add(random.nextInt(columns.size() + 1), k);
        }
        write(columns);
        both("order", random.nextInt(6), 0, 0, n);
    }

    private void writeMarks() {
        int n = 1 + random.nextInt(12);
        int gap = 1 + random.nextInt(18);
        List<Integer> marks = new ArrayList<>();
        int mark = random.nextInt(3);
        for (int k = 0; k < n; k++) {
            marks.add(mark);
            mark += 1 + random.nextInt(gap);
        }
        write(marks);
        both("marks", random.nextInt(6), 0, 0, n);
    }

    private void writeEcho() {
        int n = 1 + random.nextInt(6);
        List<Integer> heard = new ArrayList<>();
        int r = random.nextInt(24) - 2;
        int s = random.nextInt(24) - 2;
        int place = random.nextInt(6);
        for (int k = 0; k < n; k++) {
            int row = random.nextInt(7);
            int column = both("at", place, row);
            boolean other = column < 0 || random.nextInt(4) == 0;
            heard.add(row + r);
            heard.add(s + (other ? random.nextInt(7) : column));
        }
        write(heard);
        for (int what = 0; what < 3; what++) {
            both("echo", place, 0, 0, n, what);
        }
    }

    private void write(List<Integer> items) {
        both("sheet", 0, 1 + random.nextInt(2), items.size() + random.nextInt(4));
        for (int i = 0; i < items.size(); i++) {
            both("set", 0, i, items.get(i));
        }
    }

    private void anyCall() {
        String name = NAMES[random.nextInt(NAMES.length)];
        switch (name) {
            case "sheet" -> both(name, sheet(), near(0, 2), near(0, random.nextBoolean() ? 20 : 60));
            case "set" -> both(name, sheet(), near(0, 20), random.nextBoolean() ? near(0, 16) : random.nextInt());
            case "copy" -> both(name, sheet(), near(0, 12), sheet(), near(0, 12), near(0, 12));
            case "drop" -> both(name, sheet());
            case "order", "marks" -> both(name, place(), sheet(), near(0, 10), near(1, name.equals("order") ? 16 : 12));
            case "powers" -> both(name, place(), prime(), near(1, 12), near(0, 15));
            case "sums" -> both(name, place(), prime(), near(1, 12), near(1, 12));
            case "take", "put" -> both(name, place(), place(), near(0, 3));
            case "turn" -> both(name, place(), place(), near(0, 7));
            case "nth" -> both(name, place(), near(1, 7), near(0, random.nextBoolean() ? 12 : 200));
            case "clear", "kind", "most" -> both(name, place());
            case "is", "as", "alike" -> both(name, place(), near(0, name.equals("alike") ? 3 : 5));
            case "ask" -> {
                both(name, place(), near(0, 1));
                for (int i = -1; i < 6; i++) {
                    both("trace", i);
                }
            }
            case "trace" -> both(name, near(0, 16));
            case "at" -> both(name, place(), near(0, 15));
            case "meeting" -> both(name, place(), place(), near(-4, 4), near(-20, 20));
            case "together" -> both(name, place(), place());
            case "echo" -> both(name, place(), sheet(), near(0, 10), near(1, 30), near(0, 2));
            case "lonely" -> both(name, near(1, 7), near(0, 1));
            case "shortest" -> both(name, near(1, 6));
            case "count" -> both(name, near(0, 5));
            default -> both(name);
        }
    }

    /** Mostly from least to greatest, now and then just outside of them, or far away. */
    private int near(int least, int greatest) {
        int chance = random.nextInt(60);
        if (chance == 0) {
            return EXTREMES[random.nextInt(EXTREMES.length)];
        }
        if (chance < 3) {
            return chance == 1 ? least - 1 : greatest + 1;
        }
        return least + random.nextInt(greatest - least + 1);
    }

    private int sheet() {
        return random.nextInt(4) == 0 ? near(0, 7) : random.nextInt(3);
    }

    private int place() {
        return random.nextInt(4) == 0 ? near(0, 9) : random.nextInt(6);
    }

    private int prime() {
        return random.nextInt(8) == 0 ? near(2, 18) : PRIMES[random.nextInt(PRIMES.length)];
    }

    private static int call(LonelyDots x, String name, int... v) {
        return switch (name) {
            case "sheet" -> x.sheet(v[0], v[1], v[2]);
            case "set" -> x.set(v[0], v[1], v[2]);
            case "copy" -> x.copy(v[0], v[1], v[2], v[3], v[4]);
            case "drop" -> x.drop(v[0]);
            case "order" -> x.order(v[0], v[1], v[2], v[3]);
            case "marks" -> x.marks(v[0], v[1], v[2], v[3]);
            case "powers" -> x.powers(v[0], v[1], v[2], v[3]);
            case "sums" -> x.sums(v[0], v[1], v[2], v[3]);
            case "take" -> x.take(v[0], v[1], v[2]);
            case "put" -> x.put(v[0], v[1], v[2]);
            case "turn" -> x.turn(v[0], v[1], v[2]);
            case "nth" -> x.nth(v[0], v[1], v[2]);
            case "clear" -> x.clear(v[0]);
            case "kind" -> x.kind(v[0]);
            case "is" -> x.is(v[0], v[1]);
            case "as" -> x.as(v[0], v[1]);
            case "ask" -> x.ask(v[0], v[1]);
            case "trace" -> x.trace(v[0]);
            case "at" -> x.at(v[0], v[1]);
            case "alike" -> x.alike(v[0], v[1]);
            case "meeting" -> x.meeting(v[0], v[1], v[2], v[3]);
            case "most" -> x.most(v[0]);
            case "together" -> x.together(v[0], v[1]);
            case "echo" -> x.echo(v[0], v[1], v[2], v[3], v[4]);
            case "lonely" -> x.lonely(v[0], v[1]);
            case "shortest" -> x.shortest(v[0]);
            case "count" -> x.count(v[0]);
            case "status" -> x.status();
            default -> throw new IllegalArgumentException(name);
        };
    }
}
