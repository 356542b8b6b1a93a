import java.util.Random;
import java.util.function.LongSupplier;

/** Long runs of calls, answered by the program and by the model; the runs are always the same. */
public final class ModelTest {
    private static final int RUNS = 400;
    private static final int CALLS = 512;
    private static final int MOST_LISTED = 6000;

    private final StickerFoundry x = new StickerFoundry();
    private final Model y = new Model();
    private final Random random;
    private final int run;
    private int call;

    private ModelTest(int run) {
        this.run = run;
        this.random = new Random(run);
    }

    public static void main(String[] args) {
        for (int run = 0; run < RUNS; run++) {
            new ModelTest(run).play();
        }
        Expect.finish();
    }

    private void play() {
        while (call < CALLS) {
            switch (random.nextInt(8)) {
                case 0:
                    puzzleCalls();
                    break;
                case 1:
                    textCalls();
                    break;
                case 2:
                case 3:
                    arrangementCalls();
                    break;
                case 4:
                case 5:
                    groupCalls();
                    break;
                case 6:
                    distanceCalls();
                    break;
                default:
                    writingCalls();
            }
        }
        for (int i = 0; i < 49; i++) {
            Expect.same("run " + run + " character " + i, x.character(i), y.character(i));
        }
        for (int s = 0; s < y.n; s++) {
            Expect.same("run " + run + " place " + s, x.place(s), y.place(s));
        }
    }

    /** Both answers, or both exceptions' names. */
    private void both(String name, LongSupplier got, LongSupplier due) {
        call++;
        Expect.same("run " + run + " call " + call + " " + name, answer(got), answer(due));
    }

    private static String answer(LongSupplier asked) {
        long[] answer = new long[1];
        String raised = Expect.raisedBy(() -> answer[0] = asked.getAsLong());
        boolean index = raised.endsWith("IndexOutOfBoundsException");
        return raised.equals("nothing") ? Long.toString(answer[0]) : index ? "IndexOutOfBoundsException" : raised;
    }

    private static long one(boolean yes) {
        return yes ? 1 : 0;
    }

    private static long done(Runnable call) {
        call.run();
        return 0;
    }

    /** Mostly one that there is, at times one just beyond, at times any. */
    private int number(int most) {
        int kind = random.nextInt(40);
        return kind == 0 ? random.nextInt() : kind == 1 ? -1 : kind == 2 ? most : random.nextInt(Math.max(1, most));
    }

    private void puzzleCalls() {
        if (random.nextInt(3) == 0) {
            int n = random.nextInt(20) == 0 ? random.nextInt(18) - 3 : 1 + random.nextInt(12);
            both("stickers " + n, () -> one(x.stickers(n)), () -> one(y.stickers(n)));
        }
        for (int more = random.nextInt(3); more >= 0; more--) {
            typeTurn();
            keepSmall();
            both("turn " + y.text, x::turn, y::turn);
        }
    }

    /** The model lists all arrangements: a turn that would make too many is not typed. */
    private void keepSmall() {
        String before = y.text;
        Model trial = new Model();
        trial.stickers(y.n);
        trial.turns.addAll(y.turns);
        trial.text = before;
        if (answer(trial::turn).length() < 2 && !trial.fewerThan(MOST_LISTED)) {
            both("cut 0", () -> one(x.cut(0)), () -> one(y.cut(0)));
        }
    }

    private void typeTurn() {
        String turn = randomTurn();
        if (random.nextInt(12) == 0) {
            int i = random.nextInt(turn.length() + 1);
            turn = turn.substring(0, i) + "() 0159,".charAt(random.nextInt(8)) + turn.substring(i);
        }
        both("cut 0", () -> one(x.cut(0)), () -> one(y.cut(0)));
        for (int i = 0; i < turn.length(); i += 8) {
            String part = turn.substring(i, Math.min(i + 8, turn.length()));
            type(Foundries.packed(part), part.length());
        }
    }

    private void type(long w, int n) {
        both("type " + w + " " + n, () -> one(x.type(w, n)), () -> one(y.type(w, n)));
    }

    /** Some cycles of some length, of places side by side, in steps or anywhere. */
    private String randomTurn() {
        int length = 1 + random.nextInt(5);
        int step = 1 + random.nextInt(3);
        int first = random.nextInt(y.n);
        boolean any = random.nextInt(3) == 0;
        boolean[] used = new boolean[13];
        StringBuilder turn = new StringBuilder();
        for (int cycles = random.nextInt(4); cycles > 0; cycles--) {
            StringBuilder cycle = new StringBuilder();
            for (int i = 0; i < length; i++) {
                int place = any ? random.nextInt(y.n) : (first + i * step) % y.n;
                if (!used[place]) {
                    cycle.append(cycle.length() == 0 ? "" : " ").append(place);
                    used[place] = true;
                }
            }
            first += any || random.nextBoolean() ? 1 : length * step;
            turn.append(cycle.length() == 0 ? "" : "(" + cycle + ")");
            turn.append(random.nextInt(6) == 0 ? " " : "");
        }
        return turn.toString();
    }

    private void textCalls() {
        int n = number(9);
        long w = random.nextLong() & 0x3F3F3F3F3F3F3F3FL | 0x2020202020202020L;
        type(random.nextInt(8) == 0 ? random.nextLong() : w, n);
        int keep = number(40);
        both("cut " + keep, () -> one(x.cut(keep)), () -> one(y.cut(keep)));
        for (int i = 0; i < 3; i++) {
            int at = number(48);
            both("character " + at, () -> x.character(at), () -> y.character(at));
        }
        keepSmall();
        both("turn " + y.text, x::turn, y::turn);
    }

    private void arrangementCalls() {
        for (int i = 0; i < 3; i++) {
            int m = number(2 * y.turns());
            both("move " + m, () -> done(() -> x.move(m)), () -> done(() -> y.move(m)));
        }
        int a = number(y.n);
        int b = number(y.n);
        int kind = random.nextInt(6);
        if (kind == 0) {
            both("swap " + a + " " + b, () -> done(() -> x.swap(a, b)), () -> done(() -> y.swap(a, b)));
        } else if (kind == 1) {
            both("reset", () -> done(x::reset), () -> done(y::reset));
        } else {
            long r = random.nextInt(10) == 0 ? random.nextLong() : number((int) y.order());
            both("unrank " + r, () -> done(() -> x.unrank(r)), () -> done(() -> y.unrank(r)));
        }
        both("place " + a, () -> x.place(a), () -> y.place(a));
        both("place " + b, () -> x.place(b), () -> y.place(b));
        both("reachable", () -> one(x.reachable()), () -> one(y.reachable()));
        both("rank", x::rank, y::rank);
    }

    private void groupCalls() {
        int k = number(y.n);
        int p = number(y.n);
        int t = number(y.turns());
        both("order", x::order, y::order);
        both("turns", x::turns, y::turns);
        both("image " + t + " " + p, () -> x.image(t, p), () -> y.image(t, p));
        both("orbit " + k, () -> x.orbit(k), () -> y.orbit(k));
        both("inOrbit " + k + " " + p, () -> one(x.inOrbit(k, p)), () -> one(y.inOrbit(k, p)));
        both("block " + k + " " + p, () -> x.block(k, p), () -> y.block(k, p));
        both("block " + p + " " + k, () -> x.block(p, k), () -> y.block(p, k));
    }

    private void distanceCalls() {
        int d = number(12);
        int limit = number(5);
        both("diameter", x::diameter, y::diameter);
        both("atDistance " + d, () -> x.atDistance(d), () -> y.atDistance(d));
        both("solve", x::solve, y::solve);
        for (int i = 0; i < 4; i++) {
            int at = number(8);
            both("solution " + at, () -> x.solution(at), () -> y.solution(at));
        }
        both("within " + limit, () -> x.within(limit), () -> y.within(limit));
    }

    private void writingCalls() {
        int t = random.nextBoolean() ? -1 : number(y.turns());
        both("write " + t, () -> x.write(t), () -> y.write(t));
        for (int i = 0; i < 3; i++) {
            int at = number(24);
            both("character " + at, () -> x.character(at), () -> y.character(at));
        }
    }
}
