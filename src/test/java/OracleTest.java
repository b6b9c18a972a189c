import java.util.List;

/** All promises: random processes, asked of the program and of Plain, which must answer alike. */
public final class OracleTest {
    private static final Expect EXPECT = new Expect();

    private long state;
    private final Lineartide x = new Lineartide();
    private final Plain y = new Plain();
    private String trail = "";
    private static final int[] ERRORS = new int[10];
    private static final int[] FAULTS = new int[10];
    private static final int[] STUCK = new int[3];
    private static int clean = 0;
    private static int most = 0;

    private OracleTest(int seed) {
        state = seed * 7919L + 17;
    }

    private int draw(int bound) {
        state = state * 6364136223846793005L + 1442695040888963407L;
        return (int) ((state >>> 33) % bound);
    }

    private interface Call {
        long make();
    }

    /** By the class itself: what the machine throws is of a class below these, and ends the test. */
    private static long answer(Call call) {
        try {
            return call.make();
        } catch (RuntimeException e) {
            if (e.getClass() == IndexOutOfBoundsException.class) {
                return -1001;
            }
            if (e.getClass() == IllegalArgumentException.class) {
                return -1002;
            }
            if (e.getClass() == IllegalStateException.class) {
                return -1003;
            }
            throw e;
        }
    }

    private long same(String what, Call program, Call plain) {
        long got = answer(program);
        long want = answer(plain);
        if (got != want) {
            EXPECT.due(trail + "\n  " + what, want, got);
        } else {
            EXPECT.due(what, want, got);
        }
        return want;
    }

    private void told(String what) {
        trail += "\n  " + what;
    }

    private void step(int protocol, int what, int a, int b) {
        String call = "step(" + protocol + ", " + what + ", " + a + ", " + b + ")";
        same(call, () -> x.step(protocol, what, a, b), () -> y.step(protocol, what, a, b));
        told(call);
    }

    private void channel(int protocol, int left, int right) {
        String call = "channel(" + protocol + ", " + left + ", " + right + ")";
        same(call, () -> x.channel(protocol, left, right), () -> y.channel(protocol, left, right));
        told(call);
    }

    private long op(int process, int what, int a, int b) {
        String call = "op(" + process + ", " + what + ", " + a + ", " + b + ")";
        long answer = same(call, () -> x.op(process, what, a, b), () -> y.op(process, what, a, b));
        told(call);
        return answer;
    }

    private void unop(int process) {
        same("unop(" + process + ")", () -> x.unop(process), () -> y.unop(process));
        told("unop(" + process + ")");
    }

    private void tellProtocols() {
        boolean wild = draw(8) == 0;
        for (int p = 0; p < 3; p++) {
            int count = 1 + draw(wild ? 9 : 5);
            for (int i = 0; i < count; i++) {
                int what = i == count - 1 && draw(9) > 0 ? Lineartide.ENDS : draw(5);
                int near = Math.min(7, i + 1);
                int loop = draw(6) == 0 ? draw(count) : near;
                boolean values = what <= Lineartide.GETS;
                step(p, what, values ? draw(3) : near, values ? loop : draw(2) == 0 ? near : Math.min(draw(count), 7));
            }
        }
        if (draw(4) == 0) {
            step(draw(5) - 1, draw(7) - 1, draw(10) - 1, draw(10) - 1);
        }
        int channels = 1 + draw(4);
        for (int i = 0; i < channels; i++) {
            channel(wild ? draw(5) - 1 : draw(3), wild ? draw(5) - 1 : draw(3), draw(3));
        }
    }

    private int nameOf(Plain.Ahead end, boolean something) {
        int name = draw(6);
        for (int i = 0; i < 6 && end != null && end.names().get(name) != 0 != something; i++) {
            name = (name + 1) % 6;
        }
        return draw(4) == 0 ? draw(6) : name;
    }

    /** An op that fits what is ahead of the end, as far as the draw will have it. */
    private void likelyOp(int p) {
        int n = y.codes.get(p).size();
        Plain.Ahead end = y.flow(p).get(n);
        int c = draw(3);
        int asked = end == null ? -1 : y.asks(p, c, end.steps().get(c));
        if (asked >= 0 && asked <= Lineartide.OFFERS && draw(2) == 0) {
            talk(p, c, asked, end);
            return;
        }
        int[] many = {Lineartide.SHARE, Lineartide.LEND, Lineartide.SHARE, Lineartide.LEND, Lineartide.READ, Lineartide.WRITE,
            Lineartide.READ, Lineartide.MOVE, Lineartide.MAKE, Lineartide.MAKE, Lineartide.FREE};
        int what = draw(4) > 0 ? many[draw(many.length)] : draw(14);
        if (what >= Lineartide.SEND && draw(3) > 0) {
            what = Lineartide.MOVE;
        }
        int used = nameOf(end, true);
        int target = nameOf(end, false);
        switch (what) {
            case Lineartide.MAKE -> op(p, what, target, draw(3));
            case Lineartide.MOVE, Lineartide.SHARE, Lineartide.LEND -> op(p, what, target, used);
            case Lineartide.FREE, Lineartide.READ, Lineartide.WRITE -> op(p, what, used, 0);
            case Lineartide.SEND, Lineartide.TAKE -> op(p, what, draw(3), draw(6));
            case Lineartide.PICK -> op(p, what, draw(3), draw(2));
            default -> op(p, what, draw(3), draw(2) == 0 ? draw(16) : Math.min(15, n + 1 + draw(3)));
        }
    }

    /** An op by which a channel goes on. */
    private void talk(int p, int c, int asked, Plain.Ahead end) {
        int n = y.codes.get(p).size();
        switch (asked) {
            case Lineartide.GIVES -> {
                int owner = 1 + y.kind(c, end.steps().get(c));
                int name = end.names().indexOf(owner);
                if (name < 0) {
                    op(p, Lineartide.MAKE, nameOf(end, false), owner - 1);
                } else {
                    op(p, Lineartide.SEND, c, name);
                }
            }
            case Lineartide.GETS -> op(p, Lineartide.TAKE, c, nameOf(end, false));
            case Lineartide.PICKS -> op(p, Lineartide.PICK, c, draw(2));
            default -> op(p, Lineartide.WAIT, c, Math.min(15, n + 1 + draw(2) * draw(4)));
        }
    }

    private boolean isOpen(int p, int c, Plain.Ahead end) {
        int asked = y.asks(p, c, end.steps().get(c));
        return asked >= 0 && asked <= Lineartide.OFFERS;
    }

    /** Brings channels to their ends, and frees what may not be kept. */
    private void close(int p) {
        for (int i = 0; i < 16; i++) {
            int n = y.codes.get(p).size();
            Plain.Ahead end = y.flow(p).get(n);
            if (end == null || n == 16 || y.first(p) == null) {
                return;
            }
            int c = draw(3);
            for (int k = 0; k < 3 && !isOpen(p, c, end); k++) {
                c = (c + 1) % 3;
            }
            int asked = y.asks(p, c, end.steps().get(c));
            if (isOpen(p, c, end)) {
                talk(p, c, asked, end);
            } else if (end.names().contains(3) && draw(2) == 0) {
                op(p, Lineartide.FREE, end.names().indexOf(3), 0);
            }
        }
    }

    private void tellProcess(int p, int tries, int strict) {
        for (int i = 0; i < tries && y.codes.get(p).size() < 16; i++) {
            int before = y.codes.get(p).size();
            likelyOp(p);
            int[] first = y.first(p);
            boolean wrong = first != null && first[0] <= before && y.codes.get(p).size() > before;
            if (wrong && draw(100) < strict) {
                unop(p);
            }
        }
        if (draw(100) < strict) {
            close(p);
        }
        // a process without errors is rare by chance alone: take ops away until its end is right
        for (int i = 0; i < 16 && draw(100) < strict && y.first(p) != null && !y.codes.get(p).isEmpty(); i++) {
            unop(p);
        }
    }

    private void askFound() {
        for (int p = 0; p < 3; p++) {
            int q = p;
            same("check(" + q + ")", () -> x.check(q), () -> y.check(q));
            long error = same("error(" + q + ")", () -> x.error(q), () -> y.error(q));
            ERRORS[(int) error]++;
            same("borrower(" + q + ")", () -> x.borrower(q), () -> y.borrower(q));
            for (int i = -1; i <= y.codes.get(q).size() + 1; i++) {
                int op = i;
                same("lives(" + q + ", " + op + ")", () -> x.lives(q, op), () -> y.lives(q, op));
                for (int v = 0; v < 6; v++) {
                    int name = v;
                    same("holds(" + q + ", " + op + ", " + name + ")", () -> x.holds(q, op, name), () -> y.holds(q, op, name));
                }
                for (int c = -1; c < 4; c++) {
                    int channel = c;
                    same("at(" + q + ", " + op + ", " + channel + ")", () -> x.at(q, op, channel), () -> y.at(q, op, channel));
                }
            }
        }
    }

    private void askStuck() {
        long stuck = same("stuck()", x::stuck, y::stuck);
        if (stuck >= -1) {
            STUCK[(int) stuck + 1]++;
            most = Math.max(most, y.layouts);
        }
    }

    private void askRun() {
        for (int p = 0; p < 3; p++) {
            int q = p;
            same("state(" + q + ")", () -> x.state(q), () -> y.state(q));
            same("fault(" + q + ")", () -> x.fault(q), () -> y.fault(q));
            same("place(" + q + ")", () -> x.place(q), () -> y.place(q));
            for (int v = -1; v <= 6; v++) {
                int name = v;
                same("value(" + q + ", " + name + ")", () -> x.value(q, name), () -> y.value(q, name));
            }
            for (int c = -1; c <= 3; c++) {
                int channel = c;
                same("waiting(" + q + ", " + channel + ")", () -> x.waiting(q, channel), () -> y.waiting(q, channel));
            }
        }
        same("made()", x::made, y::made);
        long drops = same("drops()", x::drops, y::drops);
        for (int i = -1; i <= drops; i++) {
            int place = i;
            same("dropped(" + place + ")", () -> x.dropped(place), () -> y.dropped(place));
        }
    }

    private void doRun() {
        String before = trail;
        x.begin();
        y.begin();
        told("begin()");
        askRun();
        int turns = draw(3) == 0 ? 6 : 40;
        for (int i = 0; i < turns; i++) {
            if (draw(6) == 0) {
                int seed = draw(Integer.MAX_VALUE) * (draw(2) * 2 - 1);
                int steps = draw(9) == 0 ? 200 : 1 + draw(6);
                String call = "run(" + seed + ", " + steps + ")";
                same(call, () -> x.run(seed, steps), () -> y.run(seed, steps));
                told(call);
            } else {
                int p = draw(3);
                boolean coin = draw(2) == 1;
                String call = "go(" + p + ", " + coin + ")";
                same(call, () -> x.go(p, coin) ? 1 : 0, () -> y.go(p, coin) ? 1 : 0);
                told(call);
            }
            askRun();
        }
        for (int p = 0; p < 3; p++) {
            FAULTS[y.fault(p)]++;
        }
        if (y.first(0) == null && y.first(1) == null && y.first(2) == null) {
            askClean();
        }
        trail = before;
    }

    /** Whoever is without errors ahead of the run keeps all rules in it; who cannot be stuck comes to no stand. */
    private void askClean() {
        clean++;
        for (int p = 0; p < 3; p++) {
            EXPECT.due(trail + "\n  fault of a process without errors", 0, x.fault(p));
        }
        if (x.stuck() == 0) {
            boolean stands = same("run(1, 1)", () -> x.run(1, 1), () -> y.run(1, 1)) == 0;
            boolean all = x.state(0) == Lineartide.DONE && x.state(1) == Lineartide.DONE && x.state(2) == Lineartide.DONE;
            EXPECT.due(trail + "\n  stands without being stuck", false, stands && !all);
        }
    }

    /** Channels that processes use in any order, so that they wait for one another. */
    private void tellCrossing() {
        for (int p = 0; p < 3; p++) {
            int count = 1 + draw(4);
            for (int i = 0; i < count; i++) {
                step(p, draw(6) == 0 ? Lineartide.PICKS : draw(2), draw(6) == 0 ? 1 + i : 0, i + 1);
            }
            step(p, Lineartide.ENDS, 0, 0);
        }
        for (int i = 0; i < 8; i++) {
            channel(draw(3), draw(3), draw(3));
        }
        for (int p = 0; p < 3; p++) {
            op(p, Lineartide.MAKE, 0, 0);
            close(p);
        }
        askFound();
        askStuck();
        doRun();
    }

    private void play() {
        askRun();
        if (draw(5) == 0) {
            tellCrossing();
            return;
        }
        tellProtocols();
        int strict = List.of(0, 60, 95, 100, 100).get(draw(5));
        int tries = List.of(0, 0, 4, 12, 40).get(draw(5));
        for (int p = 0; p < 3; p++) {
            tellProcess(p, tries, strict);
        }
        for (int round = 0; round < 3; round++) {
            askFound();
            askStuck();
            doRun();
            askStuck();
            if (draw(3) == 0) {
                channel(draw(3), draw(3), draw(3));
            } else {
                for (int i = draw(3); i > 0; i--) {
                    unop(draw(3));
                }
                tellProcess(draw(3), 5, strict);
            }
            askRun();
        }
    }

    public static void main(String[] args) {
        int games = args.length > 0 ? Integer.parseInt(args[0]) : 4000;
        for (int seed = 0; seed < games; seed++) {
            new OracleTest(seed).play();
        }
        System.out.println("errors " + java.util.Arrays.toString(ERRORS) + ", faults " + java.util.Arrays.toString(FAULTS)
            + ", stuck (none, no, yes) " + java.util.Arrays.toString(STUCK) + ", runs without errors " + clean + ", most layouts " + most);
        // the comparison is worth little where a thing hardly comes up
        for (int error = Lineartide.UNLIKE; error <= Lineartide.OPEN; error++) {
            EXPECT.due("error " + error + " came up often", true, ERRORS[error] > games / 200);
        }
        for (int fault = Lineartide.EMPTY; fault <= Lineartide.CANCELLED; fault++) {
            EXPECT.due("fault " + fault + " came up often", true, FAULTS[fault] > games / 200);
        }
        for (int i = 0; i < 3; i++) {
            EXPECT.due("stuck() answered " + (i - 1) + " often", true, STUCK[i] > games / 200);
        }
        EXPECT.end();
    }
}
