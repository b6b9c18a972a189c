/** Promises 13 to 20: runs, and what processes are in them. */
public final class RunTest {
    private static final Expect EXPECT = new Expect();
    private static final int MAKE = Lineartide.MAKE, MOVE = Lineartide.MOVE, FREE = Lineartide.FREE, READ = Lineartide.READ,
        WRITE = Lineartide.WRITE, SHARE = Lineartide.SHARE, LEND = Lineartide.LEND, SEND = Lineartide.SEND, TAKE = Lineartide.TAKE,
        PICK = Lineartide.PICK, WAIT = Lineartide.WAIT, MAYBE = Lineartide.MAYBE, JUMP = Lineartide.JUMP, STOP = Lineartide.STOP;
    private static final int GIVES = Lineartide.GIVES, GETS = Lineartide.GETS, PICKS = Lineartide.PICKS, OFFERS = Lineartide.OFFERS,
        ENDS = Lineartide.ENDS;
    private static final int RUNNING = Lineartide.RUNNING, DONE = Lineartide.DONE, DEAD = Lineartide.DEAD;

    private static Lineartide add(Lineartide x, int process, int... ops) {
        for (int i = 0; i + 2 < ops.length; i += 3) {
            x.op(process, ops[i], ops[i + 1], ops[i + 2]);
        }
        return x;
    }

    /** An object with a channel 0 of these steps, between the left process 0 and the right process 1. */
    private static Lineartide steps(int... steps) {
        Lineartide x = new Lineartide();
        for (int i = 0; i + 2 < steps.length; i += 3) {
            x.step(0, steps[i], steps[i + 1], steps[i + 2]);
        }
        x.channel(0, 0, 1);
        return x;
    }

    private static void go(Lineartide x, int process, int times) {
        for (int i = 0; i < times; i++) {
            EXPECT.due("go " + i + " of process " + process, true, x.go(process, false));
        }
    }

    private static void is(String what, Lineartide x, int process, int state, int fault, int place) {
        EXPECT.due(what + ": state", state, x.state(process));
        EXPECT.due(what + ": fault", fault, x.fault(process));
        EXPECT.due(what + ": place", place, x.place(process));
    }

    /** Process 0 does these ops; the last one is wrong. */
    private static void fault(String what, int fault, Lineartide x, int... ops) {
        add(x, 0, ops);
        x.begin();
        int count = ops.length / 3;
        go(x, 0, count - 1);
        is(what + ", ahead of it", x, 0, RUNNING, 0, count - 1);
        go(x, 0, 1);
        is(what, x, 0, DEAD, fault, count - 1);
        EXPECT.state(what + ": goes no more", () -> x.go(0, false) ? 1 : 0);
    }

    /** Process 0 does all these ops and ends. */
    private static void fine(String what, Lineartide x, int... ops) {
        add(x, 0, ops);
        x.begin();
        int count = ops.length / 3;
        go(x, 0, count);
        is(what + ", all done", x, 0, RUNNING, 0, count);
        go(x, 0, 1);
        is(what, x, 0, DONE, 0, count);
        EXPECT.state(what + ": goes no more", () -> x.go(0, false) ? 1 : 0);
    }

    private static Lineartide none() {
        return new Lineartide();
    }

    private static void beginning() {
        Lineartide x = add(none(), 0, MAKE, 0, 0, MAKE, 1, 0, MAKE, 2, 1);
        x.begin();
        for (int p = 0; p < 3; p++) {
            int q = p;
            is("at the beginning", x, p, RUNNING, 0, 0);
            for (int v = 0; v < 6; v++) {
                EXPECT.due("no value", -1, x.value(p, v));
            }
            for (int c = 0; c < 3; c++) {
                EXPECT.due("nothing waits where no channel is", 0, x.waiting(p, c));
            }
            EXPECT.bounds("value of a name -1", () -> x.value(q, -1));
            EXPECT.bounds("value of a name 6", () -> x.value(q, 6));
            EXPECT.bounds("waiting at a channel -1", () -> x.waiting(q, -1));
            EXPECT.bounds("waiting at a channel 3", () -> x.waiting(q, 3));
        }
        for (int p : new int[] {-1, 3, Integer.MIN_VALUE, Integer.MAX_VALUE}) {
            EXPECT.bounds("go", () -> x.go(p, false) ? 1 : 0);
            EXPECT.bounds("state", () -> x.state(p));
            EXPECT.bounds("fault", () -> x.fault(p));
            EXPECT.bounds("place", () -> x.place(p));
            EXPECT.bounds("value", () -> x.value(p, 0));
            EXPECT.bounds("waiting", () -> x.waiting(p, 0));
            EXPECT.bounds("go without a run", () -> none().go(p, false) ? 1 : 0);
            EXPECT.bounds("state without a run", () -> none().state(p));
            EXPECT.bounds("fault without a run", () -> none().fault(p));
            EXPECT.bounds("place without a run", () -> none().place(p));
            EXPECT.bounds("value without a run", () -> none().value(p, 0));
            EXPECT.bounds("waiting without a run", () -> none().waiting(p, 0));
        }
        EXPECT.bounds("value of no name without a run", () -> none().value(0, 6));
        EXPECT.bounds("waiting of no channel without a run", () -> none().waiting(0, 3));
        go(x, 0, 3);
        EXPECT.due("the last value", 2, x.value(0, 2));
        x.begin();
        is("begun anew", x, 0, RUNNING, 0, 0);
        EXPECT.due("without values", -1, x.value(0, 2));
        EXPECT.due("none made", 0, x.made());
        go(x, 1, 1);
        is("no ops", x, 1, DONE, 0, 0);
    }

    private static void begunAnew() {
        Lineartide x = steps(GIVES, 0, 1, GIVES, 0, 2, ENDS, 0, 0);
        add(x, 0, MAKE, 0, 0, SEND, 0, 0, READ, 5, 0);
        add(x, 1, TAKE, 0, 0);
        for (int i = 0; i < 2; i++) {
            x.begin();
            EXPECT.due("nothing waits in a new run", 0, x.waiting(1, 0));
            EXPECT.due("so TAKE waits", false, x.go(1, false));
            go(x, 0, 2);
            EXPECT.due("sent from the first step on", 1, x.waiting(1, 0));
            go(x, 0, 1);
            is("dead", x, 0, DEAD, Lineartide.EMPTY, 2);
            EXPECT.due("what it sent waits", 1, x.waiting(1, 0));
            x.begin();
            is("alive in a new run", x, 0, RUNNING, 0, 0);
        }
    }

    private static void faults() {
        for (int what : new int[] {FREE, READ, WRITE}) {
            fault("op " + what + " of nothing", Lineartide.EMPTY, none(), what, 0, 0);
        }
        for (int what : new int[] {MOVE, SHARE, LEND, SEND}) {
            fault("op " + what + " of nothing", Lineartide.EMPTY, none(), what, 0, 1);
        }
        fault("MOVE of nothing to itself", Lineartide.EMPTY, none(), MOVE, 0, 0);
        for (int lend = SHARE; lend <= LEND; lend++) {
            fault("FREE of a borrow", Lineartide.KIND, none(), MAKE, 0, 0, lend, 1, 0, FREE, 1, 0);
            fault("LEND of a borrow", Lineartide.KIND, none(), MAKE, 0, 0, lend, 1, 0, LEND, 2, 1);
            fault("SEND of a borrow", Lineartide.KIND, none(), MAKE, 0, 0, lend, 1, 0, SEND, 0, 1);
        }
        fault("WRITE of what is shared", Lineartide.KIND, none(), MAKE, 0, 0, SHARE, 1, 0, WRITE, 1, 0);
        fault("SHARE of what is lent", Lineartide.KIND, none(), MAKE, 0, 0, LEND, 1, 0, SHARE, 2, 1);
        fault("KIND comes ahead of BORROWED", Lineartide.KIND, none(), MAKE, 0, 0, SHARE, 1, 0, FREE, 0, 0, WRITE, 1, 0);
        fault("BORROWED comes ahead of FULL", Lineartide.BORROWED, none(), MAKE, 0, 0, MAKE, 2, 2, SHARE, 1, 0, WRITE, 0, 0, MOVE, 2, 1);
        fault("FULL by MAKE", Lineartide.FULL, none(), MAKE, 0, 2, MAKE, 0, 0);
        fault("FULL by MOVE", Lineartide.FULL, none(), MAKE, 0, 2, MAKE, 1, 0, MOVE, 0, 1);
        fault("FULL by SHARE", Lineartide.FULL, none(), MAKE, 0, 2, MAKE, 1, 0, SHARE, 0, 1);
        fault("FULL by LEND", Lineartide.FULL, none(), MAKE, 0, 2, MAKE, 1, 0, LEND, 0, 1);
        fault("FULL by TAKE comes ahead of SESSION", Lineartide.FULL, none(), MAKE, 0, 2, TAKE, 0, 0);
        fine("not FULL by itself", none(), MAKE, 0, 2, MOVE, 0, 0, FREE, 0, 0);
        fault("KEPT at STOP", Lineartide.KEPT, none(), MAKE, 0, 2, STOP, 0, 0);
        fine("MANY and AFFINE may be kept", none(), MAKE, 0, 0, MAKE, 1, 1);
        Lineartide x = add(none(), 0, MAKE, 0, 2);
        x.begin();
        go(x, 0, 2);
        is("KEPT at the end", x, 0, DEAD, Lineartide.KEPT, 1);
        x = add(none(), 0, STOP, 0, 0, MAKE, 0, 2);
        x.begin();
        go(x, 0, 1);
        is("DONE at STOP", x, 0, DONE, 0, 0);
        for (int what = SEND; what <= WAIT; what++) {
            fault("op " + what + " over no channel", Lineartide.SESSION, none(), MAKE, 1, 1, what, 0, 1);
            Lineartide y = none();
            y.step(0, what - SEND, 1, 1);
            y.step(0, ENDS, 0, 0);
            y.channel(0, 2, 1);
            fault("op " + what + " over a channel of others", Lineartide.SESSION, y, MAKE, 1, 1, what, 0, 1);
            for (int step = GIVES; step <= ENDS; step++) {
                if (step != what - SEND) {
                    fault("op " + what + " at step " + step, Lineartide.SESSION, steps(step, 1, 1, ENDS, 0, 0), MAKE, 1, 1, what, 0, 1);
                }
            }
        }
        fault("SEND of another kind", Lineartide.KIND, steps(GIVES, 2, 1, ENDS, 0, 0), MAKE, 0, 1, SEND, 0, 0);
        fault("OPEN at STOP", Lineartide.OPEN, steps(GIVES, 2, 1, ENDS, 0, 0), STOP, 0, 0);
        fault("KEPT comes ahead of OPEN", Lineartide.KEPT, steps(GIVES, 2, 1, ENDS, 0, 0), MAKE, 0, 2, STOP, 0, 0);
    }

    private static void shares() {
        for (int kind = 0; kind < 2; kind++) {
            fault("a share, freed", Lineartide.BORROWED, none(), MAKE, 0, kind, SHARE, 1, 0, FREE, 0, 0, READ, 1, 0);
            fault("a share, changed", Lineartide.BORROWED, none(), MAKE, 0, kind, SHARE, 1, 0, WRITE, 0, 0, READ, 1, 0);
            fault("a share, lent", Lineartide.BORROWED, none(), MAKE, 0, kind, SHARE, 1, 0, LEND, 2, 0, READ, 1, 0);
            fault("a share, made over", Lineartide.BORROWED, none(), MAKE, 0, kind, SHARE, 1, 0, MAKE, 0, 0, READ, 1, 0);
            fault("a share's share, changed", Lineartide.BORROWED, none(), MAKE, 0, kind, SHARE, 1, 0, SHARE, 2, 1, WRITE, 0, 0, READ, 2, 0);
            fault("a moved share, changed", Lineartide.BORROWED, none(), MAKE, 0, kind, SHARE, 1, 0, MOVE, 2, 1, WRITE, 0, 0, READ, 2, 0);
            fault("SHARE of a share that holds no more", Lineartide.BORROWED, none(), MAKE, 0, kind, SHARE, 1, 0, WRITE, 0, 0, SHARE, 2, 1);
            fault("MOVE of a share that holds no more", Lineartide.BORROWED, none(), MAKE, 0, kind, SHARE, 1, 0, WRITE, 0, 0, MOVE, 2, 1);
            fault("the same by itself", Lineartide.BORROWED, none(), MAKE, 0, kind, SHARE, 1, 0, WRITE, 0, 0, MOVE, 1, 1);
            fine("a share, read", none(), MAKE, 0, kind, SHARE, 1, 0, READ, 0, 0, READ, 1, 0, SHARE, 2, 0, READ, 1, 0, READ, 2, 0);
            fine("a share, moved to itself", none(), MAKE, 0, kind, SHARE, 1, 0, MOVE, 1, 1, MOVE, 0, 0, READ, 1, 0);
            fine("shared anew", none(), MAKE, 0, kind, SHARE, 1, 0, WRITE, 0, 0, SHARE, 1, 0, READ, 1, 0);
            fault("a share moved over its owner", Lineartide.BORROWED, none(), MAKE, 0, kind, SHARE, 1, 0, MOVE, 0, 1, READ, 0, 0);
            fault("a share shared over its owner", Lineartide.BORROWED, none(), MAKE, 0, kind, SHARE, 1, 0, SHARE, 0, 1, READ, 0, 0);
            fault("and the share itself", Lineartide.BORROWED, none(), MAKE, 0, kind, SHARE, 1, 0, SHARE, 0, 1, READ, 1, 0);
        }
        fault("a share, moved", Lineartide.BORROWED, none(), MAKE, 0, 1, SHARE, 1, 0, MOVE, 2, 0, READ, 1, 0);
        fine("a share, copied", none(), MAKE, 0, 0, SHARE, 1, 0, MOVE, 2, 0, READ, 1, 0);
        fault("a share, sent", Lineartide.BORROWED, steps(GIVES, 1, 1, ENDS, 0, 0), MAKE, 0, 1, SHARE, 1, 0, SEND, 0, 0, READ, 1, 0);
        fine("a share, sent as a copy", steps(GIVES, 0, 1, ENDS, 0, 0), MAKE, 0, 0, SHARE, 1, 0, SEND, 0, 0, READ, 1, 0);
        fault("a share, moved and moved back", Lineartide.BORROWED, none(), MAKE, 0, 1, SHARE, 1, 0, MOVE, 2, 0, MOVE, 0, 2, READ, 1, 0);
    }

    private static void loans() {
        for (int kind = 0; kind < 2; kind++) {
            int[][] uses = {{READ, 0, 0}, {WRITE, 0, 0}, {FREE, 0, 0}, {MOVE, 2, 0}, {SHARE, 2, 0}, {LEND, 2, 0}, {MAKE, 0, 0}};
            for (int[] u : uses) {
                fault("a loan behind op " + u[0], Lineartide.BORROWED, none(), MAKE, 0, kind, LEND, 1, 0, u[0], u[1], u[2], READ, 1, 0);
            }
            fine("a loan, used", none(), MAKE, 0, kind, LEND, 1, 0, READ, 1, 0, WRITE, 1, 0, READ, 1, 0, READ, 0, 0);
            fine("a loan, moved", none(), MAKE, 0, kind, LEND, 1, 0, MOVE, 2, 1, WRITE, 2, 0, MOVE, 3, 2, READ, 3, 0);
            fault("a loan has gone from where it was", Lineartide.EMPTY, none(), MAKE, 0, kind, LEND, 1, 0, MOVE, 2, 1, READ, 1, 0);
            fine("a loan, moved to itself", none(), MAKE, 0, kind, LEND, 1, 0, MOVE, 1, 1, MOVE, 0, 0, WRITE, 1, 0);
            fine("lent anew", none(), MAKE, 0, kind, LEND, 1, 0, READ, 0, 0, LEND, 1, 0, WRITE, 1, 0);
            fault("WRITE of a loan that holds no more", Lineartide.BORROWED, none(), MAKE, 0, kind, LEND, 1, 0, READ, 0, 0, WRITE, 1, 0);
            fault("MOVE of a loan that holds no more", Lineartide.BORROWED, none(), MAKE, 0, kind, LEND, 1, 0, READ, 0, 0, MOVE, 2, 1);
            fault("a loan moved over its owner", Lineartide.BORROWED, none(), MAKE, 0, kind, LEND, 1, 0, MOVE, 0, 1, READ, 0, 0);
        }
        fault("a loan, sent as a copy", Lineartide.BORROWED, steps(GIVES, 0, 1, ENDS, 0, 0), MAKE, 0, 0, LEND, 1, 0, SEND, 0, 0, READ, 1, 0);
        fault("a loan, sent", Lineartide.BORROWED, steps(GIVES, 1, 1, ENDS, 0, 0), MAKE, 0, 1, LEND, 1, 0, SEND, 0, 0, READ, 1, 0);
    }

    private static void values() {
        Lineartide x = add(none(), 0, MAKE, 0, 0, MAKE, 1, 1, MOVE, 2, 0, MOVE, 3, 1, SHARE, 4, 3, MOVE, 5, 4, LEND, 4, 3, MOVE, 1, 4, FREE, 3, 0);
        x.begin();
        go(x, 0, 8);
        int[] want = {0, 1, 2, 1, -1, 1};
        for (int i = 0; i < want.length; i++) {
            EXPECT.due("value of " + i, want[i], x.value(0, i));
        }
        EXPECT.due("of another process", -1, x.value(1, 0));
        go(x, 0, 1);
        EXPECT.due("freed", -1, x.value(0, 3));
        EXPECT.due("a loan of what was freed", 1, x.value(0, 1));
        EXPECT.due("a share of what was freed", 1, x.value(0, 5));
        EXPECT.due("three were made", 3, x.made());
    }

    private static void messages() {
        Lineartide x = steps(GIVES, 0, 1, GIVES, 1, 2, GIVES, 2, 3, GETS, 1, 4, ENDS, 0, 0);
        add(x, 0, MAKE, 0, 0, MAKE, 1, 1, MAKE, 2, 2, SEND, 0, 0, SEND, 0, 1, SEND, 0, 2, TAKE, 0, 0);
        add(x, 1, TAKE, 0, 3, TAKE, 0, 4, TAKE, 0, 5, SEND, 0, 4, FREE, 5, 0);
        x.begin();
        EXPECT.due("waits for a message", false, x.go(1, false));
        go(x, 0, 5);
        EXPECT.due("two wait", 2, x.waiting(1, 0));
        EXPECT.due("none for the sender", 0, x.waiting(0, 0));
        EXPECT.due("none for the third", 0, x.waiting(2, 0));
        EXPECT.due("waits for room", false, x.go(0, false));
        is("it stays", x, 0, RUNNING, 0, 5);
        EXPECT.due("a copy stays", 0, x.value(0, 0));
        EXPECT.due("AFFINE is away", -1, x.value(0, 1));
        go(x, 1, 1);
        EXPECT.due("the copy came", 3, x.value(1, 3));
        EXPECT.due("one waits", 1, x.waiting(1, 0));
        go(x, 0, 1);
        EXPECT.due("waits for an answer", false, x.go(0, false));
        go(x, 1, 3);
        EXPECT.due("AFFINE went on", -1, x.value(1, 4));
        EXPECT.due("LINEAR came", 2, x.value(1, 5));
        EXPECT.due("the answer waits", 1, x.waiting(0, 0));
        go(x, 0, 2);
        is("left", x, 0, DONE, 0, 7);
        go(x, 1, 2);
        is("right", x, 1, DONE, 0, 5);
    }

    private static void ways() {
        for (int way = 0; way < 2; way++) {
            Lineartide x = steps(PICKS, 1, 2, GIVES, 0, 3, GETS, 1, 3, ENDS, 0, 0);
            add(x, 0, PICK, 0, way, MAKE, 0, 0);
            add(x, 0, way == 0 ? SEND : TAKE, 0, 0);
            add(x, 1, WAIT, 0, 3, TAKE, 0, 0, STOP, 0, 0, MAKE, 1, 1, SEND, 0, 1);
            x.begin();
            EXPECT.due("WAIT waits", false, x.go(1, true));
            go(x, 0, 1);
            EXPECT.due("a way waits", 1, x.waiting(1, 0));
            go(x, 1, 1);
            EXPECT.due("WAIT goes on by the way " + way, way == 0 ? 1 : 3, x.place(1));
            EXPECT.due("run", way == 0 ? 6 : 7, x.run(3, 200));
            is("left", x, 0, DONE, 0, 3);
            is("right", x, 1, DONE, 0, way == 0 ? 2 : 5);
        }
        Lineartide y = add(none(), 0, MAYBE, 0, 2, STOP, 0, 0, MAYBE, 0, 15, JUMP, 0, 9);
        y.begin();
        EXPECT.due("with the coin", true, y.go(0, true));
        EXPECT.due("to b", 2, y.place(0));
        EXPECT.due("without", true, y.go(0, false));
        EXPECT.due("to the next one", 3, y.place(0));
        EXPECT.due("JUMP past the end", true, y.go(0, true));
        EXPECT.due("is at the end", 4, y.place(0));
        y.begin();
        y.go(0, true);
        y.go(0, true);
        EXPECT.due("MAYBE past the end", 4, y.place(0));
        EXPECT.due("the coin does not matter elsewhere", true, y.go(0, true));
        is("at the end", y, 0, DONE, 0, 4);
    }

    private static void whoIsDead() {
        Lineartide x = steps(GIVES, 0, 1, GETS, 0, 2, ENDS, 0, 0);
        add(x, 0, MAKE, 0, 0, SEND, 0, 0, TAKE, 0, 1);
        add(x, 1, READ, 0, 0);
        x.begin();
        go(x, 0, 2);
        EXPECT.due("waits while the other is RUNNING", false, x.go(0, false));
        EXPECT.due("one message", 1, x.waiting(1, 0));
        go(x, 1, 1);
        is("the other", x, 1, DEAD, Lineartide.EMPTY, 0);
        EXPECT.due("nothing waits for the dead", 0, x.waiting(1, 0));
        go(x, 0, 1);
        is("cancelled", x, 0, DEAD, Lineartide.CANCELLED, 2);

        Lineartide y = steps(OFFERS, 1, 1, ENDS, 0, 0);
        add(y, 0, WAIT, 0, 1);
        add(y, 1, READ, 0, 0);
        y.begin();
        EXPECT.due("WAIT waits", false, y.go(0, false));
        go(y, 1, 1);
        go(y, 0, 1);
        is("WAIT is cancelled", y, 0, DEAD, Lineartide.CANCELLED, 0);

        Lineartide z = steps(GETS, 0, 1, GETS, 0, 2, ENDS, 0, 0);
        add(z, 0, TAKE, 0, 0, TAKE, 0, 1);
        add(z, 1, MAKE, 0, 0, SEND, 0, 0, FREE, 5, 0);
        z.begin();
        go(z, 1, 3);
        is("dead behind one message", z, 1, DEAD, Lineartide.EMPTY, 2);
        EXPECT.due("the message still waits", 1, z.waiting(0, 0));
        go(z, 0, 1);
        EXPECT.due("and is taken", 1, z.value(0, 0));
        go(z, 0, 1);
        is("the next one is cancelled", z, 0, DEAD, Lineartide.CANCELLED, 1);

        Lineartide w = steps(PICKS, 1, 1, PICKS, 2, 2, PICKS, 3, 3, ENDS, 0, 0);
        add(w, 0, PICK, 0, 0, PICK, 0, 1, PICK, 0, 0);
        w.begin();
        go(w, 0, 2);
        EXPECT.due("PICK waits for room", false, w.go(0, false));
        go(w, 1, 1);
        is("OPEN at the end", w, 1, DEAD, Lineartide.OPEN, 0);
        go(w, 0, 2);
        is("no room is needed at the dead", w, 0, DONE, 0, 3);
        EXPECT.due("nothing waits", 0, w.waiting(1, 0));
    }

    private static void waitsAheadOfRules() {
        Lineartide x = steps(GIVES, 0, 1, GIVES, 0, 2, GIVES, 0, 3, ENDS, 0, 0);
        add(x, 0, MAKE, 0, 0, SEND, 0, 0, SEND, 0, 0, SEND, 0, 5);
        add(x, 1, TAKE, 0, 0);
        x.begin();
        go(x, 0, 3);
        EXPECT.due("no room, though nothing is to be sent", false, x.go(0, false));
        go(x, 1, 1);
        go(x, 0, 1);
        is("then the rule", x, 0, DEAD, Lineartide.EMPTY, 3);
        Lineartide y = steps(GETS, 0, 1, ENDS, 0, 0);
        add(y, 0, MAKE, 0, 2, TAKE, 0, 0);
        add(y, 1, MAKE, 0, 0, SEND, 0, 0);
        y.begin();
        go(y, 0, 1);
        EXPECT.due("no message, though the target is FULL", false, y.go(0, false));
        go(y, 1, 2);
        go(y, 0, 1);
        is("then the rule", y, 0, DEAD, Lineartide.FULL, 1);
    }

    private static void drawn() {
        Lineartide x = none();
        for (int p = 0; p < 3; p++) {
            add(x, p, MAYBE, 0, 0, JUMP, 0, 0);
        }
        for (int seed : new int[] {0, 1, 2, -1, 12345, Integer.MAX_VALUE, Integer.MIN_VALUE}) {
            x.begin();
            int[] place = new int[3];
            int state = seed;
            for (int i = 0; i < 60; i++) {
                state = state * 1103515245 + 12345;
                int who = (state >>> 16) % 3;
                place[who] = place[who] == 0 && state >= 0 ? 1 : 0;
            }
            EXPECT.due("run of 60", 60, x.run(seed, 60));
            for (int p = 0; p < 3; p++) {
                EXPECT.due("place of " + p + " by seed " + seed, place[p], x.place(p));
            }
        }
        EXPECT.argument("no steps", () -> x.run(1, 0));
        EXPECT.argument("201 steps", () -> x.run(1, 201));
        EXPECT.argument("no steps without a run", () -> none().run(1, 0));
        EXPECT.argument("steps below 0", () -> x.run(1, Integer.MIN_VALUE));
        EXPECT.state("no run", () -> none().run(1, 200));
        EXPECT.due("200 steps", 200, x.run(1, 200));
        Lineartide y = add(none(), 0, READ, 0, 0);
        y.begin();
        EXPECT.due("two ends and a death", 3, y.run(7, 200));
        EXPECT.due("none is left", 0, y.run(7, 200));
        is("dead", y, 0, DEAD, Lineartide.EMPTY, 0);
        y.begin();
        EXPECT.due("fewer steps than there are", 2, y.run(7, 2));
        EXPECT.due("and the rest", 1, y.run(7, 2));
    }

    /** Two of three wait, so the third is drawn whatever the state. */
    private static void drawnAmongReady() {
        Lineartide x = none();
        x.step(0, GETS, 0, 0);
        x.channel(0, 0, 1);
        x.channel(0, 1, 0);
        add(x, 0, TAKE, 0, 0);
        add(x, 1, TAKE, 1, 0);
        add(x, 2, MAKE, 0, 0, JUMP, 0, 0);
        x.begin();
        EXPECT.due("the third goes on", 21, x.run(99, 21));
        EXPECT.due("alone", 1, x.place(2));
        EXPECT.due("11 were made", 11, x.made());
        is("the first waits", x, 0, RUNNING, 0, 0);
        is("the second waits", x, 1, RUNNING, 0, 0);
    }

    public static void main(String[] args) {
        beginning();
        begunAnew();
        faults();
        shares();
        loans();
        values();
        messages();
        ways();
        whoIsDead();
        waitsAheadOfRules();
        drawn();
        drawnAmongReady();
        EXPECT.end();
    }
}
