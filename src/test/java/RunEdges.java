/**
 * The boundary cases of runs: "Runs", what "Processes" says about single ops as far as it is done in a run, and the
 * promises 13 to 20. Each test says by its first line for which words of the document it stands.
 */
final class RunEdges implements Words {
    private static final Edges EDGES = new Edges();

    private static Lineartide begun(int... ops) {
        Lineartide x = Edges.ops(ops);
        x.begin();
        return x;
    }

    /** Process 0 does so many of these ops. */
    private static Lineartide done(int goes, int... ops) {
        Lineartide x = begun(ops);
        EDGES.go(x, 0, goes);
        return x;
    }

    private static void values(String what, Lineartide x, int process, int... values) {
        for (int i = 0; i < values.length; i++) {
            EDGES.due(what + ": value of " + i, values[i], x.value(process, i));
        }
    }

    // ---- the ops, as they are done

    private static void opsDone() {
        EDGES.says("Processes", "MAKE: the variable a gets a new value of the kind b.");
        values("MAKE", done(3, MAKE, 5, MANY, MAKE, 0, AFFINE, MAKE, 2, LINEAR), 0, 1, NONE, 2, NONE, NONE, 0);
        values("MAKE over MANY", done(2, MAKE, 0, MANY, MAKE, 0, MANY), 0, 1);
        EDGES.says("Processes", "MOVE: the variable a gets what the variable b has, which has nothing then; but a value that is MANY is copied, and what is shared stays shared by both.");
        values("AFFINE", done(2, MAKE, 0, AFFINE, MOVE, 1, 0), 0, NONE, 0);
        values("LINEAR", done(2, MAKE, 0, LINEAR, MOVE, 1, 0), 0, NONE, 0);
        values("MANY", done(2, MAKE, 0, MANY, MOVE, 1, 0), 0, 0, 1);
        values("a share", done(3, MAKE, 0, AFFINE, SHARE, 1, 0, MOVE, 2, 1), 0, 0, 0, 0);
        values("a loan", done(3, MAKE, 0, AFFINE, LEND, 1, 0, MOVE, 2, 1), 0, 0, NONE, 0);
        EDGES.due("a copy is made", 2, done(2, MAKE, 0, MANY, MOVE, 1, 0).made());
        EDGES.due("nothing else is", 1, done(3, MAKE, 0, MANY, SHARE, 1, 0, MOVE, 2, 1).made());
        EDGES.says("Processes", "FREE: the value of the variable a goes.");
        values("FREE", done(2, MAKE, 0, MANY, FREE, 0, 0), 0, NONE);
        EDGES.says("Processes", "READ, WRITE: the value of the variable a is read, or changed.");
        values("they leave it", done(3, MAKE, 0, LINEAR, READ, 0, 0, WRITE, 0, 0), 0, 0);
        EDGES.says("Processes", "SHARE: the variable a shares the value that b owns, or shares. LEND: the variable a has the value lent that b owns.");
        values("SHARE twice", done(3, MAKE, 0, AFFINE, SHARE, 1, 0, SHARE, 2, 1), 0, 0, 0, 0);
        values("LEND", done(2, MAKE, 0, AFFINE, LEND, 1, 0), 0, 0, 0);
        EDGES.fault("SHARE of a loan", Edges.ops(MAKE, 0, AFFINE, LEND, 1, 0, SHARE, 2, 1), 3, KIND);
        EDGES.fault("LEND of a share", Edges.ops(MAKE, 0, AFFINE, SHARE, 1, 0, LEND, 2, 1), 3, KIND);
    }

    private static void movedToItself() {
        EDGES.says("Processes", "in a run it ends no share and no loan).");
        for (int kind = MANY; kind <= LINEAR; kind++) {
            for (int what = SHARE; what <= LEND; what++) {
                Lineartide x = done(4, MAKE, 0, kind, what, 1, 0, MOVE, 0, 0, READ, 1, 0);
                EDGES.is("op " + what + " of the kind " + kind, x, 0, RUNNING, 0, 4);
                EDGES.due("nothing is made by it", 1, x.made());
                EDGES.due("nothing is dropped by it", 0, x.drops());
                values("all stays", x, 0, 0, 0);
                Lineartide y = done(4, MAKE, 0, kind, what, 1, 0, MOVE, 1, 1, READ, 1, 0);
                EDGES.is("of a borrow", y, 0, RUNNING, 0, 4);
            }
        }
        EDGES.fault("of nothing", Edges.ops(MOVE, 3, 3), 1, EMPTY);
        EDGES.fault("of a share that holds no more", Edges.ops(MAKE, 0, MANY, SHARE, 1, 0, WRITE, 0, 0, MOVE, 1, 1), 4, BORROWED);
        EDGES.drops("it is not got anew", endsAffine(MAKE, 0, AFFINE, MAKE, 1, AFFINE, MOVE, 0, 0), 1, 0);
        EDGES.drops("by another variable it is", endsAffine(MAKE, 0, AFFINE, MAKE, 1, AFFINE, MOVE, 2, 0), 0, 1);
    }

    /** Process 0 does all these ops, and ends. */
    private static Lineartide endsAffine(int... ops) {
        Lineartide x = done(ops.length / 3 + 1, ops);
        EDGES.due("it has ended", DONE, x.state(0));
        return x;
    }

    private static void targetsGo() {
        EDGES.says("Processes", "What a target owned goes; it is dropped, if it is AFFINE.");
        int[][] over = {{MAKE, 0, MANY}, {MOVE, 0, 1}, {SHARE, 0, 1}, {LEND, 0, 1}, {TAKE, 0, 0}};
        for (int[] op : over) {
            for (int kind = MANY; kind <= LINEAR; kind++) {
                Lineartide x = Edges.steps(GETS, LINEAR, 1, ENDS, 0, 0);
                Edges.add(x, 0, MAKE, 0, kind, SHARE, 2, 0, MAKE, 1, MANY, op[0], op[1], op[2], READ, 2, 0);
                Edges.add(x, 1, MAKE, 0, LINEAR, SEND, 0, 0);
                x.begin();
                EDGES.go(x, 1, 2);
                EDGES.go(x, 0, 4);
                String told = "op " + op[0] + " over the kind " + kind;
                if (kind == LINEAR) {
                    EDGES.is(told, x, 0, DEAD, FULL, 3);
                } else {
                    EDGES.due(told + ": drops", kind == AFFINE ? 1 : 0, x.drops());
                    EDGES.due(told + ": dropped", kind == AFFINE ? 1 : -1, x.drops() > 0 ? x.dropped(0) : -1);
                    EDGES.due(told + ": it is away", false, x.value(0, 0) == 1);
                    EDGES.go(x, 0, 1);
                    EDGES.is(told + ": its share holds no more", x, 0, DEAD, BORROWED, 4);
                }
            }
        }
        EDGES.due("what a target shares does not go", 0, done(3, MAKE, 0, AFFINE, SHARE, 1, 0, MAKE, 1, MANY).drops());
        EDGES.due("nor what it has lent", 0, done(3, MAKE, 0, AFFINE, LEND, 1, 0, MAKE, 1, MANY).drops());
    }

    private static void sent() {
        EDGES.says("Processes", "SEND: the value of the variable b goes over the channel a; one that is MANY is copied. TAKE: the variable b gets what comes over the channel a.");
        for (int kind = MANY; kind <= LINEAR; kind++) {
            for (int side = 0; side < 2; side++) {
                Lineartide x = Edges.steps(side == 0 ? GIVES : GETS, kind, 1, ENDS, 0, 0);
                Edges.add(x, side, MAKE, 3, kind, SEND, 0, 3);
                Edges.add(x, 1 - side, TAKE, 0, 5);
                x.begin();
                EDGES.go(x, side, 2);
                EDGES.due("of the kind " + kind + " stays", kind == MANY ? 0 : NONE, x.value(side, 3));
                EDGES.due("one waits", 1, x.waiting(1 - side, 0));
                EDGES.go(x, 1 - side, 1);
                EDGES.due("comes", kind == MANY ? 1 : 0, x.value(1 - side, 5));
                EDGES.due("none waits", 0, x.waiting(1 - side, 0));
                EDGES.go(x, 1 - side, 1);
                EDGES.is("the kind came along", x, 1 - side, kind == LINEAR ? DEAD : DONE, kind == LINEAR ? KEPT : 0, 1);
            }
        }
    }

    private static void waysGone() {
        EDGES.says("Processes", "PICK: over the channel a the way b is told. WAIT: it is taken which way comes over the channel a; by the way 1 it goes on with the op b.");
        for (int b = 0; b < 16; b++) {
            for (int way = 0; way < 2; way++) {
                Lineartide x = Edges.steps(PICKS, 1, 2, ENDS, 0, 0, ENDS, 0, 0);
                Edges.add(x, 0, PICK, 0, way);
                Edges.add(x, 1, MAKE, 0, MANY, WAIT, 0, b, MAKE, 0, MANY);
                x.begin();
                EDGES.go(x, 1, 1);
                EDGES.due("it waits", false, x.go(1, true));
                EDGES.go(x, 0, 1);
                EDGES.go(x, 1, 1);
                EDGES.due("by the way " + way + " with b " + b, way == 0 ? 2 : Math.min(b, 3), x.place(1));
            }
        }
        for (int way = 0; way < 2; way++) {
            Lineartide x = Edges.steps(PICKS, 1, 1, PICKS, 2, 2, ENDS, 0, 0);
            Edges.add(x, 0, MAKE, 0, AFFINE, MAKE, 1, LINEAR, SHARE, 2, way, PICK, 0, way, READ, 2, 0);
            Edges.add(x, 1, MAKE, 0, LINEAR, MAKE, 1, AFFINE, WAIT, 0, 15);
            x.begin();
            EDGES.go(x, 0, 5);
            EDGES.go(x, 1, 3);
            values("a way is put into no variable, nor drops one", x, 0, 0, 1, way, NONE);
            values("nor where it comes", x, 1, 2, 3, NONE);
            EDGES.due("nothing is dropped", 0, x.drops());
        }
        EDGES.says("Processes", "MAYBE: it goes on with the op b, or with the next one. JUMP: it goes on with the op b. STOP: it ends.");
        for (int b = 0; b < 16; b++) {
            Lineartide x = Edges.ops(MAKE, 0, MANY, MAYBE, 0, b, JUMP, 0, b, STOP, 0, 0);
            x.begin();
            x.go(0, true);
            x.go(0, true);
            EDGES.due("MAYBE with the coin", Math.min(b, 4), x.place(0));
            x.begin();
            x.go(0, false);
            x.go(0, false);
            EDGES.due("MAYBE without", 2, x.place(0));
            x.go(0, false);
            EDGES.due("JUMP", Math.min(b, 4), x.place(0));
        }
        EDGES.is("STOP", done(1, STOP, 0, 0, MAKE, 0, MANY), 0, DONE, 0, 0);
    }

    // ---- Runs

    private static void beginning() {
        EDGES.says("Runs", "A run begins anew with all processes RUNNING at the op 0.");
        Lineartide x = Edges.steps(GIVES, AFFINE, 1, PICKS, 2, 2, ENDS, 0, 0);
        Edges.add(x, 0, MAKE, 0, AFFINE, SEND, 0, 0, PICK, 0, 0, READ, 5, 0);
        Edges.add(x, 1, MAKE, 3, AFFINE, READ, 5, 0);
        for (int round = 0; round < 3; round++) {
            x.begin();
            for (int p = 0; p < 3; p++) {
                EDGES.is("round " + round, x, p, RUNNING, 0, 0);
                values("round " + round, x, p, NONE, NONE, NONE, NONE, NONE, NONE);
                EDGES.due("nothing waits", 0, x.waiting(p, 0));
            }
            EDGES.due("none is made", 0, x.made());
            EDGES.due("none is dropped", 0, x.drops());
            EDGES.go(x, 2, 1);
            EDGES.go(x, 0, 3 + round % 2);
            EDGES.due("two wait", 2, x.waiting(1, 0));
            EDGES.due("the first value of the run", 0, x.value(0, 0) == NONE ? 0 : 1);
            if (round == 1) {
                EDGES.go(x, 1, 2);
                EDGES.is("DEAD", x, 1, DEAD, EMPTY, 1);
            }
        }
        EDGES.says("Runs", "Processes do ops one by one as told.");
        Lineartide y = begun(MAKE, 0, MANY, MAKE, 1, MANY);
        EDGES.go(y, 0, 1);
        EDGES.due("one op", 1, y.made());
        EDGES.due("of one process", 0, y.place(1));
        EDGES.says("Runs", "There is no error found ahead; but a process is DEAD, with a fault, if an op (which is not done then) breaks a rule, the first one of these:");
        Lineartide z = done(2, MAKE, 0, LINEAR, READ, 0, 0, READ, 1, 0);
        EDGES.due("an error ahead", EMPTY, z.error(0));
        EDGES.is("does not matter yet", z, 0, RUNNING, 0, 2);
        Lineartide w = done(1, MAYBE, 0, 2, MAKE, 0, LINEAR, MAKE, 5, MANY);
        EDGES.due("an error ahead", UNLIKE, w.error(0));
        EDGES.go(w, 0, 2);
        EDGES.is("UNLIKE is no fault", w, 0, RUNNING, 0, 3);
        Lineartide full = done(2, MAKE, 0, LINEAR, MAKE, 0, MANY);
        EDGES.due("the op is not done", 1, full.made());
        EDGES.drops("but what it owned is dropped", full, 0);
    }

    private static void emptyFaults() {
        EDGES.says("Runs", "the first one of these: EMPTY: the used variable has nothing;");
        int[][] uses = {{FREE, 0, 0}, {READ, 0, 0}, {WRITE, 0, 0}, {MOVE, 3, 0}, {MOVE, 0, 0}, {SHARE, 3, 0}, {LEND, 3, 0}, {SEND, 0, 0}};
        for (int[] op : uses) {
            EDGES.fault("op " + op[0] + " of what was never made", Edges.ops(op), 1, EMPTY);
            EDGES.fault("op " + op[0] + " of what was freed", Edges.ops(Edges.all(Edges.lot(MAKE, 0, MANY, FREE, 0, 0), op)), 3, EMPTY);
            EDGES.fault("op " + op[0] + " of what was moved", Edges.ops(Edges.all(Edges.lot(MAKE, 0, AFFINE, MOVE, 1, 0), op)), 3, EMPTY);
            EDGES.fault("op " + op[0] + " of a loan that was moved", Edges.ops(Edges.all(Edges.lot(MAKE, 2, AFFINE, LEND, 0, 2, MOVE, 1, 0), op)), 4, EMPTY);
        }
        for (int v = 0; v < 6; v++) {
            EDGES.fault("the variable " + v, Edges.ops(READ, v, 0), 1, EMPTY);
            EDGES.fault("the variable " + v + ", which has a value", Edges.ops(MAKE, v, MANY, READ, v, 0), 2, 0);
        }
    }

    private static void kindFaults() {
        EDGES.says("Runs", "KIND: as above;");
        int[][] uses = {{FREE, 1, 0}, {READ, 1, 0}, {WRITE, 1, 0}, {MOVE, 3, 1}, {SHARE, 3, 1}, {LEND, 3, 1}, {SEND, 0, 1}};
        for (int[] op : uses) {
            for (int kind = MANY; kind <= LINEAR; kind++) {
                boolean taken = op[0] == FREE || op[0] == LEND || op[0] == SEND;
                int[] first = {MAKE, 0, kind, SHARE, 1, 0};
                EDGES.fault("op " + op[0] + " of a share", Edges.ops(Edges.all(first, op)), 3, taken || op[0] == WRITE ? KIND : 0);
                first[3] = LEND;
                EDGES.fault("op " + op[0] + " of a loan", Edges.ops(Edges.all(first, op)), 3, taken || op[0] == SHARE ? KIND : 0);
            }
        }
        for (int kind = MANY; kind <= LINEAR; kind++) {
            for (int step = MANY; step <= LINEAR; step++) {
                Lineartide x = Edges.steps(GIVES, step, 1, ENDS, 0, 0);
                EDGES.fault("SEND of " + kind + " at " + step, Edges.add(x, 0, MAKE, 0, kind, SEND, 0, 0), 2, kind == step ? 0 : KIND);
                Lineartide y = Edges.steps(GETS, step, 1, ENDS, 0, 0);
                EDGES.fault("SEND of " + kind + " where " + step + " is got", Edges.add(y, 0, MAKE, 0, kind, SEND, 0, 0), 2, SESSION);
                Lineartide z = Edges.steps(GIVES, step, 1, ENDS, 0, 0);
                EDGES.fault("SEND of a share", Edges.add(z, 0, MAKE, 0, kind, SHARE, 1, 0, SEND, 0, 1), 3, KIND);
            }
        }
    }

    private static void fullFaults() {
        EDGES.says("Runs", "FULL: the target owns a value that is LINEAR, and is not the used one;");
        int[][] over = {{MAKE, 0, 0}, {MOVE, 0, 1}, {SHARE, 0, 1}, {LEND, 0, 1}, {TAKE, 0, 0}};
        for (int[] op : over) {
            EDGES.fault("op " + op[0], Edges.ops(Edges.all(Edges.lot(MAKE, 1, MANY, MAKE, 0, LINEAR), op)), 3, FULL);
            int other = op[0] == TAKE ? SESSION : 0;
            EDGES.fault("op " + op[0] + " over AFFINE", Edges.ops(Edges.all(Edges.lot(MAKE, 1, MANY, MAKE, 0, AFFINE), op)), 3, other);
            EDGES.fault("op " + op[0] + " over a share of LINEAR", Edges.ops(Edges.all(Edges.lot(MAKE, 1, MANY, MAKE, 2, LINEAR, SHARE, 0, 2), op)), 4, other);
            EDGES.fault("op " + op[0] + " over a loan of LINEAR", Edges.ops(Edges.all(Edges.lot(MAKE, 1, MANY, MAKE, 2, LINEAR, LEND, 0, 2), op)), 4, other);
            EDGES.fault("op " + op[0] + " over what was freed", Edges.ops(Edges.all(Edges.lot(MAKE, 1, MANY, MAKE, 0, LINEAR, FREE, 0, 0), op)), 4, other);
        }
        EDGES.fault("MOVE to itself", Edges.ops(MAKE, 0, LINEAR, MOVE, 0, 0), 2, 0);
    }

    private static void sessionFaults() {
        EDGES.says("Runs", "SESSION: as above;");
        for (int what = SEND; what <= WAIT; what++) {
            for (int channel = 0; channel < 3; channel++) {
                EDGES.fault("op " + what + " over no channel", Edges.ops(MAKE, 1, AFFINE, what, channel, 1), 2, SESSION);
                Lineartide x = Edges.tell(new Lineartide(), 0, what - SEND, 1, 1, ENDS, 0, 0);
                for (int i = 0; i <= channel; i++) {
                    x.channel(0, 2, 1);
                }
                EDGES.fault("op " + what + " over a channel of others", Edges.add(x, 0, MAKE, 1, AFFINE, what, channel, 1), 2, SESSION);
            }
            for (int step = GIVES; step <= ENDS; step++) {
                if (step != what - SEND) {
                    Lineartide x = Edges.steps(step, 1, 1, ENDS, 0, 0);
                    EDGES.fault("op " + what + " at step " + step, Edges.add(x, 0, MAKE, 1, AFFINE, what, 0, 1), 2, SESSION);
                }
            }
        }
        Lineartide once = Edges.steps(PICKS, 1, 1, ENDS, 0, 0);
        EDGES.fault("once too often", Edges.add(once, 0, PICK, 0, 0, PICK, 0, 0), 2, SESSION);
    }

    private static void orderOfFaults() {
        EDGES.says("Runs", "if an op (which is not done then) breaks a rule, the first one of these:");
        EDGES.fault("EMPTY ahead of FULL", Edges.ops(MAKE, 0, LINEAR, MOVE, 0, 1), 2, EMPTY);
        EDGES.fault("EMPTY ahead of SESSION", Edges.ops(SEND, 0, 0), 1, EMPTY);
        EDGES.fault("EMPTY ahead of KIND", Edges.add(Edges.steps(GIVES, 1, 0), 0, SEND, 0, 0), 1, EMPTY);
        int[] lapsed = {MAKE, 0, MANY, SHARE, 1, 0, WRITE, 0, 0, MAKE, 2, LINEAR};
        EDGES.fault("KIND ahead of BORROWED", Edges.ops(Edges.all(lapsed, Edges.lot(FREE, 1, 0))), 5, KIND);
        EDGES.fault("KIND ahead of FULL", Edges.ops(Edges.all(lapsed, Edges.lot(LEND, 2, 1))), 5, KIND);
        EDGES.fault("KIND ahead of SESSION", Edges.ops(Edges.all(lapsed, Edges.lot(SEND, 0, 1))), 5, KIND);
        EDGES.fault("BORROWED ahead of FULL", Edges.ops(Edges.all(lapsed, Edges.lot(SHARE, 2, 1))), 5, BORROWED);
        EDGES.fault("FULL ahead of SESSION", Edges.ops(Edges.all(lapsed, Edges.lot(TAKE, 0, 2))), 5, FULL);
        Lineartide x = Edges.steps(GETS, MANY, 1, ENDS, 0, 0);
        Edges.add(x, 0, MAKE, 0, LINEAR, TAKE, 0, 0);
        Edges.add(x, 1, READ, 0, 0);
        x.begin();
        EDGES.go(x, 1, 1);
        EDGES.go(x, 0, 2);
        EDGES.is("FULL ahead of CANCELLED", x, 0, DEAD, FULL, 1);
    }

    private static void cancelled() {
        EDGES.says("Runs", "of TAKE and WAIT then: CANCELLED: nothing waits (so the other side is DEAD, as otherwise it would wait);");
        for (int messages = 0; messages <= 2; messages++) {
            for (int picks = 0; picks < 2; picks++) {
                Lineartide x = Edges.tell(new Lineartide(), 0, picks == 1 ? OFFERS : GETS, picks == 1 ? 1 : MANY, 1,
                    picks == 1 ? OFFERS : GETS, picks == 1 ? 2 : MANY, 2, picks == 1 ? OFFERS : GETS, picks == 1 ? 2 : MANY, 2, ENDS, 0, 0);
                x.channel(0, 0, 1);
                Edges.add(x, 1, MAKE, 0, MANY);
                for (int i = 0; i < 3; i++) {
                    x.op(0, picks == 1 ? WAIT : TAKE, 0, picks == 1 ? i + 1 : 0);
                }
                for (int i = 0; i < messages; i++) {
                    x.op(1, picks == 1 ? PICK : SEND, 0, 0);
                }
                x.op(1, READ, 5, 0);
                x.begin();
                EDGES.due("it waits for one that is RUNNING", false, x.go(0, false));
                EDGES.go(x, 1, 2 + messages);
                EDGES.is("the other one", x, 1, DEAD, EMPTY, 1 + messages);
                EDGES.due("what it sent waits", messages, x.waiting(0, 0));
                EDGES.go(x, 0, messages);
                EDGES.is("is taken", x, 0, RUNNING, 0, messages);
                EDGES.go(x, 0, 1);
                EDGES.is("then it is cancelled", x, 0, DEAD, CANCELLED, messages);
            }
        }
        Lineartide wrong = Edges.steps(GETS, MANY, 1, ENDS, 0, 0);
        Edges.add(wrong, 0, WAIT, 0, 0);
        Edges.add(wrong, 1, READ, 0, 0);
        wrong.begin();
        EDGES.go(wrong, 1, 1);
        EDGES.go(wrong, 0, 1);
        EDGES.is("SESSION comes ahead of it", wrong, 0, DEAD, SESSION, 0);
        EDGES.says("Runs", "SESSION: what waits is no value for TAKE, of another kind than that of the step, or no way for WAIT.");
        // as both sides keep to one protocol, what waits always fits: at each step it is taken without a fault
        for (int kind = MANY; kind <= LINEAR; kind++) {
            Lineartide x = Edges.steps(PICKS, 1, 1, GIVES, kind, 2, PICKS, 3, 3, ENDS, 0, 0);
            Edges.add(x, 0, MAKE, 0, kind, PICK, 0, 1, SEND, 0, 0, PICK, 0, 0);
            Edges.add(x, 1, WAIT, 0, 1, TAKE, 0, 1, WAIT, 0, 3, FREE, 1, 0);
            x.begin();
            EDGES.go(x, 0, 3);
            EDGES.go(x, 1, 2);
            EDGES.go(x, 0, 2);
            EDGES.go(x, 1, 3);
            EDGES.is("of the kind " + kind, x, 1, DONE, 0, 4);
        }
    }

    private static void ends() {
        EDGES.says("Runs", "At its end: KEPT or OPEN likewise.");
        for (int stops = 0; stops < 2; stops++) {
            for (int kind = MANY; kind <= LINEAR; kind++) {
                for (int step = GIVES; step <= ENDS; step++) {
                    Lineartide x = Edges.steps(ENDS, 0, 0);
                    Edges.tell(x, 1, step, 0, 0);
                    x.channel(1, 1, 0);
                    Edges.add(x, 0, MAKE, 5, kind, STOP, 0, 0);
                    if (stops == 0) {
                        x.unop(0);
                    }
                    x.begin();
                    EDGES.go(x, 0, 2);
                    int fault = kind == LINEAR ? KEPT : step != ENDS ? OPEN : 0;
                    EDGES.is("with the kind " + kind + " at step " + step, x, 0, fault == 0 ? DONE : DEAD, fault, 1);
                }
            }
        }
        for (int v = 0; v < 6; v++) {
            EDGES.fault("LINEAR in the variable " + v, Edges.ops(MAKE, v, LINEAR), 2, KEPT);
        }
        EDGES.fault("a share of LINEAR may be kept", Edges.ops(MAKE, 0, LINEAR, SHARE, 1, 0, FREE, 0, 0), 4, 0);
        Lineartide others = Edges.tell(new Lineartide(), 0, GIVES, 0, 0);
        others.channel(0, 1, 2);
        EDGES.fault("a channel of others may be open", others, 1, 0);
    }

    // ---- shares and loans

    /** What is done to what 0 owns, while 1 shares it or has it lent; 2 is free, 3 owns a value that is MANY. */
    private static final int[][] DEEDS = {{READ, 0, 0}, {WRITE, 0, 0}, {FREE, 0, 0}, {MOVE, 2, 0}, {SHARE, 2, 0}, {LEND, 2, 0},
        {SEND, 0, 0}, {MAKE, 0, MANY}, {MOVE, 0, 3}, {SHARE, 0, 3}, {LEND, 0, 3}, {MOVE, 0, 0}, {READ, 3, 0}, {WRITE, 3, 0}};

    private static Lineartide borrowing(int what, int kind, int... later) {
        Lineartide x = Edges.steps(GIVES, kind, 0);
        return Edges.add(x, 0, Edges.all(Edges.lot(MAKE, 3, MANY, MAKE, 0, kind, what, 1, 0), later));
    }

    private static void sharesEnd() {
        for (int kind = MANY; kind <= LINEAR; kind++) {
            for (int[] deed : DEEDS) {
                boolean over = deed[0] == MAKE || deed[1] == 0 && deed[2] == 3 && deed[0] != READ && deed[0] != WRITE;
                boolean copies = (deed[0] == MOVE || deed[0] == SEND) && kind == MANY;
                boolean others = deed[1] == 3 || deed[0] == MOVE && deed[1] == deed[2] && deed[1] == 0;
                if (over && kind == LINEAR) {
                    continue;
                }
                EDGES.says("Runs", "What is shared holds no more, if its value went, or if it was changed, moved, sent (but as a copy) or lent since it was shared;");
                boolean kept = !over && (others || copies || deed[0] == READ || deed[0] == SHARE);
                String told = "op " + deed[0] + " of " + deed[1] + ", " + deed[2] + " by the kind " + kind;
                EDGES.fault(told, Edges.add(borrowing(SHARE, kind, deed), 0, READ, 1, 0), 5, kept ? 0 : BORROWED);
                EDGES.says("Runs", "What is lent holds no more, if its value went, or was used in any way since by another one than that variable: read, changed, moved, copied, sent, shared from its owner, lent.");
                EDGES.fault(told, Edges.add(borrowing(LEND, kind, deed), 0, READ, 1, 0), 5, others ? 0 : BORROWED);
            }
            EDGES.says("Runs", "What is shared holds no more, if its value went, or if it was changed, moved, sent (but as a copy) or lent since it was shared;");
            usedByItself(kind);
        }
        ofEachVariable();
    }

    private static void ofEachVariable() {
        for (int owner = 0; owner < 6; owner++) {
            for (int name = 0; name < 6; name++) {
                if (owner != name) {
                    int third = free(owner, name);
                    int[] shares = {MAKE, owner, AFFINE, SHARE, name, owner};
                    int[] loan = {MAKE, owner, AFFINE, LEND, name, owner};
                    EDGES.fault("changed", Edges.ops(Edges.all(shares, Edges.lot(WRITE, owner, 0, READ, name, 0))), 4, BORROWED);
                    EDGES.fault("freed", Edges.ops(Edges.all(shares, Edges.lot(FREE, owner, 0, READ, name, 0))), 4, BORROWED);
                    EDGES.fault("read", Edges.ops(Edges.all(shares, Edges.lot(READ, owner, 0, READ, name, 0))), 4, 0);
                    EDGES.fault("shared anew", Edges.ops(Edges.all(shares, Edges.lot(WRITE, owner, 0, SHARE, name, owner, READ, name, 0))), 5, 0);
                    EDGES.fault("moved over the owner", Edges.ops(Edges.all(shares, Edges.lot(MOVE, owner, name, READ, owner, 0))), 4, BORROWED);
                    EDGES.fault("shared over the owner", Edges.ops(Edges.all(shares, Edges.lot(SHARE, owner, name, READ, owner, 0))), 4, BORROWED);
                    EDGES.fault("a loan, read by its owner", Edges.ops(Edges.all(loan, Edges.lot(READ, owner, 0, READ, name, 0))), 4, BORROWED);
                    EDGES.fault("a loan, lent again", Edges.ops(Edges.all(loan, Edges.lot(LEND, third, owner, READ, name, 0))), 4, BORROWED);
                    EDGES.fault("the second loan", Edges.ops(Edges.all(loan, Edges.lot(LEND, third, owner, WRITE, third, 0))), 4, 0);
                    EDGES.fault("a loan, moved on", Edges.ops(Edges.all(loan, Edges.lot(MOVE, third, name, WRITE, third, 0))), 4, 0);
                    EDGES.fault("lent anew", Edges.ops(Edges.all(loan, Edges.lot(READ, owner, 0, LEND, name, owner, READ, name, 0))), 5, 0);
                }
            }
        }
    }

    private static void usedByItself(int kind) {
        EDGES.fault("changed ahead of it", Edges.ops(MAKE, 0, kind, WRITE, 0, 0, SHARE, 1, 0, READ, 1, 0), 4, 0);
        EDGES.fault("lent ahead of it", Edges.ops(MAKE, 0, kind, LEND, 2, 0, SHARE, 1, 0, READ, 1, 0), 4, 0);
        EDGES.fault("shared anew", Edges.ops(MAKE, 0, kind, SHARE, 1, 0, WRITE, 0, 0, SHARE, 1, 0, READ, 1, 0), 5, 0);
        EDGES.fault("a share's share holds no more, too", Edges.ops(MAKE, 0, kind, SHARE, 1, 0, SHARE, 2, 1, WRITE, 0, 0, READ, 2, 0), 5, BORROWED);
        EDGES.fault("SHARE of what holds no more", Edges.ops(MAKE, 0, kind, SHARE, 1, 0, WRITE, 0, 0, SHARE, 2, 1), 4, BORROWED);
        EDGES.fault("a loan changed through itself", Edges.ops(MAKE, 0, kind, LEND, 1, 0, WRITE, 1, 0, READ, 1, 0, WRITE, 1, 0), 5, 0);
        EDGES.fault("a loan moved on", Edges.ops(MAKE, 0, kind, LEND, 1, 0, READ, 1, 0, MOVE, 2, 1, WRITE, 2, 0), 5, 0);
        EDGES.fault("lent anew", Edges.ops(MAKE, 0, kind, LEND, 1, 0, READ, 0, 0, LEND, 1, 0, WRITE, 1, 0), 5, 0);
        EDGES.fault("lent to two, the first", Edges.ops(MAKE, 0, kind, LEND, 1, 0, LEND, 2, 0, READ, 1, 0), 4, BORROWED);
        EDGES.fault("lent to two, the second", Edges.ops(MAKE, 0, kind, LEND, 1, 0, LEND, 2, 0, READ, 2, 0), 4, 0);
        EDGES.fault("SHARE over the loan itself", Edges.ops(MAKE, 0, kind, LEND, 1, 0, SHARE, 1, 0, READ, 1, 0), 4, 0);
        EDGES.says("Runs", "what is moved while it is shared keeps that time.");
        EDGES.fault("a moved share", Edges.ops(MAKE, 0, kind, SHARE, 1, 0, MOVE, 2, 1, READ, 2, 0), 4, 0);
        EDGES.fault("a moved share, and the first one", Edges.ops(MAKE, 0, kind, SHARE, 1, 0, MOVE, 2, 1, READ, 1, 0), 4, 0);
        EDGES.fault("a moved share, changed since", Edges.ops(MAKE, 0, kind, SHARE, 1, 0, MOVE, 2, 1, WRITE, 0, 0, READ, 2, 0), 5, BORROWED);
        EDGES.fault("and the first one", Edges.ops(MAKE, 0, kind, SHARE, 1, 0, MOVE, 2, 1, WRITE, 0, 0, READ, 1, 0), 5, BORROWED);
        if (kind != LINEAR) {
            EDGES.fault("a share moved over its owner", Edges.ops(MAKE, 0, kind, SHARE, 1, 0, MOVE, 0, 1, READ, 0, 0), 4, BORROWED);
            EDGES.fault("a loan moved over its owner", Edges.ops(MAKE, 0, kind, LEND, 1, 0, MOVE, 0, 1, READ, 0, 0), 4, BORROWED);
        }
        EDGES.says("Runs", "BORROWED: what is shared or lent and used holds no more;");
        for (int[] use : new int[][] {{READ, 1, 0}, {MOVE, 2, 1}, {MOVE, 1, 1}, {SHARE, 2, 1}}) {
            EDGES.fault("op " + use[0] + " of a share", Edges.ops(Edges.all(Edges.lot(MAKE, 0, kind, SHARE, 1, 0, WRITE, 0, 0), use)), 4, BORROWED);
        }
        for (int[] use : new int[][] {{READ, 1, 0}, {WRITE, 1, 0}, {MOVE, 2, 1}, {MOVE, 1, 1}}) {
            EDGES.fault("op " + use[0] + " of a loan", Edges.ops(Edges.all(Edges.lot(MAKE, 0, kind, LEND, 1, 0, READ, 0, 0), use)), 4, BORROWED);
        }
        EDGES.fault("what is not used may hold no more", Edges.ops(MAKE, 0, kind, LEND, 1, 0, READ, 0, 0, MAKE, 1, MANY), 4, 0);
        EDGES.says("Runs", "What is shared holds no more, if its value went, or if it was changed, moved, sent (but as a copy) or lent since it was shared;");
    }

    // ---- who is dropped

    private static void deaths() {
        EDGES.says("Runs", "When a process is DEAD all values that it owns are dropped, the one that its variable got latest first, then those that wait for it, by channels, in the order in which they came.");
        Lineartide x = Edges.tell(new Lineartide(), 0, GIVES, MANY, 1, GIVES, LINEAR, 2, ENDS, 0, 0);
        Edges.tell(x, 1, GETS, AFFINE, 1, PICKS, 2, 2, ENDS, 0, 0);
        Edges.tell(x, 2, OFFERS, 1, 1, GETS, LINEAR, 2, ENDS, 0, 0);
        x.channel(2, 1, 2);
        x.channel(0, 0, 1);
        x.channel(1, 1, 0);
        Edges.add(x, 0, MAKE, 0, MANY, MAKE, 1, LINEAR, MAKE, 2, AFFINE, SEND, 1, 0, SEND, 2, 2, SEND, 1, 1);
        Edges.add(x, 1, MAKE, 5, LINEAR, MAKE, 0, AFFINE, MAKE, 3, MANY, MOVE, 4, 0, SHARE, 1, 5, LEND, 2, 3, READ, 0, 0);
        Edges.add(x, 2, PICK, 0, 0, MAKE, 0, LINEAR, SEND, 0, 0);
        x.begin();
        EDGES.go(x, 0, 6);
        EDGES.go(x, 1, 6);
        EDGES.go(x, 2, 3);
        EDGES.drops("ahead of it", x);
        for (int c = 0; c < 3; c++) {
            EDGES.due("waiting at " + c, c == 2 ? 1 : 2, x.waiting(1, c));
        }
        EDGES.go(x, 1, 1);
        // of process 0: 0 MANY, 1 LINEAR, 2 AFFINE, 3 the copy sent; of process 1: 4 LINEAR, 5 AFFINE, 6 MANY; of process 2: 7
        EDGES.drops("by it", x, 5, 6, 4, 7, 3, 1, 2);
        for (int c = 0; c < 3; c++) {
            EDGES.due("nothing waits at " + c, 0, x.waiting(1, c));
        }
        EDGES.due("who sent it lives", RUNNING, x.state(0));
        EDGES.due("and owns what it has", 0, x.value(0, 0));
        EDGES.drops("shares and loans are not owned", done(5, MAKE, 0, MANY, SHARE, 1, 0, LEND, 2, 0, LEND, 3, 0, READ, 5, 0), 0);
        EDGES.drops("who owns nothing", done(1, READ, 0, 0));
    }

    private static void latestFirst() {
        EDGES.says("Runs", "the one that its variable got latest first, then those that wait for it,");
        for (int first = 0; first < 6; first++) {
            for (int second = 0; second < 6; second++) {
                if (first != second) {
                    EDGES.drops("by variables in any order", done(3, MAKE, first, LINEAR, MAKE, second, AFFINE, READ, free(first, second), 0), 1, 0);
                }
            }
        }
        EDGES.drops("a MOVE gets", done(4, MAKE, 0, AFFINE, MAKE, 1, AFFINE, MOVE, 2, 0, READ, 5, 0), 0, 1);
        EDGES.drops("a copy is got", done(4, MAKE, 0, MANY, MAKE, 1, AFFINE, MOVE, 2, 0, READ, 5, 0), 2, 1, 0);
        EDGES.drops("to and fro", done(5, MAKE, 0, AFFINE, MAKE, 1, AFFINE, MOVE, 2, 0, MOVE, 0, 2, READ, 5, 0), 0, 1);
        EDGES.drops("not by WRITE", done(4, MAKE, 0, AFFINE, MAKE, 1, AFFINE, WRITE, 0, 0, READ, 5, 0), 1, 0);
        EDGES.drops("all six", done(7, MAKE, 3, 0, MAKE, 5, 1, MAKE, 0, 2, MAKE, 2, 0, MAKE, 4, 1, MAKE, 1, 2, MOVE, 1, 5), 5, 4, 3, 2, 1, 0);
    }

    private static int free(int one, int other) {
        int free = 0;
        while (free == one || free == other) {
            free++;
        }
        return free;
    }

    private static void endings() {
        EDGES.says("Runs", "When it ends it is DONE, and those that are AFFINE are dropped likewise.");
        EDGES.drops("AFFINE, the latest first", endsAffine(MAKE, 1, AFFINE, MAKE, 0, MANY, MAKE, 3, AFFINE, MAKE, 2, AFFINE), 3, 2, 0);
        EDGES.drops("at STOP", done(3, MAKE, 0, AFFINE, MAKE, 1, AFFINE, STOP, 0, 0), 1, 0);
        EDGES.drops("MANY is not", endsAffine(MAKE, 0, MANY, MOVE, 1, 0));
        EDGES.drops("nor what is shared or lent", endsAffine(MAKE, 0, AFFINE, SHARE, 1, 0, LEND, 2, 0), 0);
        EDGES.says("Runs", "A value that goes by FREE is dropped.");
        for (int kind = MANY; kind <= LINEAR; kind++) {
            EDGES.drops("of the kind " + kind, endsAffine(MAKE, 0, kind, FREE, 0, 0), 0);
        }
    }

    private static void sentToTheDead() {
        EDGES.says("Runs", "What is sent to one that is DEAD is dropped at once.");
        for (int kind = MANY; kind <= LINEAR; kind++) {
            Lineartide x = Edges.steps(GIVES, kind, 1, GIVES, kind, 2, GIVES, kind, 3, PICKS, 4, 4, ENDS, 0, 0);
            Edges.add(x, 0, MAKE, 0, kind, SEND, 0, 0, MAKE, 0, kind, SEND, 0, 0, MAKE, 0, kind, SEND, 0, 0, PICK, 0, 1);
            Edges.add(x, 1, READ, 0, 0);
            x.begin();
            EDGES.go(x, 1, 1);
            int drops = 0;
            for (int i = 0; i < 3; i++) {
                EDGES.go(x, 0, 1);
                EDGES.due("not yet", drops, x.drops());
                EDGES.go(x, 0, 1);
                drops++;
                EDGES.due("at once", drops, x.drops());
                EDGES.due("the copy, or the value", x.made() - 1, x.dropped(drops - 1));
                EDGES.due("nothing waits", 0, x.waiting(1, 0));
            }
            EDGES.go(x, 0, 1);
            EDGES.due("a way is no value", drops, x.drops());
            EDGES.due("nor does it wait", 0, x.waiting(1, 0));
            EDGES.go(x, 0, 1);
            EDGES.is("the sender", x, 0, DONE, 0, 7);
            EDGES.drops("in all", x, kind == MANY ? Edges.lot(1, 3, 5) : Edges.lot(0, 1, 2));
        }
        Lineartide y = Edges.steps(ENDS, 0, 0);
        y.begin();
        EDGES.go(y, 1, 1);
        EDGES.due("one that is DONE is not DEAD", DONE, y.state(1));
    }

    private static void waits() {
        EDGES.says("Runs", "A process waits for a message, or for room, only if the other side is not DEAD, and if its channel is at a step that the op needs;");
        for (int picks = 0; picks < 2; picks++) {
            Lineartide x = Edges.tell(new Lineartide(), 0, picks == 1 ? PICKS : GIVES, picks, 1, picks == 1 ? PICKS : GIVES, 2 * picks, 2,
                picks == 1 ? PICKS : GIVES, 3 * picks, 3, ENDS, 0, 0);
            x.channel(0, 0, 1);
            Edges.add(x, 0, MAKE, 0, MANY, MAKE, 0, MANY);
            for (int i = 0; i < 4; i++) {
                x.op(0, picks == 1 ? PICK : SEND, 0, 0);
            }
            x.op(1, picks == 1 ? WAIT : TAKE, 0, 1);
            x.op(1, READ, 5, 0);
            x.begin();
            EDGES.go(x, 0, 4);
            EDGES.due("two wait", 2, x.waiting(1, 0));
            EDGES.due("no room for a third", false, x.go(0, false));
            EDGES.is("it stays", x, 0, RUNNING, 0, 4);
            EDGES.go(x, 1, 1);
            EDGES.due("one waits", 1, x.waiting(1, 0));
            EDGES.go(x, 0, 1);
            EDGES.due("two wait again", 2, x.waiting(1, 0));
            EDGES.go(x, 0, 1);
            EDGES.is("at ENDS it does not wait for room", x, 0, DEAD, SESSION, 5);
        }
        Lineartide other = Edges.steps(GETS, MANY, 1, ENDS, 0, 0);
        Edges.add(other, 0, WAIT, 0, 0);
        other.begin();
        EDGES.go(other, 0, 1);
        EDGES.is("at another step it does not wait for a way", other, 0, DEAD, SESSION, 0);
        EDGES.says("Runs", "it waits ahead of all its rules then.");
        Lineartide y = Edges.steps(GIVES, MANY, 1, GIVES, MANY, 2, GIVES, MANY, 3, ENDS, 0, 0);
        Edges.add(y, 0, MAKE, 0, MANY, SEND, 0, 0, SEND, 0, 0, SEND, 0, 5);
        Edges.add(y, 1, TAKE, 0, 0, TAKE, 0, 0);
        y.begin();
        EDGES.go(y, 0, 3);
        EDGES.due("though it has nothing to send", false, y.go(0, false));
        EDGES.go(y, 1, 1);
        EDGES.go(y, 0, 1);
        EDGES.is("then it breaks the rule", y, 0, DEAD, EMPTY, 3);
        Lineartide z = Edges.steps(GETS, MANY, 1, ENDS, 0, 0);
        Edges.add(z, 0, MAKE, 0, LINEAR, TAKE, 0, 0);
        Edges.add(z, 1, MAKE, 0, MANY, SEND, 0, 0);
        z.begin();
        EDGES.go(z, 0, 1);
        EDGES.due("though its target is full", false, z.go(0, false));
        EDGES.go(z, 1, 2);
        EDGES.go(z, 0, 1);
        EDGES.is("then it breaks the rule", z, 0, DEAD, FULL, 1);
        EDGES.due("what waited for it is dropped", 2, z.drops());
        Lineartide w = Edges.steps(GIVES, MANY, 1, GIVES, MANY, 2, GIVES, MANY, 3, ENDS, 0, 0);
        Edges.add(w, 0, MAKE, 0, MANY, SEND, 0, 0, SEND, 0, 0, SEND, 0, 0);
        Edges.add(w, 1, READ, 0, 0);
        w.begin();
        EDGES.go(w, 0, 3);
        EDGES.due("no room", false, w.go(0, false));
        EDGES.go(w, 1, 1);
        EDGES.go(w, 0, 2);
        EDGES.is("no room is needed at the DEAD", w, 0, DONE, 0, 4);
    }

    private static void numbers() {
        EDGES.says("Runs", "Values are numbered from 0 in a run as they are made, copies as well.");
        Lineartide x = Edges.steps(GIVES, MANY, 0);
        Edges.add(x, 0, MAKE, 0, MANY, MOVE, 1, 0, SEND, 0, 1, MAKE, 2, AFFINE);
        Edges.add(x, 1, TAKE, 0, 0, MOVE, 5, 0);
        Edges.add(x, 2, MAKE, 0, LINEAR);
        for (int round = 0; round < 2; round++) {
            x.begin();
            EDGES.go(x, 2, 1);
            EDGES.go(x, 0, 3);
            EDGES.go(x, 1, 2);
            EDGES.go(x, 0, 1);
            values("left", x, 0, 1, 2, 5);
            values("right", x, 1, 3, NONE, NONE, NONE, NONE, 4);
            values("third", x, 2, 0);
            EDGES.due("made", 6, x.made());
        }
        EDGES.says("Runs", "The first 200 that are dropped are told in their order.");
        Lineartide y = Edges.ops(MAKE, 0, AFFINE, JUMP, 0, 0);
        y.begin();
        EDGES.go(y, 1, 1);
        EDGES.go(y, 2, 1);
        for (int i = 0; i < 2; i++) {
            EDGES.due("200 ops", 200, y.run(i, 200));
        }
        EDGES.due("199 are dropped", 199, y.drops());
        EDGES.due("two ops", 2, y.run(5, 2));
        EDGES.due("200 are dropped", 200, y.drops());
        EDGES.due("the last one", 199, y.dropped(199));
        EDGES.due("two ops", 2, y.run(5, 2));
        EDGES.due("201 are dropped, and 200 told", 200, y.drops());
        EDGES.due("the last one is the same", 199, y.dropped(199));
        EDGES.due("the first one as well", 0, y.dropped(0));
        EDGES.bounds("none behind it", () -> y.dropped(200));
        EDGES.due("more are made", 202, y.made());
        y.begin();
        EDGES.go(y, 0, 3);
        EDGES.drops("in a new run they are told again", y, 0);
    }

    // ---- the promises 13 to 20

    private static void begins() {
        EDGES.says("Promise 13", "Begins a run.");
        Lineartide x = new Lineartide();
        EDGES.state("none yet", () -> x.state(0));
        x.begin();
        EDGES.due("begun", RUNNING, x.state(0));
        x.begin();
        EDGES.due("and again", RUNNING, x.state(0));
        x.op(0, MAKE, 0, 0);
        EDGES.state("over", () -> x.state(0));
        x.begin();
        EDGES.go(x, 0, 1);
        EDGES.due("a run of what is told by now", 0, x.value(0, 0));
    }

    private static void goes() {
        EDGES.says("Promise 14", "Lets a process do its next op, or end.");
        Lineartide x = begun(MAKE, 0, MANY);
        EDGES.go(x, 0, 1);
        EDGES.is("an op", x, 0, RUNNING, 0, 1);
        EDGES.go(x, 0, 1);
        EDGES.is("its end", x, 0, DONE, 0, 1);
        EDGES.says("Promise 14", "`coin`: by MAYBE: whether it goes on with the op b");
        for (int what : new int[] {MAYBE, JUMP, MAKE}) {
            Lineartide y = Edges.ops(what, 0, 2, FREE, 0, 0, STOP, 0, 0);
            y.begin();
            y.go(0, true);
            EDGES.due("with the coin, op " + what, what == MAKE ? 1 : 2, y.place(0));
            y.begin();
            y.go(0, false);
            EDGES.due("without, op " + what, what == JUMP ? 2 : 1, y.place(0));
        }
        EDGES.says("Promise 14", "Returns whether it did, also if it is DEAD by that; false if it waits.");
        EDGES.due("DEAD", true, begun(READ, 0, 0).go(0, true));
        Lineartide z = Edges.add(Edges.steps(GETS, 0, 0), 0, TAKE, 0, 0);
        z.begin();
        for (int i = 0; i < 5; i++) {
            EDGES.due("waits", false, z.go(0, i % 2 == 0));
            EDGES.is("and nothing is changed", z, 0, RUNNING, 0, 0);
        }
    }

    private static void goesNoMore() {
        EDGES.says("Promise 14", "Throws `IllegalStateException` if there is no run, or it is not RUNNING");
        EDGES.state("no run", () -> new Lineartide().go(0, true) ? 1 : 0);
        Lineartide x = begun(READ, 0, 0);
        EDGES.go(x, 0, 1);
        EDGES.go(x, 1, 1);
        EDGES.state("DEAD", () -> x.go(0, false) ? 1 : 0);
        EDGES.state("DONE", () -> x.go(1, false) ? 1 : 0);
        EDGES.go(x, 2, 1);
        EDGES.state("all are", () -> x.go(2, true) ? 1 : 0);
        x.op(0, STOP, 0, 0);
        EDGES.state("over", () -> x.go(2, true) ? 1 : 0);
    }

    /** The processes of which each does a MAYBE that comes to itself or to the next one, for ever. */
    private static Lineartide tossing(int processes) {
        Lineartide x = new Lineartide();
        for (int p = 0; p < 3; p++) {
            if (p < processes) {
                Edges.add(x, p, MAYBE, 0, 0, JUMP, 0, 0);
            }
        }
        x.begin();
        for (int p = processes; p < 3; p++) {
            EDGES.go(x, p, 1);
        }
        return x;
    }

    /** By the last ones the first state is 0, -1, 1, the lowest, the highest, 65535 and 65536. */
    private static final int[] SEEDS = {0, 1, -1, 2, 12345, 65535, 65536, 1 << 30, Integer.MAX_VALUE, Integer.MIN_VALUE, 987654321,
        -59267453, 230538014, -349072920, 2088216195, -1916945634, -115164386, -404969853};

    private static void drawn() {
        EDGES.says("Promise 15", "Each time a state, at first the seed, becomes itself times 1103515245, and 12345 more, with overflow; shifted to the right by 16 without keeping the sign, divided by how many processes are RUNNING and do not wait, the rest tells which of these, by their numbers, does its next op; the coin is true if the state is below 0.");
        java.math.BigInteger factor = java.math.BigInteger.valueOf(1103515245);
        for (int processes = 1; processes <= 3; processes++) {
            for (int seed : SEEDS) {
                Lineartide x = tossing(processes);
                int[] place = new int[3];
                java.math.BigInteger state = java.math.BigInteger.valueOf(seed);
                for (int i = 0; i < 100; i++) {
                    state = java.math.BigInteger.valueOf(state.multiply(factor).add(java.math.BigInteger.valueOf(12345)).intValue());
                    int high = state.mod(java.math.BigInteger.ONE.shiftLeft(32)).shiftRight(16).intValue();
                    place[high % processes] = place[high % processes] == 0 && state.signum() >= 0 ? 1 : 0;
                    if (i == 0 || i % 10 == 9) {
                        Lineartide y = tossing(processes);
                        EDGES.due("so many ops", i + 1, y.run(seed, i + 1));
                        for (int p = 0; p < 3; p++) {
                            EDGES.due("seed " + seed + ", " + (i + 1) + " ops, process " + p, place[p], y.place(p));
                        }
                    }
                }
            }
        }
        EDGES.says("Promise 15", "Lets processes do ops as they are drawn.");
        // of three processes the second waits: drawn are the first and the third, by their numbers
        for (int seed = -20; seed < 20; seed++) {
            Lineartide x = Edges.steps(GETS, 0, 0);
            x.channel(0, 1, 0);
            Edges.add(x, 1, TAKE, 1, 0);
            x.op(0, JUMP, 0, 0);
            x.op(0, MAKE, 0, 0);
            x.op(2, MAKE, 0, 0);
            x.begin();
            int state = seed * 1103515245 + 12345;
            EDGES.due("one op", 1, x.run(seed, 1));
            EDGES.due("by the third", (state >>> 16) % 2, x.made());
            EDGES.due("not by the second", 0, x.place(1));
        }
    }

    private static void stepsOfRuns() {
        EDGES.says("Promise 15", "`steps`: 1 to 200");
        for (int steps : new int[] {1, 2, 199, 200}) {
            EDGES.due(steps + " steps", steps, tossing(3).run(steps, steps));
        }
        EDGES.says("Promise 15", "`seed`: the state");
        for (int seed : Edges.FAR) {
            EDGES.due("any seed " + seed, 1, tossing(1).run(seed, 1));
        }
        EDGES.says("Promise 15", "Throws `IllegalArgumentException` if steps is out of range");
        for (int steps : new int[] {0, -1, 201, 256, Integer.MIN_VALUE, Integer.MAX_VALUE}) {
            EDGES.argument(steps + " steps", () -> tossing(1).run(1, steps));
            EDGES.argument(steps + " steps without a run", () -> new Lineartide().run(1, steps));
        }
        EDGES.says("Promise 15", "Throws `IllegalStateException` if there is no run");
        EDGES.state("no run", () -> new Lineartide().run(1, 200));
        Lineartide over = tossing(1);
        over.op(2, STOP, 0, 0);
        EDGES.state("a run that is over", () -> over.run(1, 1));
        EDGES.says("Promise 15", "Returns how many ops were done, or ends, or processes became DEAD by; fewer if none was left.");
        for (int steps = 1; steps <= 8; steps++) {
            // two ops and an end, an op that breaks a rule, and an end
            Lineartide x = Edges.ops(MAKE, 0, 0, READ, 0, 0);
            x.op(1, READ, 0, 0);
            x.begin();
            EDGES.due("of 5", Math.min(5, steps), x.run(steps, steps));
            EDGES.due("and the rest", 5 - Math.min(5, steps), x.run(9, 200));
            EDGES.due("and none", 0, x.run(9, 200));
        }
        Lineartide waits = Edges.add(Edges.steps(GETS, 0, 0), 0, TAKE, 0, 0);
        Edges.add(waits, 1, MAKE, 0, 0, JUMP, 0, 1);
        waits.begin();
        EDGES.due("one waits, one goes on for ever", 200, waits.run(1, 200));
        Lineartide stuck = Edges.add(Edges.steps(GETS, 0, 0), 0, TAKE, 0, 0);
        stuck.channel(0, 1, 0);
        Edges.add(stuck, 1, TAKE, 1, 0);
        stuck.begin();
        EDGES.due("two wait, one ends", 1, stuck.run(1, 200));
        EDGES.due("two wait", 0, stuck.run(1, 200));
    }

    private static void states() {
        EDGES.says("Promise 16", "Returns what a process is.");
        Lineartide x = begun(READ, 0, 0);
        EDGES.go(x, 0, 1);
        EDGES.go(x, 1, 1);
        EDGES.says("Promise 16", "Returns RUNNING to DEAD.");
        EDGES.due("DEAD", 2, x.state(0));
        EDGES.due("DONE", 1, x.state(1));
        EDGES.due("RUNNING", 0, x.state(2));
        EDGES.says("Promise 17", "Returns the fault of a process.");
        EDGES.due("of 0", EMPTY, x.fault(0));
        EDGES.says("Promise 17", "Returns the fault; 0 without.");
        EDGES.due("of one that is DONE", 0, x.fault(1));
        EDGES.due("of one that is RUNNING", 0, x.fault(2));
        EDGES.says("Promise 18", "Returns the op at which a process is.");
        Lineartide y = begun(MAKE, 0, 0, JUMP, 0, 3, STOP, 0, 0, MAKE, 0, 0);
        for (int place : new int[] {0, 1, 3, 4, 4}) {
            EDGES.due("an op", place, y.place(0));
            if (y.state(0) == RUNNING) {
                y.go(0, false);
            }
        }
        EDGES.says("Promise 18", "Returns the op, at most how many it has; where it ended, or became DEAD (a STOP, too).");
        for (int count = 1; count <= 16; count++) {
            placed(count, STOP, 0, DONE, 0, count - 1);
            placed(count, READ, 5, DEAD, EMPTY, count - 1);
            placed(count, MAKE, 5, DONE, 0, count);
            placed(count, MAYBE, 0, DONE, 0, count);
            if (count < 16) {
                placed(count, JUMP, 0, DONE, 0, count);
            }
            if (count > 1) {
                Lineartide kept = Edges.ops(MAKE, 5, LINEAR);
                makes(kept, count - 2);
                kept.op(0, STOP, 0, 0);
                kept.begin();
                EDGES.go(kept, 0, count);
                EDGES.is("KEPT at a STOP", kept, 0, DEAD, KEPT, count - 1);
                kept.unop(0);
                kept.begin();
                EDGES.go(kept, 0, count);
                EDGES.is("KEPT at the end", kept, 0, DEAD, KEPT, count - 1);
            }
        }
    }

    private static void makes(Lineartide x, int count) {
        for (int i = 0; i < count; i++) {
            x.op(0, MAKE, 0, MANY);
        }
    }

    /** Of so many ops the last one is as told; with b it goes on as far as it can. */
    private static void placed(int count, int last, int a, int state, int fault, int place) {
        Lineartide x = new Lineartide();
        makes(x, count - 1);
        x.op(0, last, a, last == MAKE ? MANY : 15);
        x.begin();
        EDGES.go(x, 0, place == count ? count + 1 : count);
        EDGES.is("op " + last + " as the last one of " + count, x, 0, state, fault, place);
    }

    private static void valuesAsked() {
        EDGES.says("Promise 19", "Returns which value a variable has, in whichever way.");
        Lineartide x = done(5, MAKE, 0, LINEAR, MAKE, 1, AFFINE, SHARE, 2, 0, LEND, 3, 1, MAKE, 5, MANY);
        EDGES.says("Promise 19", "Returns its number; NONE without.");
        values("owned, shared and lent", x, 0, 0, 1, 0, 1, NONE, 2);
        values("without", x, 1, NONE, NONE, NONE, NONE, NONE, NONE);
        values("a share of what went", done(3, MAKE, 0, AFFINE, SHARE, 1, 0, FREE, 0, 0), 0, NONE, 0);
        EDGES.says("Promise 19", "`name`: 0 to 5");
        for (int v = 0; v < 6; v++) {
            EDGES.due("name " + v, 0, done(1, MAKE, v, MANY).value(0, v));
        }
        EDGES.says("Promise 19", "Throws `IndexOutOfBoundsException` if there is no such process or name");
        for (int none : Edges.beside(6)) {
            EDGES.bounds("name " + none, () -> x.value(0, none));
            EDGES.bounds("name " + none + " without a run", () -> new Lineartide().value(0, none));
        }
    }

    private static void waitingAsked() {
        EDGES.says("Promise 20", "Returns how many messages wait for a process.");
        Lineartide x = Edges.tell(new Lineartide(), 0, PICKS, 0, 0);
        x.channel(0, 0, 1);
        x.channel(0, 1, 0);
        Edges.add(x, 0, PICK, 0, 0, JUMP, 0, 0);
        Edges.add(x, 1, PICK, 1, 1, WAIT, 0, 0, JUMP, 0, 0);
        x.begin();
        EDGES.says("Promise 20", "Returns how many.");
        int[] due = {1, 1, 2, 2};
        for (int i = 0; i < due.length; i++) {
            EDGES.go(x, 0, 1);
            EDGES.due("behind " + (i + 1) + " ops", due[i], x.waiting(1, 0));
            EDGES.due("for the one that picks", 0, x.waiting(0, 0));
            EDGES.due("for the third", 0, x.waiting(2, 0));
        }
        EDGES.go(x, 1, 1);
        EDGES.due("the other way round", 1, x.waiting(0, 1));
        EDGES.due("not on its own side", 0, x.waiting(1, 1));
        EDGES.go(x, 1, 1);
        EDGES.due("one is taken", 1, x.waiting(1, 0));
        EDGES.says("Promise 20", "`channel`: 0 to 2");
        for (int p = 0; p < 3; p++) {
            EDGES.due("a channel that is not there", 0, x.waiting(p, 2));
        }
        EDGES.says("Promise 20", "Throws `IndexOutOfBoundsException` if there is no such process, or channel is out of range");
        for (int none : Edges.beside(3)) {
            EDGES.bounds("channel " + none, () -> x.waiting(0, none));
            EDGES.bounds("channel " + none + " without a run", () -> new Lineartide().waiting(0, none));
        }
    }

    private static int answer(Lineartide x, int promise, int process) {
        switch (promise) {
            case 14:
                return x.go(process, false) ? 1 : 0;
            case 16:
                return x.state(process);
            case 17:
                return x.fault(process);
            case 18:
                return x.place(process);
            case 19:
                return x.value(process, 0);
            default:
                return x.waiting(process, 0);
        }
    }

    private static void processesOfAll() {
        for (int promise : new int[] {14, 16, 17, 18, 19, 20}) {
            int asked = promise;
            EDGES.says("Promise " + promise, "`process`: 0 to 2");
            for (int p = 0; p < 3; p++) {
                Lineartide x = Edges.tell(new Lineartide(), 0, PICKS, 0, 1, ENDS, 0, 0);
                x.channel(0, (p + 1) % 3, p);
                Edges.add(x, p, MAKE, 0, 0, WAIT, 0, 2);
                Edges.add(x, (p + 1) % 3, PICK, 0, 0, PICK, 0, 0);
                x.begin();
                EDGES.go(x, (p + 1) % 3, 2);
                EDGES.go(x, p, 1);
                int[] due = {1, 0, RUNNING, 0, 1, 0, 2};
                EDGES.due("process " + p, due[promise - 14], answer(x, promise, p));
            }
            EDGES.says("Promise " + promise, promise == 19 ? "Throws `IndexOutOfBoundsException` if there is no such process or name"
                : promise == 20 ? "Throws `IndexOutOfBoundsException` if there is no such process, or channel is out of range"
                : "Throws `IndexOutOfBoundsException` if there is no such process");
            for (int none : Edges.beside(3)) {
                EDGES.bounds("process " + none, () -> answer(begun(), asked, none));
                EDGES.bounds("process " + none + " without a run", () -> answer(new Lineartide(), asked, none));
            }
            EDGES.says("Promise " + promise, promise == 14 ? "Throws `IllegalStateException` if there is no run, or it is not RUNNING"
                : "Throws `IllegalStateException` if there is no run");
            EDGES.state("none was begun", () -> answer(new Lineartide(), asked, 0));
            for (int over = 0; over < 3; over++) {
                Lineartide x = Edges.tell(Edges.ops(STOP, 0, 0), 0, ENDS, 0, 0);
                x.begin();
                if (over == 0) {
                    x.op(2, STOP, 0, 0);
                } else if (over == 1) {
                    x.unop(0);
                } else {
                    x.channel(0, 0, 1);
                }
                for (int p = 0; p < 3; p++) {
                    int q = p;
                    EDGES.state("a run that is over, " + over, () -> answer(x, asked, q));
                }
                x.begin();
                EDGES.due("begun again", promise == 14 ? 1 : promise == 19 ? NONE : 0, answer(x, promise, 1));
            }
        }
    }

    private static void dropsAsked() {
        EDGES.says("Promise 21", "Returns how many values were made in the latest run; 0 if there was none.");
        Lineartide x = Edges.ops(MAKE, 0, AFFINE, FREE, 0, 0, MAKE, 0, MANY, MOVE, 1, 0, MAKE, 1, AFFINE, MAKE, 1, AFFINE);
        EDGES.due("no run", 0, x.made());
        x.begin();
        int[] made = {0, 1, 1, 2, 3, 4, 5, 5};
        int[] drops = {0, 0, 1, 1, 1, 1, 2, 3};
        for (int i = 0; i < made.length; i++) {
            EDGES.says("Promise 21", "Returns how many values were made in the latest run; 0 if there was none.");
            EDGES.due("behind " + i + " ops", made[i], x.made());
            EDGES.says("Promise 22", "Returns how many dropped values are told of that.");
            EDGES.due("behind " + i + " ops", drops[i], x.drops());
            if (i < made.length - 1) {
                x.go(0, false);
            }
        }
        EDGES.due("a run that is not begun", 0, new Lineartide().drops());
        EDGES.says("Promise 23", "`place`: 0 for the first one");
        EDGES.due("the first one", 0, x.dropped(0));
        EDGES.says("Promise 23", "Returns a value that was dropped.");
        EDGES.due("the last one", 4, x.dropped(2));
        EDGES.says("Promise 23", "Returns its number.");
        EDGES.due("the second one", 3, x.dropped(1));
        EDGES.says("Promise 23", "Throws `IndexOutOfBoundsException` if there is no such place");
        for (int none : Edges.beside(3)) {
            EDGES.bounds("place " + none, () -> x.dropped(none));
            EDGES.bounds("place " + none + " without a run", () -> new Lineartide().dropped(none));
        }
        EDGES.bounds("place 0 without a run", () -> new Lineartide().dropped(0));
        x.op(0, STOP, 0, 0);
        EDGES.says("Promise 21", "Returns how many values were made in the latest run; 0 if there was none.");
        EDGES.due("a run that is over is the latest", 5, x.made());
        EDGES.says("Promise 22", "Returns how many dropped values are told of that.");
        EDGES.drops("of one that is over", x, 0, 3, 4);
        x.begin();
        EDGES.due("none in a new one", 0, x.made());
        EDGES.drops("none in a new one", x);
    }

    static void all() {
        opsDone();
        movedToItself();
        targetsGo();
        sent();
        waysGone();
        beginning();
        emptyFaults();
        kindFaults();
        fullFaults();
        sessionFaults();
        orderOfFaults();
        cancelled();
        ends();
        sharesEnd();
        deaths();
        latestFirst();
        endings();
        sentToTheDead();
        waits();
        numbers();
        begins();
        goes();
        goesNoMore();
        drawn();
        stepsOfRuns();
        states();
        valuesAsked();
        waitingAsked();
        processesOfAll();
        dropsAsked();
    }
}
