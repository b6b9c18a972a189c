/**
 * The boundary cases of what is found ahead: "What is found" and the promises 6 to 11, and what "Processes" says about
 * single ops, as far as it is found ahead. Each test says by its first line for which words of the document it stands.
 */
final class FoundEdges implements Words {
    private static final Edges EDGES = new Edges();

    /** All that a variable can be; 11 and 21 are of the variable 1, 12 and 22 of the variable 2. */
    private static final int[] STATES = {0, 1, 2, 3, 4, 5, 11, 12, 21, 22};

    /** The ops ahead of those of part(). */
    private static final int[] OWNERS = {MAKE, 1, MANY, MAKE, 2, MANY};

    /** Ops, the first one numbered so, by which the variable 0 becomes this from nothing; behind OWNERS. */
    private static int[] part(int state, int from) {
        switch (state) {
            case 0:
                return Edges.lot();
            case 4:
                return Edges.lot(MAYBE, 0, from + 2, MAKE, 0, AFFINE);
            case 5:
                return Edges.lot(MAYBE, 0, from + 2, MAKE, 0, LINEAR);
            default:
                return state < 4 ? Edges.lot(MAKE, 0, state - 1) : Edges.lot(state < 20 ? SHARE : LEND, 0, state % 10);
        }
    }

    private static int[] until(int state) {
        return Edges.all(OWNERS, part(state, 2));
    }

    private static Lineartide behind(int state, int... ops) {
        return Edges.ops(Edges.all(until(state), ops));
    }

    private static boolean isShared(int state) {
        return state / 10 == 1;
    }

    private static boolean isLent(int state) {
        return state / 10 == 2;
    }

    private static boolean isOwner(int state) {
        return state >= 1 && state <= 3;
    }

    // ---- what variables and channels are

    private static void beginning() {
        EDGES.says("What is found", "At the beginning all variables are nothing.");
        for (int p = 0; p < 3; p++) {
            for (int v = 0; v < 6; v++) {
                EDGES.due("without ops", 0, new Lineartide().holds(p, 0, v));
                EDGES.due("ahead of the first op", 0, Edges.add(new Lineartide(), p, MAKE, v, LINEAR).holds(p, 0, v));
                EDGES.due("by a loop it is what comes together", 4, Edges.add(new Lineartide(), p, MAKE, v, AFFINE, JUMP, 0, 0).holds(p, 0, v));
            }
        }
    }

    private static void eachState() {
        EDGES.says("What is found", "Ahead of each op, and of the end, of a process that can be come to, each variable is: 0 nothing; 1, 2 or 3 the owner of a value that is MANY, AFFINE or LINEAR; 4 perhaps the owner of one that is AFFINE; 5 unlike; 10 and a variable, together: it shares what that owns; 20 and a variable, together: it has lent what that owns");
        for (int state : STATES) {
            int[] ops = until(state);
            EDGES.due("at the end", state, Edges.ops(ops).holds(0, ops.length / 3, 0));
            EDGES.due("ahead of an op", state, behind(state, READ, 5, 0).holds(0, ops.length / 3, 0));
        }
        for (int owner = 0; owner < 6; owner++) {
            for (int name = 0; name < 6; name++) {
                if (owner != name) {
                    EDGES.due("shares " + owner, 10 + owner, Edges.ops(MAKE, owner, AFFINE, SHARE, name, owner).holds(0, 2, name));
                    EDGES.due("has lent " + owner, 20 + owner, Edges.ops(MAKE, owner, AFFINE, LEND, name, owner).holds(0, 2, name));
                }
            }
        }
        EDGES.says("Processes", "Values are MANY, AFFINE or LINEAR. A variable owns a value, or it shares one, or has one lent, or nothing.");
        for (int kind = MANY; kind <= LINEAR; kind++) {
            EDGES.due("owns", 1 + kind, Edges.ops(MAKE, 5, kind).holds(0, 1, 5));
        }
    }

    private static void staysSo() {
        EDGES.says("What is found", "(these stay so, whatever becomes of that variable).");
        int[][] becomes = {{FREE, 0, 0}, {MOVE, 2, 0}, {SEND, 0, 0}, {MAKE, 0, MANY}, {MAKE, 0, LINEAR}, {WRITE, 0, 0}, {LEND, 2, 0},
            {MOVE, 0, 3}, {SHARE, 0, 4}, {LEND, 0, 4}, {TAKE, 0, 0}};
        for (int[] op : becomes) {
            for (int what = SHARE; what <= LEND; what++) {
                Lineartide x = Edges.ops(MAKE, 4, MANY, MAKE, 0, AFFINE, what, 1, 0, op[0], op[1], op[2]);
                EDGES.due("op " + op[0] + " behind op " + what, what == SHARE ? 10 : 20, x.holds(0, 4, 1));
            }
        }
        EDGES.due("it shares what it owned itself", 10, Edges.ops(MAKE, 0, MANY, SHARE, 1, 0, MOVE, 0, 1).holds(0, 3, 0));
    }

    private static void stepsOfChannels() {
        EDGES.says("What is found", "Each channel of the process is at a step, or unlike.");
        Lineartide x = Edges.steps(GIVES, MANY, 1, GIVES, MANY, 2, ENDS, 0, 0);
        Edges.add(x, 0, MAKE, 0, MANY, SEND, 0, 0, MAYBE, 0, 4, SEND, 0, 0);
        int[] steps = {0, 0, 1, 1, -2};
        for (int i = 0; i < steps.length; i++) {
            EDGES.due("ahead of op " + i, steps[i], x.at(0, i, 0));
        }
        EDGES.says("What is found", "Of unlike steps of a channel comes unlike.");
        Edges.add(x, 0, SEND, 0, 0, TAKE, 0, 1, STOP, 0, 0);
        for (int i = 4; i <= 6; i++) {
            EDGES.due("unlike stays unlike, ahead of op " + i, -2, x.at(0, i, 0));
        }
        Lineartide same = Edges.steps(PICKS, 1, 1, ENDS, 0, 0);
        Edges.add(same, 0, MAYBE, 0, 3, PICK, 0, 0, JUMP, 0, 4, PICK, 0, 1);
        EDGES.due("the same step on both ways stays", 1, same.at(0, 4, 0));
        EDGES.fine("and is right", same);
        Lineartide loop = Edges.steps(PICKS, 0, 1, ENDS, 0, 0);
        Edges.add(loop, 0, PICK, 0, 0, MAYBE, 0, 0, PICK, 0, 1);
        EDGES.fine("back at its beginning", loop);
        EDGES.due("so it stays", 0, loop.at(0, 0, 0));
        Lineartide apart = Edges.steps(PICKS, 1, 0, ENDS, 0, 0);
        Edges.add(apart, 0, PICK, 0, 0, MAYBE, 0, 0);
        EDGES.due("unlike at the beginning, by a loop", -2, apart.at(0, 0, 0));
        EDGES.error("which is an error", apart, 0, 0, UNLIKE);
    }

    // ---- what ops change

    private static void freed() {
        EDGES.says("What is found", "what FREE frees is nothing,");
        for (int state : STATES) {
            int end = until(state).length / 3 + 1;
            EDGES.due("FREE of " + state, 0, behind(state, FREE, 0, 0).holds(0, end, 0));
        }
    }

    private static void takenAway() {
        EDGES.says("What is found", "and what MOVE and SEND take away too (what is 2, 3, 4, 5, or lent);");
        for (int state : STATES) {
            int end = until(state).length / 3 + 1;
            boolean leaves = state >= 2 && state <= 5 || isLent(state);
            EDGES.due("MOVE of " + state, leaves ? 0 : state, behind(state, MOVE, 3, 0).holds(0, end, 0));
            EDGES.due("MOVE of " + state + " to a target", state, behind(state, MOVE, 3, 0).holds(0, end, 3));
            EDGES.due("MOVE of " + state + " over what is owned", state, behind(state, MOVE, 1, 0).holds(0, end, 1));
            EDGES.due("SEND of " + state, leaves ? 0 : state, behind(state, SEND, 2, 0).holds(0, end, 0));
            EDGES.due("READ of " + state, state, behind(state, READ, 0, 0).holds(0, end, 0));
            EDGES.due("WRITE of " + state, state, behind(state, WRITE, 0, 0).holds(0, end, 0));
        }
        EDGES.says("Processes", "MOVE: the variable a gets what the variable b has, which has nothing then; but a value that is MANY is copied, and what is shared stays shared by both.");
        Lineartide x = Edges.ops(MAKE, 0, MANY, SHARE, 1, 0, MOVE, 2, 0, MOVE, 3, 1, LEND, 4, 0, MOVE, 5, 4);
        int[] all = {1, 10, 1, 10, 0, 20};
        for (int v = 0; v < 6; v++) {
            EDGES.due("the variable " + v, all[v], x.holds(0, 6, v));
        }
    }

    private static void movedToItself() {
        EDGES.says("Processes", "If both are the same nothing is done (the variable is used, and the target, all the same by what is found ahead;");
        for (int state : STATES) {
            int op = until(state).length / 3;
            Lineartide x = behind(state, MOVE, 0, 0);
            EDGES.due("stays " + state, state, x.holds(0, op + 1, 0));
            int error = state == 0 || state == 4 ? EMPTY : state == 5 ? UNLIKE : 0;
            EDGES.due("error of " + state, error, x.check(0) == op ? x.error(0) : 0);
            EDGES.due("it is used ahead", 1, x.lives(0, op) & 1);
        }
        EDGES.due("as the target it lives no more, but for its use", 1, Edges.ops(MOVE, 0, 0, READ, 0, 0).lives(0, 0));
        EDGES.borrowed("by its use of AFFINE a share is in the way", Edges.ops(MAKE, 0, AFFINE, SHARE, 1, 0, MOVE, 0, 0, READ, 1, 0), 2, 1);
        EDGES.borrowed("by its use of LINEAR, too", Edges.ops(MAKE, 0, LINEAR, SHARE, 1, 0, MOVE, 0, 0, READ, 1, 0), 2, 1);
        EDGES.fine("not by its use of MANY", Edges.ops(MAKE, 0, MANY, SHARE, 1, 0, MOVE, 0, 0, READ, 1, 0));
        EDGES.borrowed("but a loan is", Edges.ops(MAKE, 0, MANY, LEND, 1, 0, MOVE, 0, 0, READ, 1, 0), 2, 1);
        EDGES.fine("neither by what is shared", Edges.ops(MAKE, 0, MANY, SHARE, 1, 0, SHARE, 2, 1, MOVE, 1, 1, READ, 2, 0, READ, 1, 0));
        EDGES.fine("nor by what is lent", Edges.ops(MAKE, 0, MANY, LEND, 1, 0, MOVE, 1, 1, WRITE, 1, 0));
    }

    private static void errorsChangeNothing() {
        EDGES.says("What is found", "Ops change that as told, whether there is an error or not:");
        EDGES.due("behind FULL", 1, Edges.ops(MAKE, 0, LINEAR, MAKE, 0, MANY).holds(0, 2, 0));
        EDGES.due("behind EMPTY", 0, Edges.ops(MAKE, 1, AFFINE, MOVE, 1, 0).holds(0, 2, 1));
        EDGES.due("behind KIND", 0, Edges.ops(MAKE, 0, MANY, SHARE, 1, 0, FREE, 1, 0).holds(0, 3, 1));
        EDGES.due("behind BORROWED", 0, Edges.ops(MAKE, 0, AFFINE, SHARE, 1, 0, FREE, 0, 0, READ, 1, 0).holds(0, 3, 0));
        EDGES.due("behind SESSION", 1, Edges.ops(TAKE, 2, 5).holds(0, 1, 5));
        Lineartide x = Edges.steps(GIVES, LINEAR, 1, ENDS, 0, 0);
        Edges.add(x, 0, MAKE, 0, AFFINE, SEND, 0, 0);
        EDGES.due("SEND of another kind takes it away", 0, x.holds(0, 2, 0));
        EDGES.due("and the channel goes on", 1, x.at(0, 2, 0));
    }

    private static void shared() {
        EDGES.says("What is found", "SHARE from one that is shared makes a share of the same variable;");
        for (int state : STATES) {
            int end = until(state).length / 3 + 1;
            int share = isShared(state) ? state : isOwner(state) ? 10 : 0;
            if (isShared(state)) {
                EDGES.due("SHARE of " + state, state, behind(state, SHARE, 3, 0).holds(0, end, 3));
                EDGES.due("and of that", state, behind(state, SHARE, 3, 0, SHARE, 4, 3).holds(0, end + 1, 4));
            }
            EDGES.due("the shared one stays " + state, state, behind(state, SHARE, 3, 0).holds(0, end, 0));
            EDGES.due("SHARE of " + state + " over an owner", share, behind(state, SHARE, 2, 0).holds(0, end, 2));
        }
        EDGES.says("What is found", "SHARE and LEND from one that is otherwise no owner (1, 2, 3) make nothing;");
        for (int state : STATES) {
            int end = until(state).length / 3 + 1;
            int share = isShared(state) ? state : isOwner(state) ? 10 : 0;
            EDGES.due("SHARE of " + state, share, behind(state, SHARE, 3, 0).holds(0, end, 3));
            EDGES.due("LEND of " + state, isOwner(state) ? 20 : 0, behind(state, LEND, 3, 0).holds(0, end, 3));
            EDGES.due("LEND of " + state + " over an owner", isOwner(state) ? 20 : 0, behind(state, LEND, 2, 0).holds(0, end, 2));
            EDGES.due("the lent one stays " + state, state, behind(state, LEND, 3, 0).holds(0, end, 0));
        }
        EDGES.says("Processes", "SHARE: the variable a shares the value that b owns, or shares. LEND: the variable a has the value lent that b owns.");
        EDGES.fine("a share of a share", Edges.ops(MAKE, 0, MANY, SHARE, 1, 0, SHARE, 2, 1, READ, 2, 0));
        EDGES.error("a loan of a loan", Edges.ops(MAKE, 0, MANY, LEND, 1, 0, LEND, 2, 1), 0, 2, KIND);
    }

    private static void taken() {
        EDGES.says("What is found", "TAKE makes an owner by the kind of the step, or of one that is MANY, if it is not at a step that GETS, and unlike, if the channel is unlike;");
        for (int side = 0; side < 2; side++) {
            int gets = side == 0 ? GETS : GIVES;
            for (int kind = MANY; kind <= LINEAR; kind++) {
                for (int step = GIVES; step <= ENDS; step++) {
                    Lineartide x = Edges.steps(step, kind, 1, ENDS, 0, 0, ENDS, 0, 0);
                    Edges.add(x, side, TAKE, 0, 5);
                    EDGES.due("at step " + step + " of kind " + kind, step == gets ? 1 + kind : 1, x.holds(side, 1, 5));
                    EDGES.due("the channel", step == gets ? 1 : 0, x.at(side, 1, 0));
                }
            }
        }
        Lineartide x = Edges.steps(GETS, LINEAR, 1, GETS, LINEAR, 2, ENDS, 0, 0);
        Edges.add(x, 0, MAYBE, 0, 3, TAKE, 0, 0, FREE, 0, 0, TAKE, 0, 0, TAKE, 0, 1);
        EDGES.due("at a channel that is unlike", 5, x.holds(0, 4, 0));
        EDGES.due("and again", 5, x.holds(0, 5, 1));
        EDGES.due("over a channel that is not there", 1, Edges.ops(TAKE, 2, 0).holds(0, 1, 0));
        Lineartide others = Edges.steps(GETS, LINEAR, 1, ENDS, 0, 0);
        EDGES.due("over a channel of others", 1, Edges.add(others, 2, TAKE, 0, 0).holds(2, 1, 0));
    }

    private static void staysThere() {
        EDGES.says("What is found", "a channel that is not at a step that the op needs stays there.");
        int[] other = {GETS, GIVES, OFFERS, PICKS, ENDS};
        for (int side = 0; side < 2; side++) {
            for (int step = GIVES; step <= ENDS; step++) {
                for (int what = SEND; what <= WAIT; what++) {
                    int asked = side == 0 ? step : other[step];
                    Lineartide x = Edges.steps(step, 1, 1, ENDS, 0, 0);
                    Edges.add(x, side, MAKE, 1, AFFINE, what, 0, 1, STOP, 0, 0);
                    // WAIT goes on with itself by the way 1, and so does not stay the same where it suits
                    int behind = asked == what - SEND ? 1 : 0;
                    EDGES.due("op " + what + " at step " + step, what == WAIT && behind == 1 ? -2 : behind, x.at(side, 2, 0));
                }
            }
        }
        EDGES.says("Processes", "SEND needs a step that GIVES, TAKE one that GETS, PICK one that PICKS, WAIT one that OFFERS; the process is at the next step of the channel then, by the way that was picked or came.");
        Lineartide x = Edges.steps(PICKS, 1, 2, GIVES, AFFINE, 4, GETS, LINEAR, 3, OFFERS, 4, 4, ENDS, 0, 0);
        Edges.add(x, 0, MAYBE, 0, 5, PICK, 0, 0, MAKE, 0, AFFINE, SEND, 0, 0, STOP, 0, 0, PICK, 0, 1, TAKE, 0, 0, FREE, 0, 0, WAIT, 0, 9);
        int[] left = {0, 0, 1, 1, 4, 0, 2, 3, 3, 4};
        for (int i = 0; i < left.length; i++) {
            EDGES.due("left, op " + i, left[i], x.at(0, i, 0));
        }
        EDGES.fine("left", x);
        Edges.add(x, 1, WAIT, 0, 3, TAKE, 0, 0, STOP, 0, 0, MAKE, 1, LINEAR, SEND, 0, 1, PICK, 0, 0);
        int[] right = {0, 1, 4, 2, 2, 3, 4};
        for (int i = 0; i < right.length; i++) {
            EDGES.due("right, op " + i, right[i], x.at(1, i, 0));
        }
        EDGES.error("right", x, 1, NONE, 0);
    }

    private static void targetsAndUsed() {
        int[] targets = {MAKE, MOVE, SHARE, LEND};
        int[] used = {MOVE, SHARE, LEND, SEND};
        EDGES.says("Processes", "The target of an op is the variable that gets something: a of MAKE, MOVE, SHARE and LEND, b of TAKE;");
        for (int what = MAKE; what <= STOP; what++) {
            int op = what;
            boolean isA = java.util.Arrays.stream(targets).anyMatch(t -> t == op);
            Lineartide x = Edges.ops(what, 1, what == PICK ? 1 : 2, READ, 1, 0, READ, 2, 0);
            if (what != JUMP && what != STOP) {
                EDGES.due("a of op " + what, isA, (x.lives(0, 0) & 2) == 0);
                EDGES.due("b of op " + what, what == TAKE, (x.lives(0, 0) & 4) == 0);
            }
        }
        EDGES.says("Processes", "the used one is b of MOVE, SHARE, LEND and SEND, a of FREE, READ and WRITE.");
        for (int what = MAKE; what <= STOP; what++) {
            int op = what;
            boolean isB = java.util.Arrays.stream(used).anyMatch(t -> t == op);
            Lineartide x = Edges.ops(what, 1, what == PICK ? 1 : 2);
            int lives = isB ? 4 : what == FREE || what == READ || what == WRITE ? 2 : 0;
            EDGES.due("op " + what, lives, x.lives(0, 0));
        }
    }

    // ---- where ways come together

    private static int together(int one, int other) {
        int[] first = part(one, 3);
        int second = 4 + first.length / 3;
        int[] last = part(other, second);
        int end = second + last.length / 3;
        int[] ops = Edges.all(OWNERS, Edges.lot(MAYBE, 0, second), first, Edges.lot(JUMP, 0, end), last);
        return Edges.ops(ops).holds(0, end, 0);
    }

    private static void comeTogether() {
        for (int one : STATES) {
            for (int other : STATES) {
                boolean mild = (one == 0 || one == 1 || one > 10) && (other == 0 || other == 1 || other > 10);
                boolean five = one == 3 || other == 3 || one == 5 || other == 5;
                int want;
                if (one == other) {
                    EDGES.says("What is found", "Where ways come together: what is the same on both stays;");
                    want = one;
                } else if (five) {
                    EDGES.says("What is found", "of 3 and another one, and of 5 and any, comes 5;");
                    want = 5;
                } else if (mild) {
                    EDGES.says("What is found", "of two unlike ones of nothing, 1, shared and lent comes nothing;");
                    want = 0;
                } else {
                    EDGES.says("What is found", "of all others comes 4.");
                    want = 4;
                }
                EDGES.due(one + " and " + other, want, together(one, other));
            }
        }
    }

    private static void untilNothingChanges() {
        EDGES.says("What is found", "All this goes on until nothing changes.");
        for (int kind = AFFINE; kind <= LINEAR; kind++) {
            int want = kind == AFFINE ? 4 : 5;
            Lineartide x = Edges.ops(MAKE, 0, kind, MOVE, 5, 4, MOVE, 4, 3, MOVE, 3, 2, MOVE, 2, 1, MOVE, 1, 0, MAYBE, 0, 1);
            for (int v = 0; v < 6; v++) {
                EDGES.due("round and round, the variable " + v, want, x.holds(0, 1, v));
            }
        }
        // each op but the first comes from one with a higher number
        Lineartide down = Edges.ops(JUMP, 0, 15, READ, 5, 0);
        for (int i = 2; i < 16; i++) {
            down.op(0, JUMP, 0, i - 1);
        }
        EDGES.error("come to from behind", down, 0, 1, EMPTY);
        for (int i = 0; i < 16; i++) {
            EDGES.due("op " + i + " is come to", 0, down.holds(0, i, 0));
            EDGES.due("ahead of op " + i + " the variable 5 lives", 32, down.lives(0, i));
        }
        EDGES.due("the end is not", NONE, down.holds(0, 16, 0));
        Lineartide steps = new Lineartide();
        for (int i = 0; i < 8; i++) {
            steps.step(0, PICKS, (i + 1) % 8, 0);
        }
        steps.channel(0, 0, 1);
        Edges.add(steps, 0, PICK, 0, 0, PICK, 0, 0, JUMP, 0, 0);
        EDGES.due("the steps 0, 2, 4, 6", -2, steps.at(0, 0, 0));
        EDGES.due("and behind them", -2, steps.at(0, 1, 0));
    }

    // ---- what lives

    private static void living() {
        EDGES.says("What is found", "A variable lives ahead of an op, if on some way from there it is used ahead of being the target of an op");
        for (int v = 0; v < 6; v++) {
            int other = (v + 1) % 6;
            EDGES.due("used at once", 1 << v, Edges.ops(READ, v, 0).lives(0, 0));
            EDGES.due("used later", 1 << v, Edges.ops(MAKE, other, 0, READ, v, 0).lives(0, 0));
            EDGES.due("first the target", 0, Edges.ops(MAKE, v, 0, READ, v, 0).lives(0, 0));
            EDGES.due("first the target of TAKE", 0, Edges.ops(TAKE, 0, v, READ, v, 0).lives(0, 0));
            EDGES.due("on one way of MAYBE", 1 << v, Edges.ops(MAYBE, 0, 2, STOP, 0, 0, READ, v, 0).lives(0, 0));
            EDGES.due("on the other one", 1 << v, Edges.ops(MAYBE, 0, 2, READ, v, 0).lives(0, 0));
            EDGES.due("on a way of WAIT", 1 << v, Edges.ops(WAIT, 0, 2, STOP, 0, 0, READ, v, 0).lives(0, 0));
            EDGES.due("not behind STOP", 0, Edges.ops(STOP, 0, 0, READ, v, 0).lives(0, 0));
            EDGES.due("not passed by", 0, Edges.ops(JUMP, 0, 2, READ, v, 0).lives(0, 0));
            EDGES.due("by a loop", 1 << v, Edges.ops(READ, v, 0, MAKE, other, 0, JUMP, 0, 0).lives(0, 1));
            EDGES.due("a loop that makes it anew", 0, Edges.ops(READ, v, 0, MAKE, v, 0, JUMP, 0, 0).lives(0, 1));
            EDGES.due("never used", 0, Edges.ops(MAKE, v, 0, JUMP, 0, 0).lives(0, 0));
            EDGES.due("as far as the 16th op", 1 << v, lastReads(v).lives(0, 0));
        }
        EDGES.says("What is found", "(what an op uses, it uses ahead of its target).");
        EDGES.due("MOVE to itself", 1, Edges.ops(MOVE, 0, 0).lives(0, 0));
        EDGES.due("SHARE of what it makes over", 2, Edges.ops(SHARE, 0, 1, READ, 0, 0).lives(0, 0));
    }

    private static Lineartide lastReads(int name) {
        Lineartide x = new Lineartide();
        for (int i = 0; i < 15; i++) {
            x.op(0, MAKE, (name + 1) % 6, 0);
        }
        x.op(0, READ, name, 0);
        return x;
    }

    // ---- errors

    /** The error of an op, if it is the first one of the process. */
    private static int errorAt(Lineartide x, int op) {
        return x.check(0) == op ? x.error(0) : 0;
    }

    private static void whoHasErrors() {
        EDGES.says("What is found", "An op that can be come to, or the end, has an error, the first one of these:");
        EDGES.fine("passed by", Edges.ops(JUMP, 0, 2, READ, 0, 0));
        EDGES.fine("behind STOP", Edges.ops(STOP, 0, 0, READ, 0, 0));
        EDGES.error("come to by MAYBE", Edges.ops(MAYBE, 0, 2, STOP, 0, 0, READ, 0, 0), 0, 2, EMPTY);
        EDGES.error("come to by WAIT", Edges.ops(WAIT, 0, 2, STOP, 0, 0, READ, 0, 0), 0, 0, SESSION);
        EDGES.error("the end", Edges.ops(MAKE, 0, LINEAR), 0, 1, KEPT);
        EDGES.fine("an end that can't be come to", Edges.ops(MAKE, 0, LINEAR, JUMP, 0, 1));
        EDGES.fine("nor with a channel that is open", Edges.add(Edges.steps(GIVES, 0, 0), 0, JUMP, 0, 0));
        EDGES.error("UNLIKE ahead of EMPTY", Edges.ops(MAYBE, 0, 2, MAKE, 0, LINEAR, READ, 3, 0), 0, 2, UNLIKE);
        EDGES.error("UNLIKE ahead of KEPT", Edges.ops(MAKE, 1, LINEAR, MAYBE, 0, 3, MAKE, 0, LINEAR), 0, 3, UNLIKE);
        EDGES.error("EMPTY ahead of FULL", Edges.ops(MAKE, 0, LINEAR, MOVE, 0, 1), 0, 1, EMPTY);
        EDGES.error("EMPTY ahead of SESSION", Edges.ops(SEND, 0, 1), 0, 0, EMPTY);
        EDGES.error("EMPTY ahead of KIND", Edges.add(Edges.steps(GIVES, 1, 1, ENDS, 0, 0), 0, SEND, 0, 1), 0, 0, EMPTY);
        EDGES.error("KIND ahead of FULL", Edges.ops(MAKE, 0, MANY, MAKE, 2, LINEAR, SHARE, 1, 0, LEND, 2, 1), 0, 3, KIND);
        EDGES.error("KIND ahead of BORROWED", Edges.ops(MAKE, 0, MANY, SHARE, 1, 0, LEND, 0, 1), 0, 2, KIND);
        EDGES.error("KIND ahead of SESSION", Edges.ops(MAKE, 0, MANY, SHARE, 1, 0, SEND, 0, 1), 0, 2, KIND);
        EDGES.error("FULL ahead of BORROWED", Edges.ops(MAKE, 0, LINEAR, SHARE, 1, 0, MAKE, 0, 0, READ, 1, 0), 0, 2, FULL);
        EDGES.error("FULL ahead of SESSION", Edges.ops(MAKE, 0, LINEAR, TAKE, 0, 0), 0, 1, FULL);
        EDGES.error("BORROWED ahead of SESSION", Edges.ops(MAKE, 0, AFFINE, SHARE, 1, 0, SEND, 0, 0, READ, 1, 0), 0, 2, BORROWED);
        EDGES.error("KEPT ahead of OPEN", Edges.add(Edges.steps(GIVES, 0, 0), 0, MAKE, 0, LINEAR), 0, 1, KEPT);
    }

    private static void unlike() {
        EDGES.says("What is found", "UNLIKE: a variable or channel is unlike ahead of it.");
        int[][] lasts = {{STOP, 0, 0}, {JUMP, 0, 3}, {MAYBE, 0, 3}, {MAKE, 1, 0}, {FREE, 0, 0}, {PICK, 0, 0}, {READ, 5, 0}, {}};
        for (int[] last : lasts) {
            Lineartide x = Edges.ops(Edges.all(Edges.lot(MAYBE, 0, 2, MAKE, 5, LINEAR), last));
            EDGES.error("a variable", x, 0, 2, UNLIKE);
            for (int side = 0; side < 2; side++) {
                Lineartide y = Edges.tell(new Lineartide(), 0, PICKS, 1, 1, PICKS, 2, 2, ENDS, 0, 0);
                y.channel(0, side, 1 - side);
                Edges.add(y, 0, Edges.all(Edges.lot(MAYBE, 0, 2, side == 0 ? PICK : WAIT, 0, side == 0 ? 1 : 2), last));
                EDGES.error("a channel", y, 0, 2, UNLIKE);
            }
        }
        Lineartide third = Edges.tell(new Lineartide(), 0, PICKS, 1, 1, ENDS, 0, 0);
        for (int i = 0; i < 3; i++) {
            third.channel(0, 0, 1);
        }
        Edges.add(third, 0, MAYBE, 0, 2, PICK, 2, 1, STOP, 0, 0);
        EDGES.error("the third channel", third, 0, 2, UNLIKE);
        EDGES.error("4 is not unlike", Edges.ops(MAYBE, 0, 2, MAKE, 5, AFFINE, READ, 5, 0), 0, 2, EMPTY);
    }

    private static void endings() {
        EDGES.says("What is found", "For STOP and the end: KEPT: a variable is 3;");
        for (int v = 0; v < 6; v++) {
            for (int kind = MANY; kind <= LINEAR; kind++) {
                EDGES.error("at the end", Edges.ops(MAKE, v, kind), 0, kind == LINEAR ? 1 : NONE, kind == LINEAR ? KEPT : 0);
                EDGES.error("at STOP", Edges.ops(MAKE, v, kind, STOP, 0, 0), 0, kind == LINEAR ? 1 : NONE, kind == LINEAR ? KEPT : 0);
            }
        }
        for (int state : STATES) {
            int op = until(state).length / 3;
            int want = state == 3 ? KEPT : state == 5 ? UNLIKE : 0;
            EDGES.due("the end with " + state, want, errorAt(behind(state), op));
            EDGES.due("STOP with " + state, want, errorAt(behind(state, STOP, 0, 0), op));
        }
        EDGES.says("What is found", "OPEN: a channel of the process is not at a step that ENDS.");
        for (int channel = 0; channel < 3; channel++) {
            for (int side = 0; side < 2; side++) {
                for (int step = GIVES; step <= ENDS; step++) {
                    Lineartide x = Edges.tell(new Lineartide(), 0, ENDS, 0, 0);
                    Edges.tell(x, 1, step, 0, 0);
                    for (int i = 0; i < 3; i++) {
                        x.channel(i == channel ? 1 : 0, i == channel ? 2 * side : 0, i == channel ? 2 - 2 * side : 1);
                    }
                    EDGES.error("channel " + channel + " at step " + step, x, 0, step == ENDS ? NONE : 0, step == ENDS ? 0 : OPEN);
                    Edges.add(x, 0, MAKE, 0, 0, STOP, 0, 0, MAKE, 0, 0);
                    EDGES.error("at STOP", x, 0, step == ENDS ? NONE : 1, step == ENDS ? 0 : OPEN);
                }
            }
        }
        Lineartide others = Edges.tell(new Lineartide(), 0, GIVES, 0, 0);
        others.channel(0, 1, 2);
        EDGES.fine("a channel of others", others);
    }

    private static void others() {
        EDGES.says("What is found", "For others:");
        int[][] ops = {{JUMP, 0, 2}, {MAYBE, 0, 2}, {READ, 0, 0}, {MAKE, 1, MANY}};
        for (int[] op : ops) {
            Lineartide x = Edges.add(Edges.steps(PICKS, 1, 1, ENDS, 0, 0), 0, Edges.all(Edges.lot(MAKE, 0, LINEAR), op, Edges.lot(FREE, 0, 0, PICK, 0, 0)));
            EDGES.fine("op " + op[0] + " minds neither LINEAR nor a channel that is open", x);
        }
        EDGES.fine("STOP minds no channel that is not there", Edges.ops(STOP, 2, 5));
    }

    private static void empty() {
        EDGES.says("What is found", "EMPTY: the used variable is nothing or 4.");
        int[][] uses = {{FREE, 0, 0}, {READ, 0, 0}, {WRITE, 0, 0}, {MOVE, 3, 0}, {SHARE, 3, 0}, {LEND, 3, 0}, {SEND, 0, 0}};
        for (int state : STATES) {
            for (int[] op : uses) {
                int at = until(state).length / 3;
                int error = errorAt(behind(state, op), at);
                EDGES.due("op " + op[0] + " of " + state, state == 0 || state == 4, error == EMPTY);
            }
            EDGES.due("a target may be " + state, state == 5 ? UNLIKE : state == 3 ? FULL : 0, errorAt(behind(state, MAKE, 0, 0), until(state).length / 3));
        }
    }

    private static void kinds() {
        int[][] uses = {{FREE, 0, 0}, {READ, 0, 0}, {WRITE, 0, 0}, {MOVE, 3, 0}, {SHARE, 3, 0}, {LEND, 3, 0}, {SEND, 0, 0}};
        for (int state : new int[] {1, 2, 3, 11, 12, 21, 22}) {
            for (int[] op : uses) {
                boolean taken = op[0] == FREE || op[0] == LEND || op[0] == SEND;
                EDGES.says("What is found", taken ? "KIND: FREE, LEND or SEND of what is shared or lent;"
                    : op[0] == SHARE ? "SHARE of what is lent;" : "WRITE of what is shared;");
                boolean wrong = taken && state > 10 || op[0] == WRITE && isShared(state) || op[0] == SHARE && isLent(state);
                int error = errorAt(behind(state, op), until(state).length / 3);
                EDGES.due("op " + op[0] + " of " + state, wrong, error == KIND);
            }
        }
        EDGES.says("What is found", "SEND of another kind than that of the step, if it is at one that GIVES.");
        for (int side = 0; side < 2; side++) {
            int gives = side == 0 ? GIVES : GETS;
            for (int kind = MANY; kind <= LINEAR; kind++) {
                for (int step = MANY; step <= LINEAR; step++) {
                    Lineartide x = Edges.steps(gives, step, 1, ENDS, 0, 0);
                    Edges.add(x, side, MAKE, 0, kind, SEND, 0, 0);
                    EDGES.error("SEND of " + kind + " at " + step, x, side, kind == step ? NONE : 1, kind == step ? 0 : KIND);
                    Lineartide y = Edges.steps(1 - gives, step, 1, ENDS, 0, 0);
                    Edges.add(y, side, MAKE, 0, kind, SEND, 0, 0);
                    EDGES.error("SEND of " + kind + " where " + step + " is got", y, side, 1, SESSION);
                }
                Lineartide z = Edges.steps(gives, 1, 1, ENDS, 0, 0);
                Edges.add(z, side, MAKE, 0, kind, SHARE, 1, 0, SEND, 0, 1);
                EDGES.error("SEND of a share of the kind " + kind, z, side, 2, KIND);
            }
            for (int step = PICKS; step <= ENDS; step++) {
                Lineartide x = Edges.steps(step, 1, 1, ENDS, 0, 0);
                Edges.add(x, side, MAKE, 0, MANY, SEND, 0, 0);
                EDGES.error("SEND at step " + step, x, side, 1, SESSION);
            }
        }
    }

    private static void full() {
        EDGES.says("What is found", "FULL: the target is 3, and not the used one.");
        int[][] ops = {{MAKE, 0, 0}, {MAKE, 0, LINEAR}, {MOVE, 0, 1}, {SHARE, 0, 1}, {LEND, 0, 1}, {TAKE, 0, 0}};
        for (int state : STATES) {
            for (int[] op : ops) {
                int error = errorAt(behind(state, op), until(state).length / 3);
                EDGES.due("op " + op[0] + " over " + state, state == 3, error == FULL);
            }
        }
        for (int v = 0; v < 6; v++) {
            EDGES.fine("MOVE of " + v + " to itself", Edges.ops(MAKE, v, LINEAR, MOVE, v, v, FREE, v, 0));
        }
        EDGES.fine("MOVE to and fro", Edges.ops(MAKE, 0, LINEAR, MOVE, 1, 0, MOVE, 0, 1, FREE, 0, 0));
        EDGES.error("MOVE of LINEAR over LINEAR", Edges.ops(MAKE, 0, LINEAR, MAKE, 1, LINEAR, MOVE, 0, 1), 0, 2, FULL);
    }

    private static void borrowedTarget() {
        EDGES.says("What is found", "BORROWED: a variable that lives behind the op, or is the used one, and is not its target, shares what the target owns, or has it lent");
        int[][] ops = {{MAKE, 0, 0}, {MOVE, 0, 3}, {SHARE, 0, 3}, {LEND, 0, 3}, {TAKE, 0, 0}};
        for (int[] op : ops) {
            for (int what = SHARE; what <= LEND; what++) {
                for (int kind = MANY; kind <= AFFINE; kind++) {
                    int[] first = {MAKE, 3, MANY, MAKE, 0, kind, what, 1, 0};
                    EDGES.borrowed("op " + op[0], Edges.add(withGets(), 0, Edges.all(first, op, Edges.lot(READ, 1, 0))), 3, 1);
                    EDGES.borrowed("lives farther behind", Edges.add(withGets(), 0, Edges.all(first, op, Edges.lot(MAKE, 4, 0, READ, 1, 0))), 3, 1);
                    EDGES.due("lives no more", 0, errorAt(Edges.add(withGets(), 0, Edges.all(first, op)), 3));
                    EDGES.due("lived ahead of it", 0, errorAt(Edges.add(withGets(), 0, Edges.all(first, Edges.lot(READ, 1, 0), op)), 4));
                    EDGES.due("is made anew", 0, errorAt(Edges.add(withGets(), 0, Edges.all(first, op, Edges.lot(MAKE, 1, 0, READ, 1, 0))), 3));
                }
            }
        }
        EDGES.borrowed("the used one has it lent, and lives no more", Edges.ops(MAKE, 0, MANY, LEND, 1, 0, MOVE, 0, 1), 2, 1);
        EDGES.borrowed("the used one shares it", Edges.ops(MAKE, 0, AFFINE, SHARE, 1, 0, MOVE, 0, 1), 2, 1);
        EDGES.borrowed("by SHARE, too", Edges.ops(MAKE, 0, AFFINE, SHARE, 1, 0, SHARE, 0, 1), 2, 1);
        EDGES.fine("the target itself does not count", Edges.ops(MAKE, 0, MANY, LEND, 1, 0, LEND, 1, 0, WRITE, 1, 0));
        EDGES.fine("nor what it shares", Edges.ops(MAKE, 0, AFFINE, SHARE, 1, 0, MAKE, 1, 0, READ, 1, 0));
        // 0 shares what it owned itself; a MAKE over it is in nobody's way
        int[] itself = {JUMP, 0, 4, MAKE, 0, 0, READ, 0, 0, STOP, 0, 0, MAKE, 0, 0, SHARE, 1, 0, MOVE, 0, 1, JUMP, 0, 1};
        EDGES.borrowed("a target that shares what it owned", Edges.ops(itself), 6, 1);
    }

    /** A channel at which process 0 can take a value again and again. */
    private static Lineartide withGets() {
        return Edges.steps(GETS, MANY, 0);
    }

    private static void borrowedWhateverItIs() {
        EDGES.says("What is found", "(if the target is not the used one, and is not nothing, whatever else it is by now);");
        EDGES.fine("the target is the used one", Edges.ops(MAKE, 0, MANY, SHARE, 1, 0, MOVE, 0, 0, READ, 1, 0));
        // the op 1 makes 0 over; 1 shares or has lent what it owned, and the ops from 4 on make 0 something else
        for (int what = SHARE; what <= LEND; what++) {
            int[] first = {JUMP, 0, 4, MAKE, 0, 0, READ, 1, 0, STOP, 0, 0, MAKE, 2, 0, MAKE, 0, AFFINE, what, 1, 0};
            EDGES.borrowed("nothing", Edges.ops(Edges.all(first, Edges.lot(FREE, 0, 0, JUMP, 0, 1))), 7, 1);
            EDGES.borrowed("MANY", Edges.ops(Edges.all(first, Edges.lot(MAKE, 0, MANY, JUMP, 0, 1))), 1, 1);
            EDGES.borrowed("AFFINE", Edges.ops(Edges.all(first, Edges.lot(MAKE, 0, AFFINE, JUMP, 0, 1))), 1, 1);
            EDGES.error("LINEAR", Edges.ops(Edges.all(first, Edges.lot(MAKE, 0, LINEAR, JUMP, 0, 1))), 0, 1, FULL);
            EDGES.borrowed("perhaps AFFINE", Edges.ops(Edges.all(first, Edges.lot(MAYBE, 0, 1, FREE, 0, 0, JUMP, 0, 1))), 1, 1);
            EDGES.error("unlike", Edges.ops(Edges.all(first, Edges.lot(FREE, 0, 0, MAYBE, 0, 1, MAKE, 0, LINEAR, JUMP, 0, 1))), 0, 1, UNLIKE);
            EDGES.borrowed("shared", Edges.ops(Edges.all(first, Edges.lot(SHARE, 0, 2, JUMP, 0, 1))), 1, 1);
            EDGES.borrowed("lent", Edges.ops(Edges.all(first, Edges.lot(LEND, 0, 2, JUMP, 0, 1))), 1, 1);
        }
    }

    private static void borrowedUsed() {
        int[][] ops = {{FREE, 0, 0}, {READ, 0, 0}, {WRITE, 0, 0}, {MOVE, 2, 0}, {SHARE, 2, 0}, {LEND, 2, 0}, {SEND, 0, 0}, {MOVE, 0, 0}};
        for (int[] op : ops) {
            for (int kind = MANY; kind <= LINEAR; kind++) {
                boolean copies = (op[0] == MOVE || op[0] == SEND) && kind == MANY;
                boolean mild = op[0] == READ || op[0] == SHARE || copies;
                EDGES.says("What is found", mild ? "by READ, SHARE, and MOVE or SEND of one that is MANY, only variables that have it lent count."
                    : "or so of the used variable, if that is neither shared nor lent:");
                for (int what = SHARE; what <= LEND; what++) {
                    int[] first = {MAKE, 0, kind, what, 1, 0};
                    Lineartide x = Edges.add(Edges.steps(GIVES, kind, 0), 0, Edges.all(first, op, Edges.lot(READ, 1, 0)));
                    boolean wrong = !mild || what == LEND;
                    String told = "op " + op[0] + " of the kind " + kind + " behind op " + what;
                    EDGES.due(told, wrong ? BORROWED : 0, errorAt(x, 2));
                    if (wrong) {
                        EDGES.borrowed(told, x, 2, 1);
                    }
                    Lineartide y = Edges.add(Edges.steps(GIVES, kind, 0), 0, Edges.all(first, op));
                    EDGES.due(told + ", which lives no more", 0, errorAt(y, 2));
                    Lineartide z = Edges.add(Edges.steps(GIVES, kind, 0), 0, Edges.all(first, op, Edges.lot(MAKE, 1, 0, READ, 1, 0)));
                    EDGES.due(told + ", which is made anew", 0, errorAt(z, 2));
                }
            }
        }
        EDGES.says("What is found", "or so of the used variable, if that is neither shared nor lent:");
        EDGES.fine("a target of the used one's loan", Edges.ops(MAKE, 0, AFFINE, LEND, 1, 0, SHARE, 1, 0, READ, 1, 0));
        EDGES.fine("a target of its share", Edges.ops(MAKE, 0, AFFINE, SHARE, 1, 0, MOVE, 1, 0, READ, 1, 0));
        // the op 1 reads 0, which became a share or a loan, while 1 has lent what it owned
        for (int what = SHARE; what <= LEND; what++) {
            int[] late = {JUMP, 0, 4, READ, 0, 0, READ, 1, 0, STOP, 0, 0, MAKE, 0, 0, LEND, 1, 0, MAKE, 2, 0, what, 0, 2, JUMP, 0, 1};
            EDGES.borrowed("a used one that is shared or lent", Edges.ops(late), 7, 1);
        }
    }

    private static void outOfSession() {
        EDGES.says("What is found", "SESSION: the channel is none of the process, or it is not at a step that the op needs.");
        for (int what = SEND; what <= WAIT; what++) {
            int b = what == WAIT ? 2 : 1;
            for (int channel = 0; channel < 3; channel++) {
                EDGES.error("op " + what + " over no channel", Edges.ops(MAKE, 1, AFFINE, what, channel, b), 0, 1, SESSION);
                Lineartide x = Edges.tell(new Lineartide(), 0, what - SEND, 1, 1, ENDS, 0, 0);
                for (int i = 0; i <= channel; i++) {
                    x.channel(0, 2, 1);
                }
                Edges.add(x, 0, MAKE, 1, AFFINE, what, channel, b);
                EDGES.error("op " + what + " over a channel of others", x, 0, 1, SESSION);
            }
            Lineartide once = Edges.steps(what - SEND, 1, 1, ENDS, 0, 0);
            Edges.add(once, 0, MAKE, 1, AFFINE, what, 0, b, MAKE, 1, AFFINE, what, 0, b == 2 ? 4 : 1);
            EDGES.error("op " + what + " once too often", once, 0, 3, SESSION);
            once.unop(0);
            EDGES.fine("op " + what + " once", once);
        }
    }

    // ---- the promises 6 to 11

    private static void checks() {
        EDGES.says("Promise 6", "Returns the lowest op of a process that has an error; the number of its ops for the end.");
        EDGES.due("the lowest of two", 1, Edges.ops(MAKE, 0, 0, READ, 1, 0, READ, 2, 0).check(0));
        EDGES.due("the lowest, though it is come to later on", 1, Edges.ops(JUMP, 0, 3, READ, 1, 0, STOP, 0, 0, READ, 2, 0, JUMP, 0, 1).check(0));
        EDGES.due("an op ahead of the end", 1, Edges.ops(MAKE, 0, LINEAR, READ, 1, 0).check(0));
        for (int count = 1; count <= 16; count++) {
            Lineartide x = new Lineartide();
            for (int i = 1; i < count; i++) {
                x.op(0, MAKE, 0, 0);
            }
            x.op(0, MAKE, 1, LINEAR);
            EDGES.error("the end of " + count, x, 0, count, KEPT);
            x.unop(0);
            x.op(0, READ, 5, 0);
            EDGES.error("the last of " + count, x, 0, count - 1, EMPTY);
        }
        EDGES.due("the end of none", 0, Edges.steps(GIVES, 0, 0).check(0));
        EDGES.says("Promise 6", "Returns the op; NONE if there is no error.");
        EDGES.due("without ops", -1, new Lineartide().check(0));
        EDGES.due("without an error", -1, Edges.ops(MAKE, 0, AFFINE).check(0));
        EDGES.says("Promise 7", "Returns the error of that.");
        EDGES.due("of the lowest one", EMPTY, Edges.ops(READ, 0, 0, MAKE, 0, LINEAR).error(0));
        EDGES.says("Promise 7", "Returns UNLIKE to OPEN; 0 without.");
        int[] all = {Edges.ops(STOP, 0, 0).error(0), Edges.ops(MAYBE, 0, 2, MAKE, 0, LINEAR).error(0), Edges.ops(FREE, 0, 0).error(0),
            Edges.ops(MAKE, 0, 0, SHARE, 1, 0, WRITE, 1, 0).error(0), Edges.ops(MAKE, 0, LINEAR, MAKE, 0, 0).error(0),
            Edges.ops(MAKE, 0, 0, SHARE, 1, 0, WRITE, 0, 0, READ, 1, 0).error(0), Edges.ops(PICK, 0, 0).error(0),
            Edges.ops(MAKE, 0, LINEAR).error(0), Edges.steps(GETS, 0, 0).error(0)};
        for (int i = 0; i < all.length; i++) {
            EDGES.due("the error " + i, i, all[i]);
        }
    }

    private static void borrowers() {
        EDGES.says("Promise 8", "Returns the lowest variable by which that is BORROWED, those of the target first.");
        for (int low = 1; low < 6; low++) {
            for (int high = low + 1; high < 6; high++) {
                int[] first = {MAKE, 0, AFFINE, SHARE, high, 0, SHARE, low, 0, WRITE, 0, 0};
                Lineartide x = Edges.ops(Edges.all(first, Edges.lot(READ, high, 0, READ, low, 0)));
                EDGES.due("of two, " + low + " and " + high, low, x.borrower(0));
                EDGES.due("of one that lives", high, Edges.ops(Edges.all(first, Edges.lot(READ, high, 0))).borrower(0));
                EDGES.due("of the other one", low, Edges.ops(Edges.all(first, Edges.lot(READ, low, 0))).borrower(0));
            }
        }
        // 0 and 1 own; what is lent by the target 1 is in the way ahead of what is lent by the used 0
        int[] first = {MAKE, 0, AFFINE, MAKE, 1, AFFINE, LEND, 2, 0, LEND, 3, 1, SHARE, 1, 0};
        EDGES.due("those of the target first", 3, Edges.ops(Edges.all(first, Edges.lot(READ, 2, 0, READ, 3, 0))).borrower(0));
        EDGES.due("then those of the used one", 2, Edges.ops(Edges.all(first, Edges.lot(READ, 2, 0))).borrower(0));
        EDGES.due("the used one itself", 5, Edges.ops(MAKE, 0, AFFINE, LEND, 5, 0, MOVE, 0, 5).borrower(0));
        EDGES.says("Promise 8", "Returns the variable.");
        for (int owner = 0; owner < 6; owner++) {
            for (int name = 0; name < 6; name++) {
                for (int what = SHARE; what <= LEND && name != owner; what++) {
                    int[] lent = {MAKE, owner, AFFINE, what, name, owner};
                    EDGES.borrowed("of the used one", Edges.ops(Edges.all(lent, Edges.lot(WRITE, owner, 0, READ, name, 0))), 2, name);
                    EDGES.borrowed("of the target", Edges.ops(Edges.all(lent, Edges.lot(MAKE, owner, 0, READ, name, 0))), 2, name);
                    EDGES.borrowed("the used one", Edges.ops(Edges.all(lent, Edges.lot(MOVE, owner, name))), 2, name);
                }
            }
        }
        for (int p = 0; p < 3; p++) {
            Lineartide x = Edges.add(new Lineartide(), p, MAKE, 5, AFFINE, LEND, 0, 5, READ, 5, 0, READ, 0, 0);
            EDGES.due("the variable 0 of the process " + p, 0, x.borrower(p));
        }
        EDGES.says("Promise 8", "Throws `IllegalStateException` if its error is not BORROWED");
        EDGES.state("no error", () -> new Lineartide().borrower(0));
        EDGES.state("UNLIKE", () -> Edges.ops(MAYBE, 0, 2, MAKE, 0, LINEAR).borrower(0));
        EDGES.state("EMPTY", () -> Edges.ops(READ, 0, 0).borrower(0));
        EDGES.state("FULL", () -> Edges.ops(MAKE, 0, LINEAR, SHARE, 1, 0, MAKE, 0, 0, READ, 1, 0).borrower(0));
        EDGES.state("SESSION", () -> Edges.ops(TAKE, 0, 0).borrower(0));
        EDGES.state("KEPT", () -> Edges.ops(MAKE, 0, LINEAR).borrower(0));
        EDGES.state("an error ahead of BORROWED", () -> Edges.ops(MAKE, 0, 0, READ, 5, 0, LEND, 1, 0, READ, 0, 0, READ, 1, 0).borrower(0));
        EDGES.state("of another process", () -> Edges.ops(MAKE, 0, 0, LEND, 1, 0, READ, 0, 0, READ, 1, 0).borrower(1));
    }

    private static void processesOfAll() {
        String[] promises = {"Promise 6", "Promise 7", "Promise 8", "Promise 9", "Promise 10", "Promise 11"};
        for (int i = 0; i < promises.length; i++) {
            EDGES.says(promises[i], "`process`: 0 to 2");
            for (int p = 0; p < 3; p++) {
                Lineartide x = Edges.tell(new Lineartide(), 0, ENDS, 0, 0);
                x.channel(0, 0, 1);
                Edges.add(x, p, MAKE, 0, MANY, LEND, 1, 0, READ, 0, 0, READ, 1, 0);
                int[] due = {2, BORROWED, 1, 20, p < 2 ? 0 : NONE, 1 | 2};
                EDGES.due("of " + p, due[i], answer(x, i, p));
                int other = (p + 1) % 3;
                int[] plain = {NONE, 0, 0, 0, other < 2 ? 0 : NONE, 0};
                if (i != 2) {
                    EDGES.due("of " + other + " without ops", plain[i], i < 3 ? answer(x, i, other) : answerAtEnd(x, i, other));
                }
            }
            EDGES.says(promises[i], i == 3 ? "Throws `IndexOutOfBoundsException` if there is no such process, op or name"
                : i == 4 ? "Throws `IndexOutOfBoundsException` if there is no such process, op or channel"
                : i == 5 ? "Throws `IndexOutOfBoundsException` if there is no such process or op"
                : "Throws `IndexOutOfBoundsException` if there is no such process");
            int asked = i;
            Lineartide x = Edges.steps(ENDS, 0, 0);
            for (int none : Edges.beside(3)) {
                EDGES.bounds("process " + none, () -> answer(x, asked, none));
                EDGES.bounds("process " + none + " at the end", () -> answerAtEnd(x, asked, none));
            }
        }
    }

    private static int answer(Lineartide x, int promise, int process) {
        switch (promise) {
            case 0:
                return x.check(process);
            case 1:
                return x.error(process);
            case 2:
                return x.borrower(process);
            case 3:
                return x.holds(process, 2, 1);
            case 4:
                return x.at(process, 2, 0);
            default:
                return x.lives(process, 2);
        }
    }

    private static int answerAtEnd(Lineartide x, int promise, int process) {
        return promise < 3 ? answer(x, promise, process) : promise == 3 ? x.holds(process, 0, 0) : promise == 4 ? x.at(process, 0, 0) : x.lives(process, 0);
    }

    private static void opsAsked() {
        for (int count = 0; count <= 16; count++) {
            Lineartide x = Edges.steps(ENDS, 0, 0);
            for (int i = 0; i < count; i++) {
                x.op(1, MAKE, 0, MANY);
            }
            for (int i = 0; i <= count; i++) {
                EDGES.says("Promise 9", "`op`: 0 to how many it has, for the end");
                EDGES.due(i + " of " + count, i == 0 ? 0 : 1, x.holds(1, i, 0));
                EDGES.says("Promise 10", "`op`: 0 to how many it has, for the end");
                EDGES.due(i + " of " + count, 0, x.at(1, i, 0));
                EDGES.says("Promise 11", "`op`: 0 to how many it has, for the end");
                EDGES.due(i + " of " + count, 0, x.lives(1, i));
            }
            for (int none : Edges.beside(count + 1)) {
                EDGES.says("Promise 9", "Throws `IndexOutOfBoundsException` if there is no such process, op or name");
                EDGES.bounds(none + " of " + count, () -> x.holds(1, none, 0));
                EDGES.says("Promise 10", "Throws `IndexOutOfBoundsException` if there is no such process, op or channel");
                EDGES.bounds(none + " of " + count, () -> x.at(1, none, 0));
                EDGES.says("Promise 11", "Throws `IndexOutOfBoundsException` if there is no such process or op");
                EDGES.bounds(none + " of " + count, () -> x.lives(1, none));
            }
        }
    }

    private static void namesAsked() {
        EDGES.says("Promise 9", "`name`: 0 to 5");
        Lineartide x = Edges.ops(MAKE, 0, 0, MAKE, 1, 1, MAKE, 2, 2, SHARE, 3, 0, LEND, 4, 1);
        int[] all = {1, 2, 3, 10, 21, 0};
        for (int v = 0; v < 6; v++) {
            EDGES.due("name " + v, all[v], x.holds(0, 5, v));
        }
        EDGES.says("Promise 9", "Throws `IndexOutOfBoundsException` if there is no such process, op or name");
        for (int none : Edges.beside(6)) {
            EDGES.bounds("name " + none, () -> x.holds(0, 5, none));
            EDGES.bounds("name " + none + " where nothing can be come to", () -> Edges.ops(JUMP, 0, 0).holds(0, 1, none));
        }
        EDGES.says("Promise 9", "Returns what a variable is ahead of an op.");
        EDGES.due("ahead of MAKE", 0, x.holds(0, 2, 2));
        EDGES.due("behind it", 3, x.holds(0, 3, 2));
        EDGES.says("Promise 9", "Returns as told; NONE if it cannot be come to.");
        Lineartide y = Edges.ops(MAKE, 0, 0, JUMP, 0, 3, READ, 0, 0, STOP, 0, 0, READ, 0, 0);
        int[] come = {0, 1, NONE, 1, NONE, NONE};
        for (int i = 0; i < come.length; i++) {
            EDGES.due("op " + i, come[i], y.holds(0, i, 0));
            EDGES.due("op " + i + ", another name", come[i] == NONE ? NONE : 0, y.holds(0, i, 5));
        }
    }

    private static void channelsAsked() {
        EDGES.says("Promise 10", "`channel`: a channel");
        Lineartide x = Edges.tell(new Lineartide(), 0, ENDS, 0, 0);
        for (int count = 0; count <= 3; count++) {
            for (int i = 0; i < count; i++) {
                EDGES.due(i + " of " + count, i == 1 ? NONE : 0, x.at(0, 0, i));
            }
            for (int none : Edges.beside(count)) {
                EDGES.bounds(none + " of " + count, () -> x.at(0, 0, none));
            }
            if (count < 3) {
                x.channel(0, count == 1 ? 1 : 0, 2);
            }
        }
        EDGES.bounds("a channel that is not there, where nothing can be come to", () -> Edges.ops(JUMP, 0, 0).at(0, 1, 0));
        EDGES.says("Promise 10", "Returns the step of a channel ahead of an op.");
        Lineartide y = Edges.steps(PICKS, 7, 1, ENDS, 0, 0, ENDS, 0, 0, ENDS, 0, 0, ENDS, 0, 0, ENDS, 0, 0, ENDS, 0, 0, ENDS, 0, 0);
        Edges.add(y, 0, PICK, 0, 0);
        EDGES.due("ahead of PICK", 0, y.at(0, 0, 0));
        EDGES.due("behind it", 7, y.at(0, 1, 0));
        EDGES.says("Promise 10", "Returns the step; -2 if it is unlike; NONE if it is none of the process, or the op cannot be come to.");
        Edges.add(y, 1, WAIT, 0, 1, STOP, 0, 0, STOP, 0, 0);
        EDGES.due("unlike", -2, y.at(1, 1, 0));
        EDGES.due("of others", -1, y.at(2, 0, 0));
        EDGES.due("an op that can't be come to", -1, y.at(1, 2, 0));
        EDGES.due("an end that can't be come to", -1, y.at(1, 3, 0));
    }

    private static void livesAsked() {
        EDGES.says("Promise 11", "Returns the variables that live ahead of an op, as a set of bits; 0 at the end.");
        Lineartide x = Edges.ops(READ, 0, 0, READ, 1, 0, READ, 2, 0, READ, 3, 0, READ, 4, 0, READ, 5, 0);
        for (int i = 0; i <= 6; i++) {
            EDGES.due("ahead of op " + i, 63 >> i << i, x.lives(0, i));
        }
        EDGES.due("at the end of a loop that can't be left", 0, Edges.ops(READ, 0, 0, JUMP, 0, 0).lives(0, 2));
        EDGES.says("Promise 11", "Returns the variables.");
        EDGES.due("of the loop itself", 1, Edges.ops(READ, 0, 0, JUMP, 0, 0).lives(0, 1));
        EDGES.due("of none", 0, new Lineartide().lives(2, 0));
    }

    private static void askedAgain() {
        EDGES.says("Promise 11", "Returns the variables that live ahead of an op, as a set of bits; 0 at the end.");
        Lineartide x = Edges.ops(READ, 0, 0, JUMP, 0, 0);
        EDGES.due("in a loop", 1, x.lives(0, 1));
        x.unop(0);
        EDGES.due("at the end where an op was", 0, x.lives(0, 1));
        x.unop(0);
        EDGES.due("at the end that is left", 0, x.lives(0, 0));
        Edges.add(x, 0, MAKE, 1, MANY, JUMP, 0, 0);
        EDGES.due("in another loop in its place", 0, x.lives(0, 0));
        EDGES.due("all around it", 0, x.lives(0, 1));
        EDGES.says("Promise 9", "Returns as told; NONE if it cannot be come to.");
        Lineartide y = Edges.ops(MAKE, 0, LINEAR, MAYBE, 0, 0, MAKE, 1, AFFINE, STOP, 0, 0);
        EDGES.due("by a loop", 5, y.holds(0, 0, 0));
        EDGES.due("behind it", 2, y.holds(0, 3, 1));
        EDGES.due("behind STOP", NONE, y.holds(0, 4, 0));
        y.unop(0);
        y.unop(0);
        y.unop(0);
        EDGES.due("the loop is away", 0, y.holds(0, 0, 0));
        EDGES.due("what was made stays", 3, y.holds(0, 1, 0));
        Edges.add(y, 0, JUMP, 0, 3, MAKE, 2, MANY);
        EDGES.due("passed by now", NONE, y.holds(0, 2, 0));
        EDGES.due("the end, come to now", 3, y.holds(0, 3, 0));
        EDGES.due("by one way alone", 0, y.holds(0, 3, 2));
        EDGES.says("Promise 10", "Returns the step of a channel ahead of an op.");
        Lineartide z = Edges.tell(new Lineartide(), 0, PICKS, 1, 1, ENDS, 0, 0);
        Edges.add(z, 0, PICK, 1, 0);
        z.channel(0, 1, 2);
        EDGES.due("none of its own yet", NONE, z.at(0, 1, 0));
        EDGES.error("nor one at all", z, 0, 0, SESSION);
        z.channel(0, 0, 2);
        EDGES.due("its own goes on", 1, z.at(0, 1, 1));
        EDGES.due("from the beginning", 0, z.at(0, 0, 1));
        EDGES.fine("and is right", z);
        z.channel(0, 2, 0);
        EDGES.error("another one is open", z, 0, 1, OPEN);
        EDGES.error("for both", z, 2, 0, OPEN);
    }

    static void all() {
        beginning();
        eachState();
        staysSo();
        stepsOfChannels();
        freed();
        takenAway();
        movedToItself();
        errorsChangeNothing();
        shared();
        taken();
        staysThere();
        targetsAndUsed();
        comeTogether();
        untilNothingChanges();
        living();
        whoHasErrors();
        unlike();
        endings();
        others();
        empty();
        kinds();
        full();
        borrowedTarget();
        borrowedWhateverItIs();
        borrowedUsed();
        outOfSession();
        checks();
        borrowers();
        processesOfAll();
        opsAsked();
        namesAsked();
        channelsAsked();
        livesAsked();
        askedAgain();
    }
}
