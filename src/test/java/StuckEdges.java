/**
 * The boundary cases of being stuck: "Being stuck" and the promise 12. Each test says by its first line for which words
 * of the document it stands.
 */
final class StuckEdges implements Words {
    private static final Edges EDGES = new Edges();

    private static void makes(Lineartide x, int process, int count) {
        for (int i = 0; i < count; i++) {
            x.op(process, MAKE, 0, MANY);
        }
    }

    /** What is due of processes that can't be stuck, with so many layouts. */
    private static int due(int layouts) {
        return layouts > 1000 ? NONE : 0;
    }

    private static void anyOrder() {
        EDGES.says("Being stuck", "Processes without errors do their ops one by one, in any order among them;");
        // alone each of them has a place for each op, one behind them, and one where it has ended
        for (int a = 0; a <= 16; a++) {
            for (int b = a; b <= 16; b++) {
                for (int c = b; c <= 16; c++) {
                    Lineartide x = new Lineartide();
                    makes(x, (a + b) % 3, a);
                    makes(x, (a + b + 1) % 3, b);
                    makes(x, (a + b + 2) % 3, c);
                    EDGES.due(a + ", " + b + " and " + c + " ops", due((a + 2) * (b + 2) * (c + 2)), x.stuck());
                }
            }
        }
    }

    /** Process 0 waits for a message at the channel 0, and process 1 at the channel 1, behind so many ops each. */
    private static Lineartide bothWait(int a, int b, int c) {
        Lineartide x = Edges.tell(new Lineartide(), 0, GETS, MANY, 1, ENDS, 0, 0);
        x.channel(0, 0, 1);
        x.channel(0, 1, 0);
        makes(x, 0, a);
        Edges.add(x, 0, TAKE, 0, 0, SEND, 1, 0);
        makes(x, 1, b);
        Edges.add(x, 1, TAKE, 1, 0, SEND, 0, 0);
        makes(x, 2, c);
        return x;
    }

    private static void eachWay() {
        EDGES.says("Being stuck", "by MAYBE each way can be gone.");
        for (int way = 0; way < 2; way++) {
            for (int wrong = 0; wrong < 2; wrong++) {
                // by one way process 0 takes at the channel 0 ahead of sending over 1, by the other one it sends first
                int[] good = {MAKE, 0, MANY, SEND, 1, 0, TAKE, 0, 0};
                int[] bad = {TAKE, 0, 0, MAKE, 0, MANY, SEND, 1, 0};
                Lineartide x = Edges.tell(new Lineartide(), 0, GETS, MANY, 1, ENDS, 0, 0);
                x.channel(0, 0, 1);
                x.channel(0, 1, 0);
                Edges.add(x, 0, Edges.all(Edges.lot(MAYBE, 0, 5), way == 1 || wrong == 0 ? good : bad, Edges.lot(STOP, 0, 0),
                    way == 0 || wrong == 0 ? good : bad));
                Edges.add(x, 1, TAKE, 1, 0, SEND, 0, 0);
                EDGES.due("the way " + way + " is wrong: " + wrong, wrong, x.stuck());
            }
        }
        Lineartide both = Edges.ops(MAYBE, 0, 0);
        EDGES.due("MAYBE back to itself", 0, both.stuck());
        Lineartide end = Edges.ops(MAYBE, 0, 15);
        EDGES.due("MAYBE to the end by both ways", 0, end.stuck());
    }

    /** Process 0 does so many messages over the channel 0 ahead of one over the channel 1, for which process 1 waits first. */
    private static Lineartide crossing(int count, boolean picks, boolean turned) {
        Lineartide x = new Lineartide();
        int gives = turned ? GETS : GIVES;
        int picking = turned ? OFFERS : PICKS;
        for (int i = 0; i < count; i++) {
            x.step(0, picks ? picking : gives, picks ? i + 1 : MANY, i + 1);
        }
        x.step(0, ENDS, 0, 0);
        Edges.tell(x, 1, gives, MANY, 1, ENDS, 0, 0);
        x.channel(0, turned ? 1 : 0, turned ? 0 : 1);
        x.channel(1, turned ? 1 : 0, turned ? 0 : 1);
        x.op(0, MAKE, 0, MANY);
        x.op(1, TAKE, 1, 0);
        for (int i = 0; i < count; i++) {
            x.op(0, picks ? PICK : SEND, 0, 0);
            x.op(1, picks ? WAIT : TAKE, 0, picks ? i + 2 : 0);
        }
        x.op(0, SEND, 1, 0);
        return x;
    }

    private static void room() {
        for (int count = 0; count <= 7; count++) {
            for (int turned = 0; turned < 2; turned++) {
                EDGES.says("Being stuck", "At most 2 messages wait on each side of a channel;");
                EDGES.due(count + " values", count > 2 ? 1 : 0, crossing(count, false, turned == 1).stuck());
                EDGES.due(count + " ways", count > 2 ? 1 : 0, crossing(count, true, turned == 1).stuck());
            }
        }
        Lineartide x = Edges.tell(new Lineartide(), 0, GIVES, MANY, 1, PICKS, 2, 2, ENDS, 0, 0);
        Edges.tell(x, 1, GIVES, MANY, 1, ENDS, 0, 0);
        x.channel(0, 0, 1);
        x.channel(0, 0, 1);
        x.channel(1, 0, 1);
        Edges.add(x, 0, MAKE, 0, MANY, SEND, 0, 0, SEND, 1, 0, PICK, 0, 0, PICK, 1, 0, SEND, 2, 0);
        Edges.add(x, 1, TAKE, 2, 0, TAKE, 0, 0, WAIT, 0, 3, TAKE, 1, 0, WAIT, 1, 5);
        EDGES.due("two messages on each of two channels", 0, x.stuck());
        EDGES.says("Being stuck", "SEND and PICK wait for room, TAKE and WAIT for a message.");
        EDGES.due("SEND", 1, crossing(3, false, false).stuck());
        EDGES.due("PICK", 1, crossing(3, true, false).stuck());
        EDGES.due("TAKE", 1, bothWait(0, 0, 0).stuck());
        Lineartide y = Edges.tell(new Lineartide(), 0, OFFERS, 1, 1, ENDS, 0, 0);
        y.channel(0, 0, 1);
        y.channel(0, 1, 0);
        Edges.add(y, 0, WAIT, 0, 1, PICK, 1, 0);
        Edges.add(y, 1, WAIT, 1, 1, PICK, 0, 0);
        EDGES.due("WAIT", 1, y.stuck());
    }

    /**
     * Process 0 leaves two ways waiting at a side of a channel, and one at a side of another one, ahead of a value of a
     * kind over the third channel, which process 1 takes first. By the other way it would wait for values that never come.
     */
    private static void whatWaits() {
        EDGES.says("Being stuck", "and which ways and values wait at each side.");
        for (int first = 0; first < 3; first++) {
            for (int second = 0; second < 3; second++) {
                for (int turned = 0; turned < 4 && first != second; turned++) {
                    for (int kind = MANY; kind <= LINEAR; kind++) {
                        for (int way = 0; way < 2; way++) {
                            Lineartide x = crowded(first, second, turned, kind, way);
                            EDGES.error("the picking one", x, 0, NONE, 0);
                            EDGES.error("the waiting one", x, 1, NONE, 0);
                            EDGES.due("two ways at " + first + ", one at " + second + ", turned " + turned, 0, x.stuck());
                        }
                    }
                }
            }
        }
    }

    private static int[] picking(boolean right, int way, int good, int bad) {
        return Edges.lot(right ? OFFERS : PICKS, way == 0 ? good : bad, way == 0 ? bad : good);
    }

    private static Lineartide crowded(int first, int second, int turned, int kind, int way) {
        Lineartide x = new Lineartide();
        int third = 3 - first - second;
        int name = (first + 2 * turned + kind) % 6;
        int[] ends = {ENDS, 0, 0};
        for (int c = 0; c < 3; c++) {
            boolean right = c == first && (turned & 1) != 0 || c == second && (turned & 2) != 0;
            int[] gives = {right ? GETS : GIVES, c == third ? kind : MANY, 1};
            if (c == third) {
                Edges.tell(x, c, Edges.all(gives, ends));
            } else if (c == first) {
                Edges.tell(x, c, Edges.all(picking(right, way, 2, 3), ends, picking(right, way, 1, 3), gives));
            } else {
                Edges.tell(x, c, Edges.all(picking(right, way, 1, 2), ends, gives));
            }
            x.channel(c, right ? 1 : 0, right ? 0 : 1);
        }
        Edges.add(x, 0, PICK, first, way, PICK, first, way, PICK, second, way, MAKE, name, kind, SEND, third, name);
        Edges.add(x, 1, TAKE, third, 4, FREE, 4, 0);
        if (way == 1) {
            Edges.add(x, 1, WAIT, second, 5, TAKE, second, 0, JUMP, 0, 5, WAIT, first, 8, TAKE, first, 0, JUMP, 0, 15, WAIT, first, 15,
                TAKE, first, 0);
        } else {
            Edges.add(x, 1, WAIT, second, 6, WAIT, first, 8, WAIT, first, 8, STOP, 0, 0, TAKE, second, 0, JUMP, 0, 3, TAKE, first, 0);
        }
        return x;
    }

    private static void askedAgain() {
        EDGES.says("Promise 12", "Returns whether the processes can be stuck.");
        // one object: ops are added and taken away, so that 729 to 1331 layouts come and go
        Lineartide x = new Lineartide();
        int[] count = new int[3];
        for (int i = 0; i < 60; i++) {
            int process = i % 3;
            int want = 7 + i * 7 % 3 + i / 9 % 2;
            while (count[process] < want) {
                x.op(process, MAKE, 0, MANY);
                count[process]++;
            }
            while (count[process] > want) {
                x.unop(process);
                count[process]--;
            }
            EDGES.due("the question " + i, due((count[0] + 2) * (count[1] + 2) * (count[2] + 2)), x.stuck());
        }
        Lineartide y = bothWait(9, 9, 7);
        for (int i = 0; i < 20; i++) {
            EDGES.due("900, again", 1, y.stuck());
            y.op(2, MAKE, 0, MANY);
            EDGES.due("1000, again", 1, y.stuck());
            y.op(2, MAKE, 0, MANY);
            EDGES.due("1100, again", NONE, y.stuck());
            y.unop(2);
            y.unop(2);
        }
    }

    private static void whoIsStuck() {
        EDGES.says("Being stuck", "They are stuck, if none can do anything, and not all have ended.");
        EDGES.due("all end", 0, new Lineartide().stuck());
        EDGES.due("all end at STOP", 0, Edges.add(Edges.add(Edges.ops(STOP, 0, 0), 1, STOP, 0, 0), 2, STOP, 0, 0).stuck());
        EDGES.due("one never ends", 0, Edges.ops(JUMP, 0, 0).stuck());
        EDGES.due("two wait, and the third ends", 1, bothWait(0, 0, 0).stuck());
        EDGES.due("two wait, and the third never ends", 0, Edges.add(bothWait(0, 0, 15), 2, JUMP, 0, 0).stuck());
        EDGES.due("two wait, and the third may end", 1, Edges.add(bothWait(0, 0, 3), 2, MAYBE, 0, 0).stuck());
        Lineartide round = Edges.tell(new Lineartide(), 0, GETS, MANY, 1, ENDS, 0, 0);
        for (int p = 0; p < 3; p++) {
            round.channel(0, p, (p + 1) % 3);
            Edges.add(round, p, TAKE, p, 0, SEND, (p + 2) % 3, 0);
        }
        EDGES.due("each of three waits for the next", 1, round.stuck());
        round.unop(1);
        round.unop(1);
        Edges.add(round, 1, MAKE, 0, MANY, SEND, 0, 0, TAKE, 1, 0);
        EDGES.due("one of them sends first", 0, round.stuck());
    }

    /** Ops of process 0, then 7 messages; ops of process 1, then 7 that wait for them. */
    private static Lineartide pipe(int a, int b, int c, boolean picks) {
        Lineartide x = new Lineartide();
        for (int i = 0; i < 7; i++) {
            x.step(0, picks ? PICKS : GIVES, picks ? i + 1 : MANY, i + 1);
        }
        x.step(0, ENDS, 0, 0);
        x.channel(0, 0, 1);
        makes(x, 0, a);
        makes(x, 1, b);
        makes(x, 2, c);
        for (int i = 0; i < 7; i++) {
            x.op(0, picks ? PICK : SEND, 0, 0);
            x.op(1, picks ? WAIT : TAKE, 0, picks ? b + i + 1 : 0);
        }
        return x;
    }

    /** How many layouts two processes have with one another, as one is ahead of the other by 0 to 2 messages. */
    private static int layoutsOfPipe(int a, int b) {
        int all = 0;
        for (int one = 0; one <= a + 7; one++) {
            for (int other = 0; other <= b + 7; other++) {
                int ahead = Math.max(0, one - a) - Math.max(0, other - b);
                int ways = (one == a + 7 ? 2 : 1) * (other == b + 7 ? 2 : 1);
                all += ahead >= 0 && ahead <= 2 ? ways : 0;
            }
        }
        return all;
    }

    private static void layouts() {
        EDGES.says("Being stuck", "A layout is where each process is, whether it has ended (which is a thing that it does, at STOP or behind its last op), and which ways and values wait at each side.");
        for (int stops = 0; stops < 2; stops++) {
            Lineartide x = new Lineartide();
            makes(x, 0, 8);
            makes(x, 1, 8);
            makes(x, 2, 8 + stops);
            x.unop(2);
            x.op(2, stops == 1 ? STOP : MAKE, 0, 0);
            EDGES.due("a STOP at the end takes no place of its own", 0, x.stuck());
            x.op(1, MAKE, 0, 0);
            EDGES.due("an op more does", NONE, x.stuck());
        }
        for (int more = 0; more < 2; more++) {
            Lineartide x = new Lineartide();
            makes(x, 0, 9);
            makes(x, 1, 8);
            makes(x, 2, 8 + more);
            x.op(0, JUMP, 0, 0);
            EDGES.due("a layout that is come to again, as the first one is, counts once", due(1000 + 100 * more), x.stuck());
        }
        Lineartide unreached = new Lineartide();
        makes(unreached, 0, 8);
        makes(unreached, 1, 8);
        makes(unreached, 2, 8);
        unreached.op(2, STOP, 0, 0);
        EDGES.due("a STOP behind 8 ops: 1000", 0, unreached.stuck());
        makes(unreached, 2, 7);
        EDGES.due("places that can't be come to don't count", 0, unreached.stuck());
        boolean exactly = false;
        for (int a = 0; a <= 9; a++) {
            for (int b = 0; b <= 8; b++) {
                for (int c = 0; c <= 16; c++) {
                    int layouts = layoutsOfPipe(a, b) * (c + 2);
                    exactly |= layouts == 1000;
                    if (layouts > 900 && layouts < 1100) {
                        String told = a + ", " + b + " and " + c + " ops, and 7 messages: " + layouts;
                        EDGES.due(told + ", by PICK", due(layouts), pipe(a, b, c, true).stuck());
                        if (a > 0) {
                            EDGES.due(told + ", by SEND", due(layouts), pipe(a, b, c, false).stuck());
                        }
                    }
                }
            }
        }
        EDGES.due("1000 came up", true, exactly);
        waysApart();
    }

    /** Process 0 picks either way, and ops are done by both while the way waits. */
    private static void waysApart() {
        for (int a = 0; a <= 12; a++) {
            for (int b = 0; b <= 14; b++) {
                for (int c = 0; c <= 16; c++) {
                    // ahead of the PICK; while a way waits, JUMP is done behind the way 0 alone; behind the WAIT
                    int layouts = (3 * (b + 1) + (2 * a + 5) * (b + 1) + 2 * (a + 3)) * (c + 2);
                    if (layouts > 900 && layouts < 1100) {
                        Lineartide x = Edges.steps(PICKS, 1, 1, ENDS, 0, 0);
                        Edges.add(x, 0, MAYBE, 0, 3, PICK, 0, 0, JUMP, 0, 4, PICK, 0, 1);
                        makes(x, 0, a);
                        makes(x, 1, b);
                        makes(x, 2, c);
                        x.op(1, WAIT, 0, b + 1);
                        EDGES.due(a + ", " + b + " and " + c + " ops, and a way: " + layouts, due(layouts), x.stuck());
                    }
                }
            }
        }
    }

    // ---- promise 12

    private static void tooMany() {
        EDGES.says("Promise 12", "Returns 1 or 0; NONE if more than 1000 layouts can be come to, also if one of these is stuck.");
        EDGES.due("1000, one of them stuck", 1, bothWait(9, 9, 8).stuck());
        EDGES.due("1001, one of them stuck", NONE, bothWait(6, 10, 11).stuck());
        EDGES.due("990, one of them stuck", 1, bothWait(8, 9, 9).stuck());
        EDGES.due("1008, one of them stuck", NONE, bothWait(7, 8, 12).stuck());
        EDGES.due("two that wait, alone", 1, bothWait(0, 0, 0).stuck());
        Lineartide x = bothWait(9, 9, 8);
        x.op(2, MAKE, 0, 0);
        EDGES.due("one op more", NONE, x.stuck());
        x.unop(2);
        EDGES.due("and less", 1, x.stuck());
        EDGES.says("Promise 12", "Returns whether the processes can be stuck.");
        EDGES.due("asked again", 1, x.stuck());
        x.begin();
        x.run(1, 200);
        EDGES.due("asked in a run", 1, x.stuck());
        EDGES.due("which it leaves", RUNNING, x.state(0));
    }

    private static void errors() {
        EDGES.says("Promise 12", "Throws `IllegalStateException` if a process has an error");
        for (int p = 0; p < 3; p++) {
            Lineartide x = Edges.add(new Lineartide(), p, MAKE, 0, LINEAR);
            EDGES.state("at the end of " + p, x::stuck);
            x.op(p, FREE, 0, 0);
            EDGES.due("mended", 0, x.stuck());
            x.op(p, READ, 0, 0);
            EDGES.state("at the last op of " + p, x::stuck);
            x.unop(p);
            x.op(p, JUMP, 0, 4);
            x.op(p, READ, 5, 0);
            EDGES.due("at an op that can't be come to", 0, x.stuck());
        }
        Lineartide y = Edges.steps(ENDS, 0, 0);
        EDGES.due("a channel at its end", 0, y.stuck());
        Edges.tell(y, 1, GIVES, 0, 0);
        y.channel(1, 2, 1);
        EDGES.state("a channel that is open", y::stuck);
        Lineartide many = Edges.ops(READ, 0, 0);
        makes(many, 1, 16);
        makes(many, 2, 16);
        makes(many, 0, 15);
        EDGES.state("an error, and more than 1000 layouts", many::stuck);
    }

    static void all() {
        anyOrder();
        eachWay();
        room();
        whatWaits();
        askedAgain();
        whoIsStuck();
        layouts();
        tooMany();
        errors();
    }
}
