import java.util.ArrayList;
import java.util.List;
import java.util.Map;
import java.util.Set;
import java.util.TreeMap;
import java.util.TreeSet;
import java.util.function.Supplier;

/**
 * What the tests of boundary cases share. Each of them says first for which words of the document it stands, and
 * EdgesTest sees to it that these words stand there, and that no sentence of the terms and promises is left out.
 */
final class Edges implements Words {
    /** Numbers that are none of a few things, whatever their count from 1 to 17 is. */
    static final int[] FAR = {-1, -2, 18, 255, 256, 1 << 16, Integer.MAX_VALUE, Integer.MIN_VALUE};

    /** The words that tests stand for, by sections. */
    static final Map<String, Set<String>> SAID = new TreeMap<>();

    private static final Expect EXPECT = new Expect();
    private String said = "";

    /** The answers asked for from now on are due by these words. */
    void says(String section, String words) {
        said = section + ": " + words + " | ";
        SAID.computeIfAbsent(section, s -> new TreeSet<>()).add(words);
    }

    void due(String what, long want, long got) {
        EXPECT.due(said + what, want, got);
    }

    void due(String what, boolean want, boolean got) {
        EXPECT.due(said + what, want, got);
    }

    void same(String what, String want, String got) {
        EXPECT.due(said + what + (want.equals(got) ? "" : "\n due    " + want + "\n answer " + got), true, want.equals(got));
    }

    void bounds(String what, Expect.Call call) {
        EXPECT.bounds(said + what, call);
    }

    void argument(String what, Expect.Call call) {
        EXPECT.argument(said + what, call);
    }

    void state(String what, Expect.Call call) {
        EXPECT.state(said + what, call);
    }

    static void end() {
        EXPECT.end();
    }

    /** Numbers that are none of this many things, numbered from 0: those right beside them, and far ones. */
    static int[] beside(int count) {
        int[] all = new int[FAR.length + 1];
        all[0] = count;
        System.arraycopy(FAR, 0, all, 1, FAR.length);
        return all;
    }

    // ---- telling

    /** Adds ops: what, a and b of each. */
    static Lineartide add(Lineartide x, int process, int... ops) {
        for (int i = 0; i + 2 < ops.length; i += 3) {
            x.op(process, ops[i], ops[i + 1], ops[i + 2]);
        }
        return x;
    }

    /** An object whose process 0 does these ops. */
    static Lineartide ops(int... ops) {
        return add(new Lineartide(), 0, ops);
    }

    static Lineartide tell(Lineartide x, int protocol, int... steps) {
        for (int i = 0; i + 2 < steps.length; i += 3) {
            x.step(protocol, steps[i], steps[i + 1], steps[i + 2]);
        }
        return x;
    }

    /** An object with a channel 0 of these steps, between the left process 0 and the right process 1. */
    static Lineartide steps(int... steps) {
        Lineartide x = tell(new Lineartide(), 0, steps);
        x.channel(0, 0, 1);
        return x;
    }

    /** Several lots of ops in one. */
    static int[] all(int[]... lots) {
        List<Integer> all = new ArrayList<>();
        for (int[] lot : lots) {
            for (int number : lot) {
                all.add(number);
            }
        }
        return all.stream().mapToInt(Integer::intValue).toArray();
    }

    static int[] lot(int... numbers) {
        return numbers;
    }

    // ---- asking

    void error(String what, Lineartide x, int process, int op, int error) {
        due(what + ": check", op, x.check(process));
        due(what + ": error", error, x.error(process));
    }

    /** Process 0 has no error. */
    void fine(String what, Lineartide x) {
        error(what, x, 0, NONE, 0);
    }

    void borrowed(String what, Lineartide x, int op, int name) {
        error(what, x, 0, op, BORROWED);
        if (x.error(0) == BORROWED) {
            due(what + ": borrower", name, x.borrower(0));
        }
    }

    void go(Lineartide x, int process, int times) {
        for (int i = 0; i < times; i++) {
            due("go " + i + " of process " + process, true, x.go(process, false));
        }
    }

    void is(String what, Lineartide x, int process, int state, int fault, int place) {
        due(what + ": state", state, x.state(process));
        due(what + ": fault", fault, x.fault(process));
        due(what + ": place", place, x.place(process));
    }

    void drops(String what, Lineartide x, int... drops) {
        due(what + ": drops", drops.length, x.drops());
        for (int i = 0; i < drops.length && i < x.drops(); i++) {
            due(what + ": dropped " + i, drops[i], x.dropped(i));
        }
        bounds(what + ": behind the last one", () -> x.dropped(drops.length));
    }

    /** Process 0 does its ops in a run, and is DEAD by the last of so many; 0 for none. */
    void fault(String what, Lineartide x, int goes, int fault) {
        x.begin();
        go(x, 0, goes - 1);
        due(what + ": RUNNING ahead of it", RUNNING, x.state(0));
        int place = x.place(0);
        go(x, 0, 1);
        due(what + ": fault", fault, x.fault(0));
        due(what + ": DEAD", fault != 0, x.state(0) == DEAD);
        if (fault != 0) {
            due(what + ": stays where it was", place, x.place(0));
        }
    }

    // ---- all answers

    /** All that can be asked of an object that is told so, with the exceptions, in one text. */
    static String answers(Supplier<Lineartide> told) {
        Answers all = new Answers(told);
        for (int p = -1; p <= 3; p++) {
            int q = p;
            all.text.append("\nprocess ").append(p);
            all.ask(" check ", x -> x.check(q));
            all.ask(" error ", x -> x.error(q));
            all.ask(" borrower ", x -> x.borrower(q));
            for (int i = -1; i <= 17; i++) {
                int op = i;
                all.ask("\n lives ", x -> x.lives(q, op));
                all.askEach(" ", 6, (x, name) -> x.holds(q, op, name));
                all.askEach(" at ", 3, (x, channel) -> x.at(q, op, channel));
            }
            all.ask("\n state ", x -> x.state(q));
            all.ask(" fault ", x -> x.fault(q));
            all.ask(" place ", x -> x.place(q));
            all.askEach(" value ", 6, (x, name) -> x.value(q, name));
            all.askEach(" waiting ", 3, (x, channel) -> x.waiting(q, channel));
        }
        all.ask("\nstuck ", x -> x.stuck());
        all.ask(" made ", x -> x.made());
        all.ask(" drops ", x -> x.drops());
        all.askEach(" dropped ", told.get().drops(), (x, place) -> x.dropped(place));
        return all.text.toString();
    }

    private interface Question {
        int of(Lineartide x);
    }

    private interface NumberedQuestion {
        int of(Lineartide x, int number);
    }

    /** Takes a new object after each 200 questions, as one is used for at most 512 calls. */
    private static final class Answers {
        private final Supplier<Lineartide> told;
        private final StringBuilder text = new StringBuilder();
        private Lineartide x;
        private int asked;

        Answers(Supplier<Lineartide> told) {
            this.told = told;
        }

        void ask(String what, Question question) {
            if (asked % 200 == 0) {
                x = told.get();
            }
            asked++;
            text.append(what);
            try {
                text.append(question.of(x));
            } catch (RuntimeException e) {
                text.append(e.getClass().getSimpleName());
            }
        }

        void askEach(String what, int count, NumberedQuestion question) {
            for (int i = -1; i <= count; i++) {
                int number = i;
                ask(what, x -> question.of(x, number));
            }
        }
    }
}
