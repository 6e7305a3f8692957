/** Promises 7 and 8: a test for each sentence that names a boundary case. */
public final class WitnessBoundaryTest {
    private static final int P = Checks.P;

    public static void main(String[] args) {
        promise7Reduces();
        promise7BothPhases();
        promise7NoWire();
        promise7WrongKind();
        promise7RefusedKeepsQuotient();
        promise7RemovesQuotient();
        promise7NoOtherValue();
        promise8NeverRefused();
        promise8BothPhases();
        promise8IncreasingOrder();
        promise8FullSize();
        promise8Products();
        promise8InputsUntouched();
        promise8RemovesQuotient();
        promise8CountsChanges();
        promise8CountsNone();
        promise8ChangesNothingElse();
        Checks.finish();
    }

    private static int value(QapCompiler q, int w) {
        return q.info(QapCompiler.INFO_VALUE, w);
    }

    private static int quotient(QapCompiler q) {
        return q.info(QapCompiler.INFO_HAS_QUOTIENT, 0);
    }

    private static void promise7Reduces() {
        Checks.sentence("Promise 7", "`setWitness(w, v)` sets the stored value of wire w to reduce(v).");
        QapCompiler q = Circuits.mixedCompiled();
        for (int v : Circuits.EDGES) {
            for (int w : new int[] {1, 2, 5, 6}) {
                Checks.due("setWitness(" + w + ", " + v + ")", q.setWitness(w, v), true);
                Checks.due("its value", value(q, w), Circuits.reduced(v));
            }
            Checks.due("the assertion's A at its point", q.evaluate(QapCompiler.POLY_A, 3), 0);
            Checks.due("C at the first point", q.evaluate(QapCompiler.POLY_C, 1), Circuits.reduced(v));
        }
    }

    private static void promise7BothPhases() {
        Checks.sentence("Promise 7", "Allowed in both phases.");
        QapCompiler q = Circuits.mixed();
        Checks.due("while building", q.setWitness(1, 3), true);
        q.compile();
        Checks.due("kept by compile", value(q, 1), 3);
        Checks.due("when compiled", q.setWitness(1, 4), true);
        Checks.due("its value", value(q, 1), 4);
    }

    private static void promise7NoWire() {
        Checks.sentence("Promise 7", "Refused (false) when w is not in [0, wireCount)");
        QapCompiler[] objects = {Circuits.mixed(), Circuits.mixedCompiled(), Circuits.mixedDivided()};
        for (QapCompiler q : objects) {
            for (int w : new int[] {Checks.MIN, -32, -1, 7, 8, 9, 10, 31, 32, 33, P}) {
                Checks.refusedFalse(q, "setWitness(" + w + ", 5)", () -> q.setWitness(w, 5));
            }
            Checks.due("the last wire", q.setWitness(6, 5), true);
        }
        QapCompiler fresh = new QapCompiler(8, 4);
        Checks.refusedFalse(fresh, "on a new object", () -> fresh.setWitness(1, 5));
        fresh.addInput();
        Checks.due("the wire holds 0 when it is made", value(fresh, 1), 0);
    }

    private static void promise7WrongKind() {
        Checks.sentence("Promise 7", "or wire w is not of kind INPUT or MUL (so wire 0, ADD and CMUL wires are refused)");
        QapCompiler[] objects = {Circuits.mixed(), Circuits.mixedCompiled(), Circuits.mixedDivided()};
        for (QapCompiler q : objects) {
            for (int w : new int[] {0, 3, 4}) {
                Checks.refusedFalse(q, "setWitness(" + w + ", 5)", () -> q.setWitness(w, 5));
                int own = value(q, w);
                Checks.refusedFalse(q, "setWitness(" + w + ", its value)", () -> q.setWitness(w, own));
            }
        }
    }

    private static void promise7RefusedKeepsQuotient() {
        Checks.sentence("Promise 7", "A refused call changes nothing, and in particular keeps an existing quotient.");
        for (int w : new int[] {Checks.MIN, -1, 0, 3, 4, 7, 32, P}) {
            QapCompiler q = Circuits.mixedDivided();
            Checks.refusedFalse(q, "setWitness(" + w + ", 1)", () -> q.setWitness(w, 1));
            Checks.due("the quotient", quotient(q), 1);
            Checks.due("checkAt", q.checkAt(12345) != -1, true);
        }
    }

    private static void promise7RemovesQuotient() {
        Checks.sentence("Promise 7", "the quotient is removed (even if the value is unchanged), and the answer is true");
        for (int w : new int[] {1, 2, 5, 6}) {
            QapCompiler q = Circuits.mixedDivided();
            int own = value(q, w);
            Checks.due("the same value at " + w, q.setWitness(w, own), true);
            Checks.due("no quotient", quotient(q), 0);
            q.divide();
            Checks.due("the same residue at " + w, q.setWitness(w, own - P), true);
            Checks.due("no quotient", quotient(q), 0);
            q.divide();
            Checks.due("another value at " + w, q.setWitness(w, own ^ 1), true);
            Checks.due("no quotient", quotient(q), 0);
            Checks.due("no H", q.evaluate(QapCompiler.POLY_H, 1), -1);
            Checks.due("no R", q.coeff(QapCompiler.POLY_R, 0), -1);
            Checks.due("none to remove", q.setWitness(w, own), true);
            Checks.due("still none", quotient(q), 0);
        }
    }

    private static void promise7NoOtherValue() {
        Checks.sentence("Promise 7", "No other stored value changes.");
        for (int w : new int[] {1, 2, 5, 6}) {
            QapCompiler q = Circuits.mixedDivided();
            int[] before = {0, value(q, 1), value(q, 2), 0, 0, value(q, 5), value(q, 6)};
            q.setWitness(w, 31);
            for (int other : new int[] {1, 2, 5, 6}) {
                Checks.due(other + " after " + w, value(q, other), other == w ? 31 : before[other]);
            }
        }
    }

    private static void promise8NeverRefused() {
        Checks.sentence("Promise 8", "Never refused");
        Checks.due("a new object", new QapCompiler(8, 4).solve(), 0);
        Checks.due("building", Circuits.mixed().solve(), 0);
        Checks.due("compiled", Circuits.mixedCompiled().solve(), 0);
        Checks.due("divided", Circuits.mixedDivided().solve(), 2);
        QapCompiler q = new QapCompiler(8, 4);
        for (int w = 1; w < 8; w++) {
            q.addInput();
        }
        Checks.due("full", q.solve(), 0);
    }

    private static void promise8BothPhases() {
        Checks.sentence("Promise 8", "allowed in both phases");
        QapCompiler q = Circuits.mixed();
        q.setWitness(1, 1);
        Checks.due("building", q.solve(), 2);
        Checks.due("1 * -3", value(q, 5), P - 3);
        q.compile();
        Checks.due("kept by compile", value(q, 6), 9);
        q.setWitness(1, 2);
        Checks.due("compiled", q.solve(), 2);
        Checks.due("2 * -6", value(q, 5), P - 12);
        Checks.due("C follows", q.evaluate(QapCompiler.POLY_C, 2), 144);
    }

    // Each product squares the one before it, so a wrong order or a value of before the call shows at once.
    private static void promise8IncreasingOrder() {
        Checks.sentence("Promise 8", "in increasing order of w, stores value(a) * value(b) computed with the values as "
            + "they stand at that moment (so earlier MUL wires already hold their new values)");
        QapCompiler q = new QapCompiler(32, 16);
        q.addInput();
        for (int w = 2; w < 18; w++) {
            q.addGate(QapCompiler.KIND_MUL, w - 1, w - 1);
        }
        q.setWitness(1, 3);
        for (int w = 2; w < 18; w++) {
            q.setWitness(w, 1000 + w);
        }
        Checks.due("all change", q.solve(), 16);
        long due = 3;
        for (int w = 2; w < 18; w++) {
            due = due * due % P;
            Checks.due("wire " + w, value(q, w), due);
        }
        Checks.due("SATISFIED", q.info(QapCompiler.INFO_SATISFIED, 0), 1);
    }

    private static void promise8FullSize() {
        Checks.sentence("Promise 8", "For every MUL wire w = MUL(a,b)");
        QapCompiler q = new QapCompiler(32, 16);
        for (int w = 1; w < 16; w++) {
            q.addInput();
            q.setWitness(w, -w);
        }
        for (int w = 16; w < 32; w++) {
            q.addGate(QapCompiler.KIND_MUL, w - 16, 31 - w);
        }
        Checks.due("all change", q.solve(), 16);
        for (int w = 16; w < 32; w++) {
            long left = w == 16 ? 1 : P - (w - 16);
            long right = w == 31 ? 1 : P - (31 - w);
            Checks.due("wire " + w, value(q, w), left * right % P);
        }
    }

    private static void promise8Products() {
        Checks.sentence("Promise 8", "stores value(a) * value(b)");
        int[] ends = {0, 1, 2, 46341, 65536, 1073741824, P - 2, P - 1};
        QapCompiler q = Circuits.mixedCompiled();
        for (int x : ends) {
            for (int y : ends) {
                q.setWitness(1, x);
                q.setWitness(2, y);
                q.solve();
                long sum = ((long) x + y) % P * (P - 3L) % P;
                long product = sum * x % P;
                Checks.due("-3 (x + y) x for " + x + ", " + y, value(q, 5), product);
                Checks.due("its square", value(q, 6), product * product % P);
            }
        }
    }

    private static void promise8InputsUntouched() {
        Checks.sentence("Promise 8", "INPUT values are untouched.");
        QapCompiler q = Circuits.mixedDivided();
        q.solve();
        Checks.due("x", value(q, 1), 2);
        Checks.due("y", value(q, 2), P - 7);
        q.setWitness(1, 0);
        q.solve();
        Checks.due("x is 0", value(q, 1), 0);
        Checks.due("y stays", value(q, 2), P - 7);
    }

    private static void promise8RemovesQuotient() {
        Checks.sentence("Promise 8", "The quotient is removed.");
        QapCompiler q = Circuits.mixedDivided();
        Checks.due("with changes", q.solve(), 2);
        Checks.due("no quotient", quotient(q), 0);
        Checks.due("no R", q.coeff(QapCompiler.POLY_R, 0), -1);
        q.divide();
        Checks.due("without changes", q.solve(), 0);
        Checks.due("no quotient", quotient(q), 0);
        Checks.due("no check", q.checkAt(1), -1);
        QapCompiler assertions = new QapCompiler(8, 4);
        assertions.assertEqual(0, 0);
        assertions.compile();
        assertions.divide();
        Checks.due("without products", assertions.solve(), 0);
        Checks.due("no quotient", quotient(assertions), 0);
    }

    private static void promise8CountsChanges() {
        Checks.sentence("Promise 8", "The answer is how many MUL wires hold a different stored value "
            + "than before the call");
        QapCompiler q = new QapCompiler(32, 16);
        for (int j = 0; j < 16; j++) {
            q.addGate(QapCompiler.KIND_MUL, 0, 0);
        }
        for (int wrong = 0; wrong <= 16; wrong++) {
            q.solve();
            for (int w = 1; w <= wrong; w++) {
                q.setWitness(w, w + 1);
            }
            Checks.due(wrong + " are not 1", q.solve(), wrong);
            Checks.due("none any more", q.solve(), 0);
        }
        q.setWitness(16, 1 - P);
        Checks.due("the same residue is no change", q.solve(), 0);
        QapCompiler zero = Circuits.mixed();
        for (int v : new int[] {P, -P}) {
            zero.setWitness(5, v);
            zero.setWitness(6, v);
            Checks.due("0 is no change from " + v, zero.solve(), 0);
        }
    }

    private static void promise8CountsNone() {
        Checks.sentence("Promise 8", "(0 when there are no MUL wires or none changed)");
        QapCompiler q = new QapCompiler(8, 4);
        q.addInput();
        q.addGate(QapCompiler.KIND_ADD, 1, 1);
        q.addGate(QapCompiler.KIND_CMUL, 1, 3);
        q.assertEqual(1, 2);
        q.setWitness(1, 8);
        Checks.due("no MUL wires", q.solve(), 0);
        q.addGate(QapCompiler.KIND_MUL, 1, 0);
        Checks.due("one changes", q.solve(), 1);
        Checks.due("none changes", q.solve(), 0);
        q.setWitness(4, 8);
        Checks.due("set to what it is", q.solve(), 0);
    }

    private static void promise8ChangesNothingElse() {
        Checks.sentence("Promise 8", "The circuit, the points and the phase do not change.");
        QapCompiler[] objects = {Circuits.mixed(), Circuits.mixedCompiled(), Circuits.mixedDivided()};
        int[] phases = {0, 1, 1};
        for (int i = 0; i < objects.length; i++) {
            QapCompiler q = objects[i];
            q.setWitness(1, 6);
            String before = Checks.constraints(q) + Checks.points(q);
            q.solve();
            Checks.same("constraints and points", Checks.constraints(q) + Checks.points(q), before);
            Checks.due("wires", q.info(QapCompiler.INFO_WIRES, 0), 7);
            Checks.due("phase", q.info(QapCompiler.INFO_COMPILED, 0), phases[i]);
        }
    }
}
