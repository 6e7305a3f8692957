/** Promises 7 and 8: setWitness and solve. */
public final class WitnessTest {
    private static final int VALUE = QapCompiler.INFO_VALUE;
    private static final int QUOTIENT = QapCompiler.INFO_HAS_QUOTIENT;

    public static void main(String[] args) {
        for (int phase = 0; phase < 2; phase++) {
            promise7SetWitness(phase == 1);
            promise7WrongInputs(phase == 1);
            promise8Solve(phase == 1);
            promise8OverwritesAndCounts(phase == 1);
        }
        promise7Quotient();
        promise8Quotient();
        promise8NothingToSolve();
        promise8LargeValues();
        Checks.finish();
    }

    // Wires: 1 and 2 inputs, 3 = x + y, 4 = 3 * x, 5 = wire 3 * wire 4, 6 = wire 5 * wire 5.
    private static QapCompiler circuit(boolean compiled) {
        QapCompiler q = new QapCompiler(10, 4);
        q.addInput();
        q.addInput();
        q.addGate(QapCompiler.KIND_ADD, 1, 2);
        q.addGate(QapCompiler.KIND_CMUL, 1, 3);
        q.addGate(QapCompiler.KIND_MUL, 3, 4);
        q.addGate(QapCompiler.KIND_MUL, 5, 5);
        if (compiled) {
            q.compile();
        }
        return q;
    }

    private static void values(String when, QapCompiler q, int... want) {
        for (int w = 0; w < want.length; w++) {
            Checks.due(when + ": value of wire " + w, q.info(VALUE, w), want[w]);
        }
    }

    private static void promise7SetWitness(boolean compiled) {
        QapCompiler q = circuit(compiled);
        values("fresh", q, 1, 0, 0, 0, 0, 0, 0);
        String constraints = Checks.constraints(q);
        String points = Checks.points(q);
        Checks.due("set an input", q.setWitness(1, 7), true);
        values("one input", q, 1, 7, 0, 7, 21, 0, 0);
        Checks.due("set a product", q.setWitness(6, -1), true);
        values("and a product", q, 1, 7, 0, 7, 21, 0, Checks.P - 1);
        Checks.due("set it to P", q.setWitness(6, Checks.P), true);
        values("which is 0", q, 1, 7, 0, 7, 21, 0, 0);
        Checks.due("set the least int", q.setWitness(2, Checks.MIN), true);
        values("which is -1", q, 1, 7, Checks.P - 1, 6, 21, 0, 0);
        Checks.due("set P - 1", q.setWitness(1, Checks.P - 1), true);
        values("a sum beyond P", q, 1, Checks.P - 1, Checks.P - 1, Checks.P - 2, Checks.P - 3, 0, 0);
        Checks.same("constraints", Checks.constraints(q), constraints);
        Checks.same("points", Checks.points(q), points);
        Checks.due("phase", q.info(QapCompiler.INFO_COMPILED, 0), compiled ? 1 : 0);
    }

    private static void promise7WrongInputs(boolean compiled) {
        QapCompiler q = circuit(compiled);
        q.setWitness(1, 2);
        q.setWitness(2, 3);
        q.solve();
        q.divide();
        int[] wrong = {0, 3, 4, 7, 8, 9, 10, 31, 32, -1, Checks.MIN, Checks.P};
        for (int w : wrong) {
            Checks.refusedFalse(q, "setWitness(" + w + ", 1)", () -> q.setWitness(w, 1));
            Checks.refusedFalse(q, "setWitness(" + w + ", 5)", () -> q.setWitness(w, 5));
        }
        Checks.due("the quotient is kept", q.info(QUOTIENT, 0), compiled ? 1 : 0);
    }

    private static void promise7Quotient() {
        QapCompiler q = circuit(true);
        q.setWitness(1, 2);
        q.divide();
        Checks.due("there is a quotient", q.info(QUOTIENT, 0), 1);
        Checks.due("the same value", q.setWitness(1, 2), true);
        Checks.due("removes it", q.info(QUOTIENT, 0), 0);
        Checks.due("H is gone", q.coeff(QapCompiler.POLY_H, 0), -1);
        Checks.due("R is gone", q.evaluate(QapCompiler.POLY_R, 0), -1);
        Checks.due("no check", q.checkAt(1), -1);
        q.divide();
        Checks.due("another value", q.setWitness(5, 2), true);
        Checks.due("removes it too", q.info(QUOTIENT, 0), 0);
    }

    private static void promise8Solve(boolean compiled) {
        QapCompiler q = circuit(compiled);
        q.setWitness(1, 2);
        q.setWitness(2, 3);
        String constraints = Checks.constraints(q);
        String points = Checks.points(q);
        Checks.due("both products change", q.solve(), 2);
        values("solved", q, 1, 2, 3, 5, 6, 30, 900);
        Checks.due("satisfied", q.info(QapCompiler.INFO_SATISFIED, 0), 1);
        Checks.answersWithoutChange(q, "solve again", q::solve, 0);
        Checks.same("constraints", Checks.constraints(q), constraints);
        Checks.same("points", Checks.points(q), points);
        Checks.due("phase", q.info(QapCompiler.INFO_COMPILED, 0), compiled ? 1 : 0);
    }

    private static void promise8OverwritesAndCounts(boolean compiled) {
        QapCompiler q = circuit(compiled);
        q.setWitness(1, 2);
        q.setWitness(2, 3);
        q.setWitness(5, 30);
        q.setWitness(6, 1);
        Checks.due("only the last changes", q.solve(), 1);
        values("solved", q, 1, 2, 3, 5, 6, 30, 900);
        q.setWitness(5, -30);
        Checks.due("only the first changes", q.solve(), 1);
        values("solved again", q, 1, 2, 3, 5, 6, 30, 900);
        q.setWitness(2, -7);
        Checks.due("the first turns negative", q.solve(), 1);
        values("with another input", q, 1, 2, Checks.P - 7, Checks.P - 5, 6, Checks.P - 30, 900);
    }

    private static void promise8Quotient() {
        QapCompiler q = circuit(true);
        q.setWitness(1, 2);
        q.solve();
        q.divide();
        Checks.due("there is a quotient", q.info(QUOTIENT, 0), 1);
        Checks.due("nothing changes", q.solve(), 0);
        Checks.due("but the quotient goes", q.info(QUOTIENT, 0), 0);
        Checks.due("no check", q.checkAt(1), -1);
    }

    private static void promise8NothingToSolve() {
        QapCompiler q = new QapCompiler(8, 4);
        Checks.answersWithoutChange(q, "solve on a new object", q::solve, 0);
        q.addInput();
        q.setWitness(1, 4);
        q.addGate(QapCompiler.KIND_CMUL, 1, 4);
        q.assertEqual(1, 2);
        Checks.answersWithoutChange(q, "solve without products", q::solve, 0);
        q.compile();
        Checks.answersWithoutChange(q, "solve without products, compiled", q::solve, 0);
    }

    private static void promise8LargeValues() {
        int[] values = {Checks.P - 1, Checks.P - 2, 1073741824, 46341, 65536, 2000000011};
        for (int x : values) {
            for (int y : values) {
                QapCompiler q = new QapCompiler(8, 4);
                q.addInput();
                q.addInput();
                q.addGate(QapCompiler.KIND_MUL, 1, 2);
                q.setWitness(1, x);
                q.setWitness(2, y);
                q.solve();
                Checks.due(x + " * " + y, q.info(VALUE, 3), (long) x * y % Checks.P);
            }
        }
    }
}
