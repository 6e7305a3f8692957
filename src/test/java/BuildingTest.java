/** Promises 1 to 6: construction, addInput, addGate, assertEqual, setPoint, compile. */
public final class BuildingTest {
    private static final int ADD = QapCompiler.KIND_ADD;
    private static final int MUL = QapCompiler.KIND_MUL;
    private static final int CMUL = QapCompiler.KIND_CMUL;

    public static void main(String[] args) {
        promise1Clamping();
        promise1FreshState();
        promise1ObjectsAreApart();
        promise2AddInput();
        promise3Gates();
        promise3WrongInputs();
        promise3FullOfWires();
        promise3FullOfConstraints();
        promise3CmulConstants();
        promise3OrdinaryLeavesTheRest();
        promise4AssertEqual();
        promise4WrongInputs();
        promise5SetPoint();
        promise5WrongInputs();
        promise6Compile();
        promise6Frozen();
        Checks.finish();
    }

    private static void promise1Clamping() {
        int[] given = {Checks.MIN, -1, 0, 1, 3, 4, 5, 7, 8, 9, 15, 16, 17, 31, 32, 33, 100, Checks.P};
        int[] wires = {8, 8, 8, 8, 8, 8, 8, 8, 8, 9, 15, 16, 17, 31, 32, 32, 32, 32};
        int[] constraints = {4, 4, 4, 4, 4, 4, 5, 7, 8, 9, 15, 16, 16, 16, 16, 16, 16, 16};
        for (int i = 0; i < given.length; i++) {
            for (int k = 0; k < given.length; k++) {
                QapCompiler q = new QapCompiler(given[i], given[k]);
                String name = "new QapCompiler(" + given[i] + ", " + given[k] + ")";
                Checks.due(name + " maxWires", q.info(QapCompiler.INFO_MAX_WIRES, 0), wires[i]);
                Checks.due(name + " maxConstraints", q.info(QapCompiler.INFO_MAX_CONSTRAINTS, 0), constraints[k]);
                fill(name, q, wires[i], constraints[k]);
            }
        }
    }

    // The capacities are those that the calls keep to, and wire 0 counts.
    private static void fill(String name, QapCompiler q, int wires, int constraints) {
        for (int w = 1; w < wires; w++) {
            Checks.due(name + " addInput", q.addInput(), w);
        }
        Checks.due(name + " addInput beyond", q.addInput(), -1);
        for (int j = 0; j < constraints; j++) {
            Checks.due(name + " assertEqual", q.assertEqual(j % wires, 0), j);
        }
        Checks.due(name + " assertEqual beyond", q.assertEqual(0, 0), -1);
        Checks.due(name + " maxWires later", q.info(QapCompiler.INFO_MAX_WIRES, 0), wires);
        Checks.due(name + " maxConstraints later", q.info(QapCompiler.INFO_MAX_CONSTRAINTS, 0), constraints);
    }

    private static void promise1FreshState() {
        QapCompiler q = new QapCompiler(8, 4);
        Checks.same("fresh flags", Checks.flags(q), "compiled 0, quotient 0, satisfied 1, limits 8 4");
        Checks.same("fresh points", Checks.points(q), "points 1 2 3 4");
        Checks.same("fresh wires", Checks.wires(q), "wires 1: [0 1 | 1]");
        Checks.same("fresh constraints", Checks.constraints(q), "constraints 0:");
        QapCompiler wide = new QapCompiler(32, 16);
        Checks.same("wide points", Checks.points(wide), "points 1 2 3 4 5 6 7 8 9 10 11 12 13 14 15 16");
    }

    private static void promise1ObjectsAreApart() {
        QapCompiler one = new QapCompiler(8, 4);
        QapCompiler other = new QapCompiler(8, 4);
        String before = Checks.all(other);
        one.addInput();
        one.addGate(MUL, 1, 1);
        one.setWitness(1, 5);
        one.setPoint(0, 77);
        one.compile();
        one.divide();
        Checks.same("another object", Checks.all(other), before);
    }

    private static void promise2AddInput() {
        QapCompiler q = new QapCompiler(8, 4);
        Checks.due("first input", q.addInput(), 1);
        q.setWitness(1, 9);
        q.assertEqual(1, 0);
        String points = Checks.points(q);
        Checks.due("second input", q.addInput(), 2);
        Checks.same("two inputs", Checks.wires(q), "wires 3: [0 1 | 1 0 0] [1 9 | 0 1 0] [1 0 | 0 0 1]");
        Checks.same("constraints", Checks.constraints(q),
            "constraints 1: [ " + (Checks.P - 1) + " 1 0] [ 1 0 0] [ 0 0 0]");
        Checks.same("points", Checks.points(q), points);
        Checks.due("phase", q.info(QapCompiler.INFO_COMPILED, 0), 0);
        for (int w = 3; w < 8; w++) {
            Checks.due("input " + w, q.addInput(), w);
        }
        Checks.refused(q, "addInput when full", q::addInput);
        QapCompiler compiled = squareCompiled();
        Checks.refused(compiled, "addInput when compiled", compiled::addInput);
    }

    private static void promise3Gates() {
        QapCompiler q = new QapCompiler(16, 4);
        q.addInput();
        q.addInput();
        Checks.due("ADD", q.addGate(ADD, 1, 0), 3);
        Checks.due("CMUL", q.addGate(CMUL, 3, -2), 4);
        Checks.due("MUL", q.addGate(MUL, 4, 2), 5);
        Checks.due("ADD of itself", q.addGate(ADD, 5, 5), 6);
        Checks.due("MUL of itself", q.addGate(MUL, 6, 6), 7);
        Checks.due("MUL of one", q.addGate(MUL, 0, 0), 8);
        int[] kinds = {0, 1, 1, 2, 4, 3, 2, 3, 3};
        for (int w = 0; w < kinds.length; w++) {
            Checks.due("kind " + w, q.info(QapCompiler.INFO_KIND, w), kinds[w]);
        }
        Checks.due("constraints", q.info(QapCompiler.INFO_CONSTRAINTS, 0), 3);
        Checks.due("form of CMUL at 0", q.linearForm(4, 0), Checks.P - 2);
        Checks.due("form of CMUL at 1", q.linearForm(4, 1), Checks.P - 2);
        Checks.due("form of CMUL at 2", q.linearForm(4, 2), 0);
        Checks.due("form of ADD at 5", q.linearForm(6, 5), 2);
        Checks.due("A 0 at 0", q.matrixEntry(0, 0, 0), Checks.P - 2);
        Checks.due("A 0 at 1", q.matrixEntry(0, 0, 1), Checks.P - 2);
        Checks.due("B 0 at 2", q.matrixEntry(1, 0, 2), 1);
        Checks.due("C 0 at 5", q.matrixEntry(2, 0, 5), 1);
        Checks.due("A 1 at 5", q.matrixEntry(0, 1, 5), 2);
        Checks.due("B 1 at 5", q.matrixEntry(1, 1, 5), 2);
        Checks.due("C 1 at 7", q.matrixEntry(2, 1, 7), 1);
        Checks.due("A 2 at 0", q.matrixEntry(0, 2, 0), 1);
        Checks.due("B 2 at 0", q.matrixEntry(1, 2, 0), 1);
        Checks.due("C 2 at 8", q.matrixEntry(2, 2, 8), 1);
        Checks.due("the new MUL holds 0", q.info(QapCompiler.INFO_VALUE, 8), 0);
    }

    private static void promise3WrongInputs() {
        QapCompiler q = new QapCompiler(16, 4);
        q.addInput();
        q.addGate(MUL, 1, 1);
        int[] kinds = {Checks.MIN, -1, QapCompiler.KIND_ONE, QapCompiler.KIND_INPUT, 5, 6, Checks.P};
        for (int kind : kinds) {
            Checks.refused(q, "addGate of kind " + kind, () -> q.addGate(kind, 1, 1));
        }
        int[] operands = {Checks.MIN, -1, 3, 4, 31, 32, Checks.P};
        for (int operand : operands) {
            for (int kind = ADD; kind <= CMUL; kind++) {
                int k = kind;
                Checks.refused(q, "addGate " + k + " of " + operand, () -> q.addGate(k, operand, 1));
            }
            Checks.refused(q, "ADD with " + operand, () -> q.addGate(ADD, 1, operand));
            Checks.refused(q, "MUL with " + operand, () -> q.addGate(MUL, 1, operand));
        }
        QapCompiler compiled = squareCompiled();
        for (int kind = ADD; kind <= CMUL; kind++) {
            int k = kind;
            Checks.refused(compiled, "addGate " + k + " when compiled", () -> compiled.addGate(k, 1, 1));
        }
    }

    private static void promise3FullOfWires() {
        QapCompiler q = new QapCompiler(8, 4);
        for (int w = 1; w < 7; w++) {
            q.addInput();
        }
        Checks.due("the last wire", q.addGate(MUL, 6, 5), 7);
        for (int kind = ADD; kind <= CMUL; kind++) {
            int k = kind;
            Checks.refused(q, "addGate " + k + " when full", () -> q.addGate(k, 1, 1));
        }
    }

    private static void promise3FullOfConstraints() {
        QapCompiler q = new QapCompiler(16, 4);
        for (int j = 0; j < 4; j++) {
            Checks.due("MUL " + j, q.addGate(MUL, 0, 0), j + 1);
        }
        Checks.refused(q, "a fifth MUL", () -> q.addGate(MUL, 0, 0));
        Checks.due("ADD needs no constraint", q.addGate(ADD, 1, 2), 5);
        Checks.due("CMUL needs no constraint", q.addGate(CMUL, 1, 2), 6);
        Checks.due("an input needs none", q.addInput(), 7);
        Checks.due("constraints", q.info(QapCompiler.INFO_CONSTRAINTS, 0), 4);
    }

    private static void promise3CmulConstants() {
        int[] given = {0, 1, -1, Checks.P, Checks.P - 1, -Checks.P, 1 - Checks.P, Checks.MIN, 12345, -12345};
        int[] reduced = {0, 1, Checks.P - 1, 0, Checks.P - 1, 0, 1, Checks.P - 1, 12345, Checks.P - 12345};
        for (int i = 0; i < given.length; i++) {
            QapCompiler q = new QapCompiler(8, 4);
            Checks.due("CMUL by " + given[i], q.addGate(CMUL, 0, given[i]), 1);
            Checks.due("its form", q.linearForm(1, 0), reduced[i]);
            Checks.due("its value", q.info(QapCompiler.INFO_VALUE, 1), reduced[i]);
            q.addGate(ADD, 1, 1);
            Checks.due("twice", q.linearForm(2, 0), 2L * reduced[i] % Checks.P);
            q.addGate(CMUL, 1, given[i]);
            Checks.due("squared", q.linearForm(3, 0), (long) reduced[i] * reduced[i] % Checks.P);
        }
    }

    private static void promise3OrdinaryLeavesTheRest() {
        for (int kind = ADD; kind <= CMUL; kind++) {
            QapCompiler q = new QapCompiler(8, 4);
            q.addInput();
            q.addGate(MUL, 1, 1);
            q.setWitness(1, 6);
            q.setWitness(2, 7);
            q.setPoint(3, 99);
            String points = Checks.points(q);
            q.addGate(kind, 2, 1);
            Checks.same("points after " + kind, Checks.points(q), points);
            Checks.due("value 1 after " + kind, q.info(QapCompiler.INFO_VALUE, 1), 6);
            Checks.due("value 2 after " + kind, q.info(QapCompiler.INFO_VALUE, 2), 7);
            Checks.due("A after " + kind, q.matrixEntry(0, 0, 1), 1);
            Checks.due("C after " + kind, q.matrixEntry(2, 0, 2), 1);
            Checks.due("wires after " + kind, q.info(QapCompiler.INFO_WIRES, 0), 4);
            Checks.due("constraints after " + kind, q.info(QapCompiler.INFO_CONSTRAINTS, 0), kind == MUL ? 2 : 1);
        }
    }

    private static void promise4AssertEqual() {
        QapCompiler q = new QapCompiler(8, 4);
        q.addInput();
        q.addInput();
        q.addGate(CMUL, 1, 5);
        q.addGate(ADD, 3, 0);
        q.setWitness(1, 2);
        q.setWitness(2, 11);
        String wires = Checks.wires(q);
        String points = Checks.points(q);
        Checks.due("5x + 1 = y", q.assertEqual(4, 2), 0);
        Checks.due("holds", q.info(QapCompiler.INFO_SATISFIED, 0), 1);
        Checks.due("y = 5x + 1", q.assertEqual(2, 4), 1);
        Checks.due("holds too", q.info(QapCompiler.INFO_SATISFIED, 0), 1);
        Checks.due("y = y", q.assertEqual(2, 2), 2);
        Checks.due("holds always", q.info(QapCompiler.INFO_SATISFIED, 0), 1);
        Checks.same("wires", Checks.wires(q), wires);
        Checks.same("points", Checks.points(q), points);
        int minus = Checks.P - 1;
        Checks.same("rows", Checks.constraints(q), "constraints 3:"
            + " [ 1 5 " + minus + " -1 -1] [ " + minus + " " + (Checks.P - 5) + " 1 -1 -1] [ 0 0 0 -1 -1]"
            + " [ 1 0 0 -1 -1] [ 1 0 0 -1 -1] [ 1 0 0 -1 -1]"
            + " [ 0 0 0 -1 -1] [ 0 0 0 -1 -1] [ 0 0 0 -1 -1]");
        Checks.due("x = y", q.assertEqual(1, 2), 3);
        Checks.due("does not hold", q.info(QapCompiler.INFO_SATISFIED, 0), 0);
    }

    private static void promise4WrongInputs() {
        QapCompiler q = new QapCompiler(8, 4);
        q.addInput();
        int[] operands = {Checks.MIN, -1, 2, 3, 8, 31, 32, Checks.P};
        for (int operand : operands) {
            Checks.refused(q, "assertEqual(" + operand + ", 1)", () -> q.assertEqual(operand, 1));
            Checks.refused(q, "assertEqual(1, " + operand + ")", () -> q.assertEqual(1, operand));
            Checks.refused(q, "assertEqual(both " + operand + ")", () -> q.assertEqual(operand, operand));
        }
        for (int j = 0; j < 4; j++) {
            Checks.due("assertEqual " + j, q.assertEqual(0, 1), j);
        }
        Checks.refused(q, "a fifth assertion", () -> q.assertEqual(0, 1));
        QapCompiler compiled = squareCompiled();
        Checks.refused(compiled, "assertEqual when compiled", () -> compiled.assertEqual(1, 1));
    }

    private static void promise5SetPoint() {
        QapCompiler q = new QapCompiler(8, 4);
        q.addGate(MUL, 0, 0);
        String wires = Checks.wires(q);
        String constraints = Checks.constraints(q);
        Checks.due("set 0 to 100", q.setPoint(0, 100), true);
        Checks.due("set 0 to 100 again", q.setPoint(0, 100), true);
        Checks.due("set 0 to 100 + nothing", q.setPoint(0, 100 - Checks.P), true);
        Checks.due("the first point is free now", q.setPoint(3, 1), true);
        Checks.same("points", Checks.points(q), "points 100 2 3 1");
        Checks.due("a point is 0", q.setPoint(1, Checks.P), true);
        Checks.due("a point is -1", q.setPoint(2, Checks.MIN), true);
        Checks.same("points", Checks.points(q), "points 100 0 2147483646 1");
        Checks.same("wires", Checks.wires(q), wires);
        Checks.same("constraints", Checks.constraints(q), constraints);
    }

    private static void promise5WrongInputs() {
        QapCompiler q = new QapCompiler(8, 4);
        q.setPoint(0, -1);
        q.setPoint(1, 0);
        int[] indices = {Checks.MIN, -1, 4, 5, 15, 16, Checks.P};
        for (int j : indices) {
            Checks.refusedFalse(q, "setPoint(" + j + ", 50)", () -> q.setPoint(j, 50));
        }
        int[] taken = {-1, Checks.P - 1, Checks.MIN, 0, Checks.P, -Checks.P, 3, 4, 3 - Checks.P, 4 - Checks.P};
        int[] holders = {0, 0, 0, 1, 1, 1, 2, 3, 2, 3};
        for (int i = 0; i < taken.length; i++) {
            for (int j = 0; j < 4; j++) {
                int index = j;
                int value = taken[i];
                if (j != holders[i]) {
                    Checks.refusedFalse(q, "setPoint(" + j + ", " + value + ")", () -> q.setPoint(index, value));
                }
            }
        }
        Checks.due("5 belongs to no point of a small object", q.setPoint(2, 5), true);
        QapCompiler compiled = squareCompiled();
        Checks.refusedFalse(compiled, "setPoint when compiled", () -> compiled.setPoint(0, 50));
        Checks.refusedFalse(compiled, "setPoint to itself when compiled", () -> compiled.setPoint(0, 1));
        Checks.refusedFalse(compiled, "setPoint beyond m when compiled", () -> compiled.setPoint(3, 50));
    }

    private static void promise6Compile() {
        QapCompiler q = new QapCompiler(8, 4);
        Checks.refused(q, "compile without constraints", q::compile);
        q.addInput();
        Checks.refused(q, "compile with an input alone", q::compile);
        q.addGate(MUL, 1, 1);
        q.addGate(ADD, 2, 0);
        q.assertEqual(3, 1);
        q.setWitness(1, 3);
        q.setWitness(2, 4);
        q.setPoint(1, 1000);
        String wires = Checks.wires(q);
        String constraints = Checks.constraints(q);
        String points = Checks.points(q);
        Checks.due("Z before", q.coeff(QapCompiler.POLY_Z, 2), -1);
        Checks.due("compile", q.compile(), 2);
        Checks.same("wires", Checks.wires(q), wires);
        Checks.same("constraints", Checks.constraints(q), constraints);
        Checks.same("points", Checks.points(q), points);
        Checks.same("flags", Checks.flags(q), "compiled 1, quotient 0, satisfied 0, limits 8 4");
        Checks.due("Z 0", q.coeff(QapCompiler.POLY_Z, 0), 1000);
        Checks.due("Z 1", q.coeff(QapCompiler.POLY_Z, 1), Checks.P - 1001);
        Checks.due("Z 2", q.coeff(QapCompiler.POLY_Z, 2), 1);
        Checks.due("A at point 0", q.evaluate(QapCompiler.POLY_A, 1), 3);
        Checks.due("A at point 1", q.evaluate(QapCompiler.POLY_A, 1000), 2);
        Checks.due("P at point 0", q.evaluate(QapCompiler.POLY_P, 1), 5);
        Checks.due("column of wire 1 at k = 0", q.columnCoeff(0, 1, 0) >= 0, true);
        Checks.due("no quotient", q.coeff(QapCompiler.POLY_H, 0), -1);
        Checks.refused(q, "compile again", q::compile);
        q.divide();
        Checks.refused(q, "compile with a quotient", q::compile);
    }

    private static void promise6Frozen() {
        QapCompiler q = squareCompiled();
        q.setWitness(1, 4);
        q.solve();
        q.divide();
        Checks.refused(q, "addInput", q::addInput);
        Checks.refused(q, "addGate", () -> q.addGate(CMUL, 0, 1));
        Checks.refused(q, "assertEqual", () -> q.assertEqual(0, 0));
        Checks.refusedFalse(q, "setPoint", () -> q.setPoint(2, 1234));
        Checks.due("the witness may change", q.setWitness(1, 5), true);
        Checks.due("it changed", q.info(QapCompiler.INFO_VALUE, 1), 5);
        Checks.due("still compiled", q.info(QapCompiler.INFO_COMPILED, 0), 1);
    }

    private static QapCompiler squareCompiled() {
        QapCompiler q = new QapCompiler(8, 4);
        q.addInput();
        q.addGate(MUL, 1, 1);
        q.compile();
        return q;
    }
}
