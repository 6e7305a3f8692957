/** Promises 1 to 6: a test for each sentence that names a boundary case. */
public final class BuildingBoundaryTest {
    private static final int ADD = Circuits.ADD;
    private static final int MUL = Circuits.MUL;
    private static final int CMUL = Circuits.CMUL;
    private static final int P = Checks.P;
    private static final int[] NO_INDEX = {Checks.MIN, -32, -2, -1, 32, 33, 64, 1024, P};

    public static void main(String[] args) {
        promise1NeverFails();
        promise1WiresBelow();
        promise1WiresAbove();
        promise1CountsWireZero();
        promise1ConstraintsBelow();
        promise1ConstraintsAbove();
        promise1Capacity();
        promise1AnyInt();
        promise1ClampsStay();
        promise1FreshCounts();
        promise1FreshPhase();
        promise1FreshPoints();
        promise1FreshSatisfied();
        promise2MakesInput();
        promise2Compiled();
        promise2Full();
        promise2TestsInOrder();
        promise2Answer();
        promise2NewVariable();
        promise2NothingElse();
        promise3Kinds();
        promise3AnyConstant();
        promise3Test1();
        promise3Test2();
        promise3Test3();
        promise3Test4();
        promise3Test4NotForCmul();
        promise3Test5();
        promise3Test6();
        promise3TestsInOrder();
        promise3Answer();
        promise3MulMakesConstraint();
        promise3OthersMakeNone();
        promise3NothingElse();
        promise4MeansEqual();
        promise4Compiled();
        promise4Operands();
        promise4Full();
        promise4TestsInOrder();
        promise4Answer();
        promise4SameWire();
        promise4NoWire();
        promise5Reduces();
        promise5Compiled();
        promise5Index();
        promise5Taken();
        promise5TakenByPointsNotInUse();
        promise5NotTakenBeyond();
        promise5TestsInOrder();
        promise5OwnValue();
        promise5BeyondM();
        promise5NothingElse();
        promise6Compiled();
        promise6Empty();
        promise6Answer();
        promise6Defines();
        promise6ChangesNothing();
        Checks.finish();
    }

    private static void limits(int maxWires, int maxConstraints, int wires, int constraints) {
        QapCompiler q = new QapCompiler(maxWires, maxConstraints);
        String name = "new QapCompiler(" + maxWires + ", " + maxConstraints + ")";
        Checks.due(name + " maxWires", q.info(QapCompiler.INFO_MAX_WIRES, 0), wires);
        Checks.due(name + " maxConstraints", q.info(QapCompiler.INFO_MAX_CONSTRAINTS, 0), constraints);
    }

    private static QapCompiler fullOfWires() {
        QapCompiler q = new QapCompiler(8, 4);
        for (int w = 1; w < 8; w++) {
            q.addInput();
        }
        return q;
    }

    private static QapCompiler fullOfConstraints() {
        QapCompiler q = new QapCompiler(8, 4);
        for (int j = 0; j < 4; j++) {
            q.assertEqual(0, 0);
        }
        return q;
    }

    private static void promise1NeverFails() {
        Checks.sentence("Promise 1", "`QapCompiler(maxWires, maxConstraints)` never fails.");
        for (int maxWires = -40; maxWires <= 40; maxWires++) {
            for (int maxConstraints = -40; maxConstraints <= 40; maxConstraints++) {
                int wires = Math.max(8, Math.min(32, maxWires));
                int constraints = Math.max(4, Math.min(16, maxConstraints));
                limits(maxWires, maxConstraints, wires, constraints);
            }
        }
    }

    private static void promise1WiresBelow() {
        Checks.sentence("Promise 1", "maxWires is clamped into [8, 32] (below 8 becomes 8");
        for (int below : new int[] {Checks.MIN, -8, -1, 0, 1, 4, 7}) {
            limits(below, 10, 8, 10);
        }
        limits(8, 10, 8, 10);
        limits(9, 10, 9, 10);
    }

    private static void promise1WiresAbove() {
        Checks.sentence("Promise 1", "above 32 becomes 32)");
        limits(31, 10, 31, 10);
        limits(32, 10, 32, 10);
        for (int above : new int[] {33, 64, 1000, P - 1, P}) {
            limits(above, 10, 32, 10);
        }
    }

    private static void promise1CountsWireZero() {
        Checks.sentence("Promise 1", "and counts wire 0.");
        for (int size = 8; size <= 32; size++) {
            QapCompiler q = new QapCompiler(size, 4);
            for (int w = 1; w < size; w++) {
                Checks.due("wire " + w + " of " + size, q.addInput(), w);
            }
            Checks.due("wires of " + size, q.info(QapCompiler.INFO_WIRES, 0), size);
            Checks.refused(q, "a wire more than " + size, q::addInput);
        }
    }

    private static void promise1ConstraintsBelow() {
        Checks.sentence("Promise 1", "maxConstraints is clamped into [4, 16] the same way. (below)");
        for (int below : new int[] {Checks.MIN, -4, -1, 0, 1, 3}) {
            limits(20, below, 20, 4);
        }
        limits(20, 4, 20, 4);
        limits(20, 5, 20, 5);
    }

    private static void promise1ConstraintsAbove() {
        Checks.sentence("Promise 1", "maxConstraints is clamped into [4, 16] the same way. (above)");
        limits(20, 15, 20, 15);
        limits(20, 16, 20, 16);
        for (int above : new int[] {17, 32, 1000, P - 1, P}) {
            limits(20, above, 20, 16);
        }
    }

    private static void promise1Capacity() {
        Checks.sentence("Promise 1", "maxConstraints is clamped into [4, 16] the same way. (how many there can be)");
        for (int size = 4; size <= 16; size++) {
            QapCompiler q = new QapCompiler(8, size);
            for (int j = 0; j < size; j++) {
                Checks.due("constraint " + j + " of " + size, q.assertEqual(0, 0), j);
            }
            Checks.due("constraints of " + size, q.info(QapCompiler.INFO_CONSTRAINTS, 0), size);
            Checks.refused(q, "a constraint more than " + size, () -> q.assertEqual(0, 0));
        }
    }

    private static void promise1AnyInt() {
        Checks.sentence("Promise 1", "Any int is accepted, including negative values and extremes.");
        limits(Checks.MIN, Checks.MIN, 8, 4);
        limits(Checks.MIN, P, 8, 16);
        limits(P, Checks.MIN, 32, 4);
        limits(P, P, 32, 16);
        limits(-1, -1, 8, 4);
        QapCompiler least = new QapCompiler(Checks.MIN, Checks.MIN);
        Checks.due("the least object works", least.addGate(MUL, 0, 0), 1);
        Checks.due("and compiles", least.compile(), 1);
        QapCompiler greatest = new QapCompiler(P, P);
        Checks.due("the greatest object works", greatest.addGate(MUL, 0, 0), 1);
        Checks.due("and compiles", greatest.compile(), 1);
    }

    private static void promise1ClampsStay() {
        Checks.sentence("Promise 1", "The clamped values never change afterwards.");
        QapCompiler q = new QapCompiler(11, 6);
        String due = "limits 11 6";
        q.addInput();
        q.addGate(MUL, 1, 1);
        q.assertEqual(1, 2);
        stay("building", q, due);
        for (int i = 0; i < 20; i++) {
            q.addInput();
            q.assertEqual(1, 2);
            stay("more or none", q, due);
        }
        stay("full", q, due);
        q.setPoint(5, 1000);
        q.compile();
        stay("compiled", q, due);
        q.setWitness(1, 8);
        q.solve();
        q.divide();
        stay("divided", q, due);
    }

    private static void stay(String when, QapCompiler q, String due) {
        String limits = "limits " + q.info(QapCompiler.INFO_MAX_WIRES, 0)
            + " " + q.info(QapCompiler.INFO_MAX_CONSTRAINTS, 0);
        Checks.same(when, limits, due);
    }

    private static void promise1FreshCounts() {
        Checks.sentence("Promise 1", "Fresh state: wireCount = 1 (wire 0, of kind KIND_ONE), m = 0");
        QapCompiler q = new QapCompiler(8, 4);
        Checks.due("wireCount", q.info(QapCompiler.INFO_WIRES, 0), 1);
        Checks.due("kind of wire 0", q.info(QapCompiler.INFO_KIND, 0), QapCompiler.KIND_ONE);
        Checks.due("kind of wire 1", q.info(QapCompiler.INFO_KIND, 1), -1);
        Checks.due("m", q.info(QapCompiler.INFO_CONSTRAINTS, 0), 0);
        Checks.due("an entry of constraint 0", q.matrixEntry(0, 0, 0), -1);
    }

    private static void promise1FreshPhase() {
        Checks.sentence("Promise 1", "BUILDING, no quotient");
        QapCompiler q = new QapCompiler(8, 4);
        Checks.due("COMPILED", q.info(QapCompiler.INFO_COMPILED, 0), 0);
        Checks.due("quotient", q.info(QapCompiler.INFO_HAS_QUOTIENT, 0), 0);
        Checks.due("checkAt", q.checkAt(0), -1);
        Checks.due("Z", q.coeff(QapCompiler.POLY_Z, 0), -1);
    }

    private static void promise1FreshPoints() {
        Checks.sentence("Promise 1", "point[j] = j+1 for every j in [0, maxConstraints)");
        int[] given = {Checks.MIN, 0, 4, 7, 16, 17, P};
        int[] sizes = {4, 4, 4, 7, 16, 16, 16};
        for (int i = 0; i < given.length; i++) {
            QapCompiler q = new QapCompiler(8, given[i]);
            for (int j = 0; j < sizes[i]; j++) {
                Checks.due("point " + j, q.info(QapCompiler.INFO_POINT, j), j + 1);
            }
            Checks.due("a point more", q.info(QapCompiler.INFO_POINT, sizes[i]), -1);
        }
    }

    private static void promise1FreshSatisfied() {
        Checks.sentence("Promise 1", "The fresh object is SATISFIED (m = 0).");
        for (int size : new int[] {Checks.MIN, 8, 32, P}) {
            Checks.due("size " + size, new QapCompiler(size, size).info(QapCompiler.INFO_SATISFIED, 0), 1);
        }
    }

    private static void promise2MakesInput() {
        Checks.sentence("Promise 2", "Makes a new INPUT wire with stored value 0.");
        QapCompiler q = new QapCompiler(32, 4);
        for (int w = 1; w < 32; w++) {
            q.addInput();
            Checks.due("kind of " + w, q.info(QapCompiler.INFO_KIND, w), QapCompiler.KIND_INPUT);
            Checks.due("value of " + w, q.info(QapCompiler.INFO_VALUE, w), 0);
            q.setWitness(w, 50 + w);
        }
    }

    private static void promise2Compiled() {
        Checks.sentence("Promise 2", "COMPILED -> -1");
        QapCompiler q = Circuits.mixed();
        Checks.due("while building", q.addInput(), 7);
        q.compile();
        Checks.refused(q, "addInput when compiled, with room for it", q::addInput);
        QapCompiler divided = Circuits.mixedDivided();
        Checks.refused(divided, "addInput with a quotient", divided::addInput);
    }

    private static void promise2Full() {
        Checks.sentence("Promise 2", "wireCount = maxWires -> -1");
        for (int size = 8; size <= 32; size++) {
            QapCompiler q = new QapCompiler(size, 4);
            for (int w = 1; w < size; w++) {
                Checks.due("with room for it", w % 2 == 0 ? q.addInput() : q.addGate(ADD, 0, 0), w);
            }
            Checks.refused(q, "addInput when full of " + size, q::addInput);
            Checks.refused(q, "addInput again", q::addInput);
        }
    }

    private static void promise2TestsInOrder() {
        Checks.sentence("Promise 2", "Tests in order");
        QapCompiler q = fullOfWires();
        q.assertEqual(1, 0);
        Checks.refused(q, "full, not compiled", q::addInput);
        q.compile();
        Checks.refused(q, "compiled and full", q::addInput);
    }

    private static void promise2Answer() {
        Checks.sentence("Promise 2", "Otherwise the new wire gets index wireCount, wireCount grows by 1, "
            + "and the answer is the new index.");
        QapCompiler q = Circuits.mixed();
        for (int w = 7; w < 10; w++) {
            Checks.due("addInput", q.addInput(), w);
            Checks.due("wireCount", q.info(QapCompiler.INFO_WIRES, 0), w + 1);
        }
        Checks.due("addInput when full of constraints", fullOfConstraints().addInput(), 1);
    }

    private static void promise2NewVariable() {
        Checks.sentence("Promise 2", "The new wire is a variable.");
        QapCompiler q = Circuits.mixed();
        Checks.due("before", q.linearForm(1, 7), -1);
        q.addInput();
        Checks.due("its own form", q.linearForm(7, 7), 1);
        Checks.due("another's form", q.linearForm(1, 7), 0);
        Checks.due("an entry", q.matrixEntry(QapCompiler.MATRIX_A, 2, 7), 0);
        Checks.due("it can be set", q.setWitness(7, 5), true);
        q.compile();
        Checks.due("its column", q.columnCoeff(QapCompiler.MATRIX_A, 7, 0), 0);
    }

    private static void promise2NothingElse() {
        Checks.sentence("Promise 2", "Nothing else changes: m, the points, the other stored values and the phase "
            + "stay as they were.");
        QapCompiler q = Circuits.mixed();
        q.setPoint(2, -9);
        q.setWitness(1, 3);
        q.setWitness(5, 4);
        String points = Checks.points(q);
        q.addInput();
        Checks.due("m", q.info(QapCompiler.INFO_CONSTRAINTS, 0), 3);
        Checks.same("points", Checks.points(q), points);
        int[] values = {1, 3, 0, 3, P - 9, 4, 0, 0};
        for (int w = 0; w < values.length; w++) {
            Checks.due("value of " + w, q.info(QapCompiler.INFO_VALUE, w), values[w]);
        }
        Checks.due("phase", q.info(QapCompiler.INFO_COMPILED, 0), 0);
        Checks.due("not SATISFIED as before", q.info(QapCompiler.INFO_SATISFIED, 0), 0);
        for (int size = 8; size <= 32; size++) {
            addInputUntilFull(size);
        }
    }

    private static void addInputUntilFull(int size) {
        QapCompiler q = new QapCompiler(size, 4);
        q.addGate(MUL, 0, 0);
        q.assertEqual(1, 0);
        String points = Checks.points(q);
        for (int w = 2; w < size; w++) {
            String before = wiresAndRows(q, w, 2);
            q.addInput();
            Checks.same("older wires than " + w + " of " + size, wiresAndRows(q, w, 2), before);
            Checks.due("m after " + w + " of " + size, q.info(QapCompiler.INFO_CONSTRAINTS, 0), 2);
            Checks.same("points after " + w + " of " + size, Checks.points(q), points);
            q.setWitness(w, 100 + w);
        }
    }

    private static void promise3Kinds() {
        Checks.sentence("Promise 3", "kind KIND_ADD: ADD(a,b); KIND_MUL: MUL(a,b); "
            + "KIND_CMUL: CMUL(a,b) where b is the constant");
        int[] kinds = {ADD, MUL, CMUL};
        int[] values = {P - 2, P - 3, P - 6};
        for (int i = 0; i < kinds.length; i++) {
            QapCompiler q = new QapCompiler(8, 4);
            q.addInput();
            q.addInput();
            q.setWitness(1, -3);
            q.setWitness(2, 1);
            Checks.due("gate of kind " + kinds[i], q.addGate(kinds[i], 1, 2), 3);
            Checks.due("its kind", q.info(QapCompiler.INFO_KIND, 3), kinds[i]);
            q.solve();
            Checks.due("its value", q.info(QapCompiler.INFO_VALUE, 3), values[i]);
        }
    }

    private static void promise3AnyConstant() {
        Checks.sentence("Promise 3", "(any int, used as reduce(b))");
        for (int b : Circuits.EDGES) {
            QapCompiler q = new QapCompiler(8, 4);
            q.addInput();
            Checks.due("CMUL by " + b, q.addGate(CMUL, 1, b), 2);
            Checks.due("form by " + b, q.linearForm(2, 1), Circuits.reduced(b));
        }
    }

    private static void promise3Test1() {
        Checks.sentence("Promise 3", "1. COMPILED -> -1");
        for (int kind = ADD; kind <= CMUL; kind++) {
            int k = kind;
            QapCompiler q = Circuits.mixedCompiled();
            Checks.refused(q, "kind " + k + " when compiled", () -> q.addGate(k, 1, 1));
            QapCompiler divided = Circuits.mixedDivided();
            Checks.refused(divided, "kind " + k + " with a quotient", () -> divided.addGate(k, 0, 0));
        }
    }

    private static void promise3Test2() {
        Checks.sentence("Promise 3", "2. kind not one of KIND_ADD, KIND_MUL, KIND_CMUL -> -1 "
            + "(so KIND_ONE and KIND_INPUT are refused here)");
        QapCompiler q = Circuits.mixed();
        int[] kinds = {Checks.MIN, -3, -1, QapCompiler.KIND_ONE, QapCompiler.KIND_INPUT, 5, 6, 7, 8, P};
        for (int kind : kinds) {
            Checks.refused(q, "kind " + kind, () -> q.addGate(kind, 0, 0));
        }
    }

    private static void promise3Test3() {
        Checks.sentence("Promise 3", "3. a not in [0, wireCount) -> -1");
        for (int kind = ADD; kind <= CMUL; kind++) {
            int k = kind;
            QapCompiler q = Circuits.mixed();
            for (int a : NO_INDEX) {
                Checks.refused(q, "kind " + k + " of " + a, () -> q.addGate(k, a, 0));
            }
            Checks.refused(q, "kind " + k + " of wireCount", () -> q.addGate(k, 7, 0));
            Checks.refused(q, "kind " + k + " of maxWires - 1", () -> q.addGate(k, 9, 0));
            Checks.due("kind " + k + " of the last", q.addGate(k, 6, 0), 7);
            Checks.due("kind " + k + " of the first", q.addGate(k, 0, 0), 8);
        }
    }

    private static void promise3Test4() {
        Checks.sentence("Promise 3", "4. kind ADD or MUL and b not in [0, wireCount) -> -1");
        for (int kind = ADD; kind <= MUL; kind++) {
            int k = kind;
            QapCompiler q = Circuits.mixed();
            for (int b : NO_INDEX) {
                Checks.refused(q, "kind " + k + " with " + b, () -> q.addGate(k, 0, b));
            }
            Checks.refused(q, "kind " + k + " with wireCount", () -> q.addGate(k, 0, 7));
            Checks.refused(q, "kind " + k + " with maxWires - 1", () -> q.addGate(k, 0, 9));
            Checks.due("kind " + k + " with the last", q.addGate(k, 0, 6), 7);
            Checks.due("kind " + k + " with the first", q.addGate(k, 0, 0), 8);
        }
    }

    private static void promise3Test4NotForCmul() {
        Checks.sentence("Promise 3", "(for CMUL, b is never tested)");
        for (int b : new int[] {Checks.MIN, -2, -1, 2, 3, 8, 31, 32, 33, 1000, P}) {
            QapCompiler q = new QapCompiler(8, 4);
            q.addInput();
            Checks.due("CMUL with " + b, q.addGate(CMUL, 1, b), 2);
            Checks.due("is made", q.info(QapCompiler.INFO_WIRES, 0), 3);
        }
    }

    private static void promise3Test5() {
        Checks.sentence("Promise 3", "5. wireCount = maxWires -> -1");
        for (int size = 8; size <= 32; size++) {
            for (int kind = ADD; kind <= CMUL; kind++) {
                int k = kind;
                QapCompiler q = new QapCompiler(size, 4);
                for (int w = 1; w < size - 1; w++) {
                    q.addInput();
                }
                Checks.due("the last of " + size, q.addGate(k, size - 2, 0), size - 1);
                Checks.refused(q, "kind " + k + " in a full " + size, () -> q.addGate(k, 0, 0));
            }
        }
    }

    private static void promise3Test6() {
        Checks.sentence("Promise 3", "6. kind MUL and m = maxConstraints -> -1");
        for (int size = 4; size <= 16; size++) {
            QapCompiler q = new QapCompiler(32, size);
            for (int j = 0; j < size - 1; j++) {
                q.assertEqual(0, 0);
            }
            Checks.due("the last constraint of " + size, q.addGate(MUL, 0, 0), 1);
            Checks.refused(q, "MUL in a full " + size, () -> q.addGate(MUL, 0, 0));
            Checks.due("ADD in a full " + size, q.addGate(ADD, 0, 0), 2);
            Checks.due("CMUL in a full " + size, q.addGate(CMUL, 0, 5), 3);
            Checks.refused(q, "MUL, still", () -> q.addGate(MUL, 0, 0));
            Checks.due("the next wire is whole", q.addInput(), 4);
            Checks.due("with its own form", q.linearForm(4, 4), 1);
            Checks.due("and no other", q.linearForm(4, 0), 0);
        }
    }

    private static void promise3TestsInOrder() {
        Checks.sentence("Promise 3", "Tests in order");
        QapCompiler q = fullOfWires();
        for (int j = 0; j < 4; j++) {
            q.assertEqual(0, 0);
        }
        Checks.refused(q, "full twice", () -> q.addGate(MUL, 0, 0));
        Checks.refused(q, "full, b wrong", () -> q.addGate(MUL, 0, 8));
        Checks.refused(q, "full, a and b wrong", () -> q.addGate(ADD, -1, P));
        Checks.refused(q, "full, all wrong", () -> q.addGate(5, Checks.MIN, P));
        q.compile();
        Checks.refused(q, "compiled, full, all wrong", () -> q.addGate(-1, P, Checks.MIN));
        Checks.refused(q, "compiled, full", () -> q.addGate(MUL, 0, 0));
    }

    private static void promise3Answer() {
        Checks.sentence("Promise 3", "Otherwise the new wire gets index wireCount and wireCount grows by 1. "
            + "[..] The answer is the new wire index.");
        QapCompiler q = new QapCompiler(32, 16);
        for (int w = 1; w < 32; w++) {
            int kind = w <= 16 ? MUL : ADD + w % 2 * 2;
            Checks.due("addGate of kind " + kind, q.addGate(kind, w - 1, w - 1), w);
            Checks.due("wireCount", q.info(QapCompiler.INFO_WIRES, 0), w + 1);
        }
    }

    private static void promise3MulMakesConstraint() {
        Checks.sentence("Promise 3", "For MUL, its stored value is 0 and constraint m is made for it "
            + "(rows as in Terms), and m grows by 1.");
        QapCompiler q = new QapCompiler(32, 16);
        q.addInput();
        q.setWitness(1, 9);
        for (int j = 0; j < 16; j++) {
            int w = q.addGate(MUL, 1, 0);
            Checks.due("value", q.info(QapCompiler.INFO_VALUE, w), 0);
            Checks.due("m", q.info(QapCompiler.INFO_CONSTRAINTS, 0), j + 1);
            Checks.due("A at x", q.matrixEntry(QapCompiler.MATRIX_A, j, 1), 1);
            Checks.due("B at one", q.matrixEntry(QapCompiler.MATRIX_B, j, 0), 1);
            Checks.due("C at the wire", q.matrixEntry(QapCompiler.MATRIX_C, j, w), 1);
            Checks.due("not SATISFIED", q.info(QapCompiler.INFO_SATISFIED, 0), 0);
        }
    }

    private static void promise3OthersMakeNone() {
        Checks.sentence("Promise 3", "ADD and CMUL wires make no constraint and are not variables.");
        QapCompiler q = Circuits.mixed();
        for (int kind = ADD; kind <= CMUL; kind += CMUL - ADD) {
            int w = q.addGate(kind, 1, 1);
            Checks.due("m after kind " + kind, q.info(QapCompiler.INFO_CONSTRAINTS, 0), 3);
            Checks.due("a row after kind " + kind, q.matrixEntry(0, 3, 0), -1);
            Checks.due("a form at kind " + kind, q.linearForm(w, w), -1);
            Checks.due("an entry at kind " + kind, q.matrixEntry(0, 0, w), -1);
            Checks.refusedFalse(q, "setWitness of kind " + kind, () -> q.setWitness(w, 1));
        }
        q.compile();
        Checks.due("a column of ADD", q.columnCoeff(0, 7, 0), -1);
        Checks.due("a column of CMUL", q.columnCoeff(0, 8, 0), -1);
    }

    private static void promise3NothingElse() {
        Checks.sentence("Promise 3", "Nothing else changes: existing wires, their forms and stored values, "
            + "existing constraints and the points stay as they were.");
        for (int kind = ADD; kind <= CMUL; kind++) {
            QapCompiler q = Circuits.mixed();
            q.setWitness(2, 8);
            q.setWitness(6, -1);
            q.setPoint(4, 0);
            String before = wiresAndRows(q, 7, 3);
            String points = Checks.points(q);
            q.addGate(kind, 6, 2);
            Checks.same("wires and rows after kind " + kind, wiresAndRows(q, 7, 3), before);
            Checks.same("points after kind " + kind, Checks.points(q), points);
            Checks.due("phase after kind " + kind, q.info(QapCompiler.INFO_COMPILED, 0), 0);
        }
        addGatesUntilFull();
    }

    private static void addGatesUntilFull() {
        QapCompiler q = new QapCompiler(32, 16);
        String points = Checks.points(q);
        int constraints = 0;
        for (int w = 1; w < 32; w++) {
            String before = wiresAndRows(q, w, constraints);
            int kind = w % 2 == 0 ? MUL : w % 4 == 1 ? ADD : CMUL;
            q.addGate(kind, w - 1, w / 2);
            Checks.same("older wires than " + w, wiresAndRows(q, w, constraints), before);
            Checks.same("points after " + w, Checks.points(q), points);
            constraints += kind == MUL ? 1 : 0;
            Checks.due("m after " + w, q.info(QapCompiler.INFO_CONSTRAINTS, 0), constraints);
            q.setWitness(w, 200 + w);
        }
    }

    /** What there is of the first wires and constraints, whatever came later. */
    private static String wiresAndRows(QapCompiler q, int wires, int constraints) {
        StringBuilder s = new StringBuilder();
        for (int w = 0; w < wires; w++) {
            s.append(" [").append(q.info(QapCompiler.INFO_KIND, w)).append(' ');
            s.append(q.info(QapCompiler.INFO_VALUE, w)).append(" |");
            for (int v = 0; v < wires; v++) {
                s.append(' ').append(q.linearForm(w, v));
            }
            for (int j = 0; j < constraints; j++) {
                for (int matrix = 0; matrix < 3; matrix++) {
                    s.append(' ').append(q.matrixEntry(matrix, j, w));
                }
            }
            s.append(']');
        }
        return s.toString();
    }

    private static void promise4MeansEqual() {
        Checks.sentence("Promise 4", "`assertEqual(a, b)` makes a constraint value(a) = value(b)");
        QapCompiler q = new QapCompiler(8, 4);
        q.addInput();
        q.addInput();
        q.assertEqual(1, 2);
        for (int x : Circuits.EDGES) {
            for (int y : Circuits.EDGES) {
                q.setWitness(1, x);
                q.setWitness(2, y);
                int due = Circuits.reduced(x) == Circuits.reduced(y) ? 1 : 0;
                Checks.due(x + " = " + y, q.info(QapCompiler.INFO_SATISFIED, 0), due);
            }
        }
    }

    private static void promise4Compiled() {
        Checks.sentence("Promise 4", "COMPILED -> -1");
        QapCompiler q = Circuits.mixedCompiled();
        Checks.refused(q, "assertEqual(1, 2)", () -> q.assertEqual(1, 2));
        Checks.refused(q, "assertEqual(0, 0)", () -> q.assertEqual(0, 0));
        QapCompiler divided = Circuits.mixedDivided();
        Checks.refused(divided, "with a quotient", () -> divided.assertEqual(0, 0));
    }

    private static void promise4Operands() {
        Checks.sentence("Promise 4", "a or b not in [0, wireCount) -> -1");
        QapCompiler q = Circuits.mixed();
        for (int wrong : NO_INDEX) {
            Checks.refused(q, "a = " + wrong, () -> q.assertEqual(wrong, 0));
            Checks.refused(q, "b = " + wrong, () -> q.assertEqual(0, wrong));
            Checks.refused(q, "both = " + wrong, () -> q.assertEqual(wrong, wrong));
        }
        Checks.refused(q, "a = wireCount", () -> q.assertEqual(7, 0));
        Checks.refused(q, "b = wireCount", () -> q.assertEqual(0, 7));
        Checks.refused(q, "both = maxWires - 1", () -> q.assertEqual(9, 9));
        Checks.due("the last and the first", q.assertEqual(6, 0), 3);
        Checks.due("the first and the last", q.assertEqual(0, 6), 4);
    }

    private static void promise4Full() {
        Checks.sentence("Promise 4", "m = maxConstraints -> -1");
        for (int size = 4; size <= 16; size++) {
            QapCompiler q = new QapCompiler(32, size);
            for (int j = 0; j < size - 1; j++) {
                q.addGate(MUL, 0, 0);
            }
            Checks.due("the last of " + size, q.assertEqual(0, 1), size - 1);
            Checks.refused(q, "assertEqual in a full " + size, () -> q.assertEqual(0, 1));
            Checks.refused(q, "of a wire with itself in a full " + size, () -> q.assertEqual(1, 1));
        }
    }

    private static void promise4TestsInOrder() {
        Checks.sentence("Promise 4", "Tests in order");
        QapCompiler q = fullOfConstraints();
        Checks.refused(q, "full, a wrong", () -> q.assertEqual(1, 0));
        Checks.refused(q, "full, b wrong", () -> q.assertEqual(0, -1));
        q.compile();
        Checks.refused(q, "compiled, full", () -> q.assertEqual(0, 0));
        Checks.refused(q, "compiled, full, both wrong", () -> q.assertEqual(P, Checks.MIN));
    }

    private static void promise4Answer() {
        Checks.sentence("Promise 4", "Otherwise constraint m is made, m grows by 1, and the answer is its index.");
        QapCompiler q = fullOfWires();
        for (int j = 0; j < 4; j++) {
            Checks.due("assertEqual", q.assertEqual(7, j), j);
            Checks.due("m", q.info(QapCompiler.INFO_CONSTRAINTS, 0), j + 1);
            Checks.due("A at the first", q.matrixEntry(QapCompiler.MATRIX_A, j, 7), 1);
            Checks.due("A at the second", q.matrixEntry(QapCompiler.MATRIX_A, j, j), P - 1);
            Checks.due("no row beyond", q.matrixEntry(QapCompiler.MATRIX_A, j + 1, 0), -1);
        }
        QapCompiler afterProduct = new QapCompiler(8, 4);
        afterProduct.addGate(MUL, 0, 0);
        Checks.due("after a product", afterProduct.assertEqual(0, 1), 1);
    }

    private static void promise4SameWire() {
        Checks.sentence("Promise 4", "a = b is allowed (a constraint that always holds).");
        QapCompiler q = new QapCompiler(8, 4);
        q.addInput();
        q.addGate(CMUL, 1, -1);
        for (int w = 0; w < 3; w++) {
            Checks.due("assertEqual(" + w + ", " + w + ")", q.assertEqual(w, w), w);
        }
        for (int x : Circuits.EDGES) {
            q.setWitness(1, x);
            Checks.due("holds with " + x, q.info(QapCompiler.INFO_SATISFIED, 0), 1);
        }
        q.compile();
        q.setWitness(1, -1);
        Checks.due("divides", q.divide(), 1);
    }

    private static void promise4NoWire() {
        Checks.sentence("Promise 4", "No wire is made; wireCount, stored values and points do not change.");
        QapCompiler q = Circuits.mixed();
        q.setWitness(1, 5);
        q.setWitness(6, 6);
        q.setPoint(3, 0);
        String wires = Checks.wires(q);
        String points = Checks.points(q);
        q.assertEqual(1, 6);
        Checks.due("wireCount", q.info(QapCompiler.INFO_WIRES, 0), 7);
        Checks.same("wires", Checks.wires(q), wires);
        Checks.same("points", Checks.points(q), points);
        QapCompiler full = fullOfWires();
        Checks.due("in an object full of wires", full.assertEqual(7, 7), 0);
        assertUntilFull();
    }

    // The last wire of the greatest object, whose form ends where the forms end.
    private static void assertUntilFull() {
        QapCompiler q = new QapCompiler(32, 16);
        for (int w = 1; w < 32; w++) {
            q.addInput();
            q.setWitness(w, w);
        }
        String wires = Checks.wires(q);
        for (int j = 0; j < 16; j++) {
            String before = wiresAndRows(q, 32, j);
            Checks.due("assertEqual(31, " + (30 - j) + ")", q.assertEqual(31, 30 - j), j);
            Checks.same("older constraints than " + j, wiresAndRows(q, 32, j), before);
            Checks.due("A at 31", q.matrixEntry(QapCompiler.MATRIX_A, j, 31), 1);
            Checks.due("A at " + (30 - j), q.matrixEntry(QapCompiler.MATRIX_A, j, 30 - j), P - 1);
        }
        Checks.same("the wires of a full object", Checks.wires(q), wires);
    }

    private static void promise5Reduces() {
        Checks.sentence("Promise 5", "`setPoint(j, v)` sets point[j] = reduce(v).");
        int[] given = {0, P, -P, -1, Checks.MIN, P - 1, 1000, 1000 - P};
        int[] points = {0, 0, 0, P - 1, P - 1, P - 1, 1000, 1000};
        for (int i = 0; i < given.length; i++) {
            QapCompiler q = new QapCompiler(8, 4);
            Checks.due("setPoint(2, " + given[i] + ")", q.setPoint(2, given[i]), true);
            Checks.due("point 2", q.info(QapCompiler.INFO_POINT, 2), points[i]);
        }
    }

    private static void promise5Compiled() {
        Checks.sentence("Promise 5", "COMPILED -> false");
        QapCompiler q = Circuits.mixedCompiled();
        for (int j = 0; j < 5; j++) {
            int at = j;
            Checks.refusedFalse(q, "a free value at " + j, () -> q.setPoint(at, 1000));
            Checks.refusedFalse(q, "its own value at " + j, () -> q.setPoint(at, at + 1));
        }
        QapCompiler divided = Circuits.mixedDivided();
        Checks.refusedFalse(divided, "with a quotient", () -> divided.setPoint(4, 1000));
    }

    private static void promise5Index() {
        Checks.sentence("Promise 5", "j not in [0, maxConstraints) -> false");
        for (int size = 4; size <= 16; size++) {
            QapCompiler q = new QapCompiler(32, size);
            for (int j : new int[] {Checks.MIN, -16, -1, size, size + 1, 16, 17, 31, 32, P}) {
                Checks.refusedFalse(q, "setPoint(" + j + ") of " + size, () -> q.setPoint(j, 1000));
            }
            Checks.due("the last of " + size, q.setPoint(size - 1, 1000), true);
            Checks.due("the first of " + size, q.setPoint(0, 1001), true);
        }
    }

    private static void promise5Taken() {
        Checks.sentence("Promise 5", "reduce(v) = point[k] for some k != j with k in [0, maxConstraints) -> false");
        for (int size = 4; size <= 16; size++) {
            QapCompiler q = new QapCompiler(32, size);
            q.setPoint(0, 0);
            q.setPoint(size - 1, -1);
            int last = size - 1;
            for (int zero : new int[] {0, P, -P}) {
                Checks.refusedFalse(q, zero + " is point 0", () -> q.setPoint(1, zero));
                Checks.refusedFalse(q, zero + " is point 0", () -> q.setPoint(last, zero));
            }
            for (int minus : new int[] {-1, P - 1, Checks.MIN}) {
                Checks.refusedFalse(q, minus + " is the last point", () -> q.setPoint(0, minus));
                Checks.refusedFalse(q, minus + " is the last point", () -> q.setPoint(1, minus));
            }
            Checks.due("the value that was given up", q.setPoint(1, 1), true);
        }
    }

    private static void promise5TakenByPointsNotInUse() {
        Checks.sentence("Promise 5", "with k in [0, maxConstraints) (also where k is at or beyond m)");
        QapCompiler q = new QapCompiler(8, 6);
        q.assertEqual(0, 0);
        for (int k = 1; k < 6; k++) {
            int taken = k + 1;
            Checks.refusedFalse(q, "setPoint(0, " + taken + ")", () -> q.setPoint(0, taken));
        }
    }

    private static void promise5NotTakenBeyond() {
        Checks.sentence("Promise 5", "with k in [0, maxConstraints) (no point is taken beyond)");
        for (int size = 4; size < 16; size++) {
            QapCompiler q = new QapCompiler(8, size);
            for (int v = size + 1; v <= 16; v++) {
                Checks.due("setPoint(0, " + v + ") of " + size, q.setPoint(0, v), true);
            }
            Checks.due("setPoint(1, 0) of " + size, q.setPoint(1, 0), true);
        }
    }

    private static void promise5TestsInOrder() {
        Checks.sentence("Promise 5", "Tests in order");
        QapCompiler q = Circuits.mixed();
        Checks.refusedFalse(q, "wrong index, taken value", () -> q.setPoint(5, 1));
        Checks.refusedFalse(q, "negative index, taken value", () -> q.setPoint(-1, 1));
        q.compile();
        Checks.refusedFalse(q, "compiled, taken value", () -> q.setPoint(0, 2));
        Checks.refusedFalse(q, "compiled, wrong index", () -> q.setPoint(P, 1000));
        Checks.refusedFalse(q, "compiled, wrong index, taken value", () -> q.setPoint(Checks.MIN, 1));
    }

    private static void promise5OwnValue() {
        Checks.sentence("Promise 5", "(setting the value it already has is allowed) and the answer is true");
        QapCompiler q = new QapCompiler(8, 16);
        for (int j = 0; j < 16; j++) {
            int at = j;
            Checks.answersWithoutChange(q, "setPoint(" + j + ", its own)", () -> q.setPoint(at, at + 1) ? 1 : 0, 1);
            Checks.answersWithoutChange(q, "as another int", () -> q.setPoint(at, at + 1 - P) ? 1 : 0, 1);
        }
        q.setPoint(0, -1);
        Checks.answersWithoutChange(q, "-1 as the least int", () -> q.setPoint(0, Checks.MIN) ? 1 : 0, 1);
    }

    private static void promise5BeyondM() {
        Checks.sentence("Promise 5", "Points with index at or beyond m may be set as well.");
        QapCompiler empty = new QapCompiler(8, 4);
        Checks.due("m = 0, point 0", empty.setPoint(0, 70), true);
        Checks.due("m = 0, point 3", empty.setPoint(3, 71), true);
        QapCompiler q = Circuits.mixed();
        Checks.due("at m", q.setPoint(3, 72), true);
        Checks.due("beyond m", q.setPoint(4, 73), true);
        Checks.same("set", Checks.points(q), "points 1 2 3 72 73");
        q.assertEqual(1, 1);
        Checks.due("m grows", q.compile(), 4);
        Checks.due("and the point is in use", q.evaluate(QapCompiler.POLY_Z, 72), 0);
        Checks.due("but not the next", q.evaluate(QapCompiler.POLY_Z, 73) != 0, true);
    }

    private static void promise5NothingElse() {
        Checks.sentence("Promise 5", "No other point, wire or constraint changes.");
        for (int j = 0; j < 5; j++) {
            QapCompiler q = Circuits.mixed();
            q.setWitness(1, 5);
            String wires = Checks.wires(q);
            String constraints = Checks.constraints(q);
            q.setPoint(j, 0);
            for (int k = 0; k < 5; k++) {
                Checks.due("point " + k + " after " + j, q.info(QapCompiler.INFO_POINT, k), k == j ? 0 : k + 1);
            }
            Checks.same("wires after " + j, Checks.wires(q), wires);
            Checks.same("constraints after " + j, Checks.constraints(q), constraints);
        }
    }

    private static void promise6Compiled() {
        Checks.sentence("Promise 6", "COMPILED -> -1");
        QapCompiler q = Circuits.mixed();
        q.setWitness(1, 4);
        Checks.due("the first time", q.compile(), 3);
        Checks.refused(q, "the second time", q::compile);
        q.solve();
        q.divide();
        Checks.refused(q, "with a quotient", q::compile);
    }

    private static void promise6Empty() {
        Checks.sentence("Promise 6", "m = 0 -> -1");
        QapCompiler q = new QapCompiler(8, 4);
        Checks.refused(q, "a new object", q::compile);
        q.addInput();
        q.addGate(ADD, 1, 0);
        q.addGate(CMUL, 1, 2);
        Checks.refused(q, "wires alone", q::compile);
        for (int w = 4; w < 8; w++) {
            q.addInput();
            Checks.refused(q, "more wires", q::compile);
        }
        q.assertEqual(0, 0);
        Checks.due("with a constraint", q.compile(), 1);
    }

    private static void promise6Answer() {
        Checks.sentence("Promise 6", "Otherwise the object becomes COMPILED and the answer is m.");
        for (int m = 1; m <= 16; m++) {
            QapCompiler q = Circuits.sized(m);
            Checks.due("BUILDING", q.info(QapCompiler.INFO_COMPILED, 0), 0);
            Checks.due("compile", q.compile(), m);
            Checks.due("COMPILED", q.info(QapCompiler.INFO_COMPILED, 0), 1);
        }
    }

    private static void promise6Defines() {
        Checks.sentence("Promise 6", "From then on the column polynomials, Z, and the witness-dependent A, B, C and P "
            + "are defined.");
        for (int m = 1; m <= 16; m++) {
            QapCompiler q = Circuits.sized(m);
            q.setWitness(1, -5);
            q.setWitness(4, 6);
            for (int which = 0; which < 5; which++) {
                Checks.due("polynomial " + which + " before", q.coeff(which, 0), -1);
                Checks.due("its value before", q.evaluate(which, 1), -1);
            }
            Checks.due("a column before", q.columnCoeff(0, 1, 0), -1);
            q.compile();
            Exact.columns(q, m);
            Exact.vanishing(q, m);
            Exact.weightedColumns(q, m);
            Exact.product(q, m);
        }
    }

    private static void promise6ChangesNothing() {
        Checks.sentence("Promise 6", "compile does not change the witness, creates no quotient, and does not change "
            + "wires, constraints or points.");
        for (int m = 1; m <= 16; m++) {
            QapCompiler q = Circuits.sized(m);
            q.setWitness(1, -5);
            q.setWitness(4, 6);
            String before = Checks.wires(q) + Checks.constraints(q) + Checks.points(q);
            q.compile();
            Checks.same("all of it", Checks.wires(q) + Checks.constraints(q) + Checks.points(q), before);
            Checks.due("no quotient", q.info(QapCompiler.INFO_HAS_QUOTIENT, 0), 0);
            Checks.due("no H", q.coeff(QapCompiler.POLY_H, 0), -1);
            Checks.due("no R", q.coeff(QapCompiler.POLY_R, 0), -1);
        }
    }
}
