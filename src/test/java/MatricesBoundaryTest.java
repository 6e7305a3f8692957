/** Promises 9 to 11: a test for each sentence that names a boundary case. */
public final class MatricesBoundaryTest {
    private static final int P = Checks.P;
    private static final int[] NO_WIRE = {Checks.MIN, -32, -1, 7, 8, 9, 10, 31, 32, 33, 1024, P};
    private static final int[] NO_VARIABLE = {3, 4};
    private static final int[] NO_MATRIX = {Checks.MIN, -2, -1, 3, 4, 5, 6, P};

    public static void main(String[] args) {
        promise9FieldValue();
        promise9Wire();
        promise9Column();
        promise9NoVariable();
        promise9AnyPhase();
        promise9ChangesNothing();
        promise10FieldValue();
        promise10Matrix();
        promise10Constraint();
        promise10Column();
        promise10NoVariable();
        promise10AnyPhase();
        promise10ChangesNothing();
        promise11Test1();
        promise11Test2();
        promise11Test3();
        promise11Test4();
        promise11TestsInOrder();
        promise11FieldValue();
        promise11ChangesNothing();
        Checks.finish();
    }

    private static QapCompiler[] everyPhase() {
        return new QapCompiler[] {Circuits.mixed(), Circuits.mixedCompiled(), Circuits.mixedDivided()};
    }

    private static void promise9FieldValue() {
        Checks.sentence("Promise 9", "`linearForm(w, v)` answers the coefficient form_w[v], a field value.");
        QapCompiler q = new QapCompiler(32, 4);
        q.addInput();
        for (int w = 2; w < 32; w++) {
            q.addGate(w % 2 == 0 ? Circuits.CMUL : Circuits.ADD, w - 1, w % 2 == 0 ? 46341 - P : w - 2);
        }
        long due = 1;
        for (int w = 3; w < 32; w += 2) {
            due = due * 46342 % P;
            Checks.due("x times 46341 + 1 at wire " + w, q.linearForm(w, 1), due);
            Checks.due("and nothing at one", q.linearForm(w, 0), 0);
        }
        QapCompiler minus = Circuits.mixed();
        Checks.due("-3 is no refusal", minus.linearForm(4, 1), P - 3);
    }

    private static void promise9Wire() {
        Checks.sentence("Promise 9", "-1 if w not in [0, wireCount)");
        for (QapCompiler q : everyPhase()) {
            for (int w : NO_WIRE) {
                Checks.refused(q, "linearForm(" + w + ", 1)", () -> q.linearForm(w, 1));
            }
            Checks.due("the first wire", q.linearForm(0, 0), 1);
            Checks.due("the last wire", q.linearForm(6, 6), 1);
        }
        QapCompiler full = new QapCompiler(32, 4);
        for (int w = 1; w < 32; w++) {
            full.addInput();
        }
        Checks.due("the last of a full object", full.linearForm(31, 31), 1);
        Checks.refused(full, "one more", () -> full.linearForm(32, 31));
    }

    private static void promise9Column() {
        Checks.sentence("Promise 9", "or v not in [0, wireCount)");
        for (QapCompiler q : everyPhase()) {
            for (int v : NO_WIRE) {
                Checks.refused(q, "linearForm(1, " + v + ")", () -> q.linearForm(1, v));
                Checks.refused(q, "linearForm(0, " + v + ")", () -> q.linearForm(0, v));
                Checks.refused(q, "linearForm(" + v + ", " + v + ")", () -> q.linearForm(v, v));
            }
        }
        QapCompiler fresh = new QapCompiler(8, 4);
        Checks.refused(fresh, "linearForm(0, 1) of a new object", () -> fresh.linearForm(0, 1));
    }

    private static void promise9NoVariable() {
        Checks.sentence("Promise 9", "or wire v is not a variable");
        for (QapCompiler q : everyPhase()) {
            for (int v : NO_VARIABLE) {
                for (int w = 0; w < 7; w++) {
                    int of = w;
                    Checks.refused(q, "linearForm(" + w + ", " + v + ")", () -> q.linearForm(of, v));
                }
                Checks.due("as w it may be any wire", q.linearForm(v, 0), 0);
            }
        }
    }

    private static void promise9AnyPhase() {
        Checks.sentence("Promise 9", "Any phase.");
        for (QapCompiler q : everyPhase()) {
            Checks.due("x + y at y", q.linearForm(3, 2), 1);
            Checks.due("-3 (x + y) at y", q.linearForm(4, 2), P - 3);
            Checks.due("a product at itself", q.linearForm(5, 5), 1);
        }
    }

    private static void promise9ChangesNothing() {
        Checks.sentence("Promise 9", "Changes nothing.");
        for (QapCompiler q : everyPhase()) {
            Checks.answersWithoutChange(q, "linearForm(4, 1)", () -> q.linearForm(4, 1), P - 3);
            Checks.answersWithoutChange(q, "linearForm(0, 0)", () -> q.linearForm(0, 0), 1);
        }
    }

    private static void promise10FieldValue() {
        Checks.sentence("Promise 10", "answers the R1CS entry M_j[v] for M = matrix (MATRIX_A, MATRIX_B, MATRIX_C), "
            + "a field value.");
        QapCompiler q = Circuits.sized(16);
        for (int j = 0; j < 16; j++) {
            boolean product = j % 2 == 0;
            String at = "_" + j + " at ";
            Checks.due("A" + at + 1, q.matrixEntry(0, j, 1), P - 1);
            Checks.due("A" + at + 2, q.matrixEntry(0, j, 2), product ? 0 : P - 1);
            Checks.due("B" + at + 0, q.matrixEntry(1, j, 0), product ? 0 : 1);
            Checks.due("B" + at + 1, q.matrixEntry(1, j, 1), product ? 1 : 0);
            for (int v = 4; v < 12; v++) {
                Checks.due("C" + at + v, q.matrixEntry(2, j, v), product && v == 4 + j / 2 ? 1 : 0);
            }
        }
    }

    private static void promise10Matrix() {
        Checks.sentence("Promise 10", "-1 if matrix is not 0, 1 or 2");
        for (QapCompiler q : everyPhase()) {
            for (int matrix : NO_MATRIX) {
                for (int j = 0; j < 3; j++) {
                    int row = j;
                    Checks.refused(q, "matrix " + matrix + ", row " + j, () -> q.matrixEntry(matrix, row, 1));
                }
            }
        }
    }

    private static void promise10Constraint() {
        Checks.sentence("Promise 10", "or j not in [0, m)");
        for (QapCompiler q : everyPhase()) {
            for (int matrix = 0; matrix < 3; matrix++) {
                int of = matrix;
                for (int j : new int[] {Checks.MIN, -16, -1, 3, 4, 5, 15, 16, 17, 32, P}) {
                    Checks.refused(q, "row " + j + " of " + of, () -> q.matrixEntry(of, j, 0));
                }
                Checks.due("the first row of " + of, q.matrixEntry(of, 0, 0), 0);
                Checks.due("the last row of " + of, q.matrixEntry(of, 2, 0), of == QapCompiler.MATRIX_B ? 1 : 0);
            }
        }
        QapCompiler fresh = new QapCompiler(8, 4);
        Checks.refused(fresh, "row 0 where m = 0", () -> fresh.matrixEntry(0, 0, 0));
        QapCompiler full = Circuits.sized(16);
        Checks.due("row 15 where m = 16", full.matrixEntry(0, 15, 1), P - 1);
        Checks.refused(full, "row 16 where m = 16", () -> full.matrixEntry(0, 16, 1));
    }

    private static void promise10Column() {
        Checks.sentence("Promise 10", "or v not in [0, wireCount)");
        for (QapCompiler q : everyPhase()) {
            for (int matrix = 0; matrix < 3; matrix++) {
                int of = matrix;
                for (int v : NO_WIRE) {
                    Checks.refused(q, "column " + v + " of " + of, () -> q.matrixEntry(of, 1, v));
                }
                Checks.due("the last column of " + of, q.matrixEntry(of, 1, 6), of == QapCompiler.MATRIX_C ? 1 : 0);
            }
        }
    }

    private static void promise10NoVariable() {
        Checks.sentence("Promise 10", "or wire v is not a variable");
        for (QapCompiler q : everyPhase()) {
            for (int v : NO_VARIABLE) {
                for (int matrix = 0; matrix < 3; matrix++) {
                    for (int j = 0; j < 3; j++) {
                        int of = matrix;
                        int row = j;
                        Checks.refused(q, "row " + j + ", column " + v, () -> q.matrixEntry(of, row, v));
                    }
                }
            }
        }
    }

    private static void promise10AnyPhase() {
        Checks.sentence("Promise 10", "Any phase.");
        for (QapCompiler q : everyPhase()) {
            Checks.due("A_0 at x", q.matrixEntry(QapCompiler.MATRIX_A, 0, 1), P - 3);
            Checks.due("B_0 at x", q.matrixEntry(QapCompiler.MATRIX_B, 0, 1), 1);
            Checks.due("C_1 at its wire", q.matrixEntry(QapCompiler.MATRIX_C, 1, 6), 1);
            Checks.due("A_2 at y", q.matrixEntry(QapCompiler.MATRIX_A, 2, 2), P - 1);
        }
    }

    private static void promise10ChangesNothing() {
        Checks.sentence("Promise 10", "Changes nothing.");
        for (QapCompiler q : everyPhase()) {
            Checks.answersWithoutChange(q, "matrixEntry(0, 0, 1)", () -> q.matrixEntry(0, 0, 1), P - 3);
            Checks.answersWithoutChange(q, "matrixEntry(2, 1, 6)", () -> q.matrixEntry(2, 1, 6), 1);
        }
    }

    private static void promise11Test1() {
        Checks.sentence("Promise 11", "matrix not 0, 1 or 2 -> -1");
        QapCompiler[] objects = {Circuits.mixedCompiled(), Circuits.mixedDivided()};
        for (QapCompiler q : objects) {
            for (int matrix : NO_MATRIX) {
                for (int k = 0; k < 3; k++) {
                    int at = k;
                    Checks.refused(q, "matrix " + matrix + " at " + k, () -> q.columnCoeff(matrix, 1, at));
                }
            }
        }
    }

    private static void promise11Test2() {
        Checks.sentence("Promise 11", "not COMPILED -> -1");
        QapCompiler q = Circuits.mixed();
        for (int matrix = 0; matrix < 3; matrix++) {
            int of = matrix;
            for (int v : new int[] {0, 1, 2, 5, 6}) {
                Checks.refused(q, "column " + v + " while building", () -> q.columnCoeff(of, v, 0));
            }
        }
        q.compile();
        Checks.due("when compiled", q.columnCoeff(0, 1, 0) != -1, true);
        QapCompiler fresh = new QapCompiler(8, 4);
        Checks.refused(fresh, "a new object", () -> fresh.columnCoeff(0, 0, 0));
    }

    private static void promise11Test3() {
        Checks.sentence("Promise 11", "v not in [0, wireCount) or wire v not a variable -> -1");
        QapCompiler q = Circuits.mixedCompiled();
        for (int matrix = 0; matrix < 3; matrix++) {
            int of = matrix;
            for (int v : NO_WIRE) {
                Checks.refused(q, "column " + v + " of " + of, () -> q.columnCoeff(of, v, 0));
            }
            for (int v : NO_VARIABLE) {
                Checks.refused(q, "column " + v + " of " + of, () -> q.columnCoeff(of, v, 0));
            }
            for (int v : new int[] {0, 1, 2, 5, 6}) {
                Checks.due("column " + v + " of " + of, q.columnCoeff(of, v, 0) != -1, true);
            }
        }
    }

    private static void promise11Test4() {
        Checks.sentence("Promise 11", "k not in [0, m) -> -1");
        for (int m = 1; m <= 16; m++) {
            QapCompiler q = Circuits.sized(m);
            q.compile();
            for (int matrix = 0; matrix < 3; matrix++) {
                int of = matrix;
                for (int k : new int[] {Checks.MIN, -16, -1, m, m + 1, 16, 17, 31, 32, 256, P}) {
                    Checks.due("m " + m + ", at " + k + " of " + of, q.columnCoeff(of, 1, k), -1);
                }
                Checks.due("m " + m + ", at 0 of " + of, q.columnCoeff(of, 1, 0) != -1, true);
                Checks.due("m " + m + ", at m - 1 of " + of, q.columnCoeff(of, 1, m - 1) != -1, true);
            }
        }
        QapCompiler q = Circuits.mixedDivided();
        Checks.refused(q, "at m", () -> q.columnCoeff(0, 1, 3));
        Checks.refused(q, "at -1", () -> q.columnCoeff(0, 1, -1));
    }

    private static void promise11TestsInOrder() {
        Checks.sentence("Promise 11", "Tests in order");
        QapCompiler building = Circuits.mixed();
        Checks.refused(building, "building, all wrong", () -> building.columnCoeff(3, -1, -1));
        Checks.refused(building, "building, v and k wrong", () -> building.columnCoeff(0, P, P));
        Checks.refused(building, "building, k wrong", () -> building.columnCoeff(0, 0, 3));
        QapCompiler q = Circuits.mixedCompiled();
        Checks.refused(q, "all wrong", () -> q.columnCoeff(Checks.MIN, Checks.MIN, Checks.MIN));
        Checks.refused(q, "matrix and v wrong", () -> q.columnCoeff(3, 7, 0));
        Checks.refused(q, "matrix and k wrong", () -> q.columnCoeff(-1, 0, 3));
        Checks.refused(q, "v and k wrong", () -> q.columnCoeff(0, 3, 3));
    }

    // Through (1, -3), (2, 0), (3, 0) goes -3 (X - 2)(X - 3) / 2, for wire 1 in A.
    private static void promise11FieldValue() {
        Checks.sentence("Promise 11", "Otherwise the coefficient, a field value.");
        QapCompiler q = Circuits.mixedCompiled();
        long half = (P + 1L) / 2;
        Checks.due("A of x at 0", q.columnCoeff(0, 1, 0), P - 9);
        Checks.due("A of x at 1", q.columnCoeff(0, 1, 1), 15 * half % P);
        Checks.due("A of x at 2", q.columnCoeff(0, 1, 2), (P - 3L) * half % P);
        for (int m = 1; m <= 16; m++) {
            QapCompiler sized = Circuits.sized(m);
            sized.setPoint(m - 1, 0);
            sized.compile();
            Exact.columns(sized, m);
        }
    }

    private static void promise11ChangesNothing() {
        Checks.sentence("Promise 11", "Changes nothing.");
        QapCompiler[] objects = {Circuits.mixedCompiled(), Circuits.mixedDivided()};
        for (QapCompiler q : objects) {
            Checks.answersWithoutChange(q, "columnCoeff(0, 1, 0)", () -> q.columnCoeff(0, 1, 0), P - 9);
        }
    }
}
