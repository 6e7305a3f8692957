/** Promises 9 to 11: linearForm, matrixEntry, columnCoeff. */
public final class MatricesTest {
    public static void main(String[] args) {
        for (int phase = 0; phase < 2; phase++) {
            promise9LinearForm(phase == 1);
            promise9WrongInputs(phase == 1);
            promise10MatrixEntry(phase == 1);
            promise10WrongInputs(phase == 1);
        }
        promise9Wraps();
        promise11OneConstraint();
        promise11TwoConstraints();
        promise11ThroughThePoints();
        promise11IgnoresTheWitness();
        promise11WrongInputs();
        Checks.finish();
    }

    // Wires: 1 and 2 inputs, 3 = x + y, 4 = -3 * wire 3, 5 = wire 4 * x, 6 = wire 4 + wire 5, then 6 = 2 asserted.
    private static QapCompiler circuit(boolean compiled) {
        QapCompiler q = new QapCompiler(10, 5);
        q.addInput();
        q.addInput();
        q.addGate(QapCompiler.KIND_ADD, 1, 2);
        q.addGate(QapCompiler.KIND_CMUL, 3, -3);
        q.addGate(QapCompiler.KIND_MUL, 4, 1);
        q.addGate(QapCompiler.KIND_ADD, 4, 5);
        q.assertEqual(6, 2);
        if (compiled) {
            q.compile();
        }
        return q;
    }

    private static void promise9LinearForm(boolean compiled) {
        QapCompiler q = circuit(compiled);
        int minus = Checks.P - 3;
        int[] variables = {0, 1, 2, 5};
        int[][] want = {
            {1, 0, 0, 0}, {0, 1, 0, 0}, {0, 0, 1, 0}, {0, 1, 1, 0},
            {0, minus, minus, 0}, {0, 0, 0, 1}, {0, minus, minus, 1}
        };
        for (int w = 0; w < want.length; w++) {
            for (int i = 0; i < variables.length; i++) {
                int v = variables[i];
                int wire = w;
                String call = "linearForm(" + w + ", " + v + ")";
                Checks.answersWithoutChange(q, call, () -> q.linearForm(wire, v), want[w][i]);
            }
        }
    }

    private static void promise9WrongInputs(boolean compiled) {
        QapCompiler q = circuit(compiled);
        int[] beyond = {7, 8, 9, 10, 31, 32, -1, Checks.MIN, Checks.P};
        for (int i : beyond) {
            Checks.refused(q, "linearForm(" + i + ", 1)", () -> q.linearForm(i, 1));
            Checks.refused(q, "linearForm(1, " + i + ")", () -> q.linearForm(1, i));
            Checks.refused(q, "linearForm of " + i + " twice", () -> q.linearForm(i, i));
        }
        int[] notVariables = {3, 4, 6};
        for (int v : notVariables) {
            for (int w = 0; w < 7; w++) {
                int wire = w;
                Checks.refused(q, "linearForm(" + w + ", " + v + ")", () -> q.linearForm(wire, v));
            }
        }
    }

    private static void promise9Wraps() {
        QapCompiler q = new QapCompiler(8, 4);
        q.addInput();
        q.addGate(QapCompiler.KIND_CMUL, 1, -1);
        q.addGate(QapCompiler.KIND_ADD, 2, 1);
        q.addGate(QapCompiler.KIND_ADD, 2, 2);
        q.addGate(QapCompiler.KIND_CMUL, 4, Checks.P - 1);
        Checks.due("x - x", q.linearForm(3, 1), 0);
        Checks.due("-2x", q.linearForm(4, 1), Checks.P - 2);
        Checks.due("2x", q.linearForm(5, 1), 2);
    }

    private static void promise10MatrixEntry(boolean compiled) {
        QapCompiler q = circuit(compiled);
        int minus3 = Checks.P - 3;
        int minus4 = Checks.P - 4;
        int[] variables = {0, 1, 2, 5};
        int[][][] want = {
            {{0, minus3, minus3, 0}, {0, minus3, minus4, 1}},
            {{0, 1, 0, 0}, {1, 0, 0, 0}},
            {{0, 0, 0, 1}, {0, 0, 0, 0}}
        };
        for (int matrix = 0; matrix < 3; matrix++) {
            for (int j = 0; j < 2; j++) {
                for (int i = 0; i < variables.length; i++) {
                    int v = variables[i];
                    int of = matrix;
                    int row = j;
                    String call = "matrixEntry(" + matrix + ", " + j + ", " + v + ")";
                    Checks.answersWithoutChange(q, call, () -> q.matrixEntry(of, row, v), want[matrix][j][i]);
                }
            }
        }
    }

    private static void promise10WrongInputs(boolean compiled) {
        QapCompiler q = circuit(compiled);
        int[] matrices = {3, 4, 6, -1, Checks.MIN, Checks.P};
        for (int matrix : matrices) {
            Checks.refused(q, "matrixEntry of " + matrix, () -> q.matrixEntry(matrix, 0, 1));
        }
        int[] rows = {2, 3, 4, 5, 15, 16, -1, Checks.MIN, Checks.P};
        int[] columns = {3, 4, 6, 7, 9, 10, 31, 32, -1, Checks.MIN, Checks.P};
        for (int matrix = 0; matrix < 3; matrix++) {
            int of = matrix;
            for (int j : rows) {
                Checks.refused(q, "matrixEntry(" + of + ", " + j + ", 1)", () -> q.matrixEntry(of, j, 1));
            }
            for (int v : columns) {
                Checks.refused(q, "matrixEntry(" + of + ", 1, " + v + ")", () -> q.matrixEntry(of, 1, v));
            }
        }
    }

    private static void promise11OneConstraint() {
        QapCompiler q = new QapCompiler(8, 4);
        q.addInput();
        q.addGate(QapCompiler.KIND_CMUL, 1, 9);
        q.addGate(QapCompiler.KIND_MUL, 2, 0);
        q.setPoint(0, 12345);
        q.compile();
        Checks.due("A of x", q.columnCoeff(0, 1, 0), 9);
        Checks.due("A of one", q.columnCoeff(0, 0, 0), 0);
        Checks.due("B of one", q.columnCoeff(1, 0, 0), 1);
        Checks.due("C of the product", q.columnCoeff(2, 3, 0), 1);
        Checks.refused(q, "A of x at 1", () -> q.columnCoeff(0, 1, 1));
    }

    // At the points 5 and 7 the columns are lines: x goes through (5, -3), (7, -3), y through (5, -3), (7, -4).
    private static void promise11TwoConstraints() {
        QapCompiler q = circuit(false);
        Checks.due("frees 5", q.setPoint(4, 50), true);
        Checks.due("point 0", q.setPoint(0, 5), true);
        Checks.due("point 1", q.setPoint(1, 7), true);
        q.compile();
        long half = (Checks.P + 1L) / 2;
        Checks.due("A of x, constant", q.columnCoeff(0, 1, 0), Checks.P - 3);
        Checks.due("A of x, slope", q.columnCoeff(0, 1, 1), 0);
        Checks.due("A of y, constant", q.columnCoeff(0, 2, 0), (Checks.P - 1 + half) % Checks.P);
        Checks.due("A of y, slope", q.columnCoeff(0, 2, 1), Checks.P - half);
        Checks.due("C of the product, slope", q.columnCoeff(2, 5, 1), Checks.P - half);
        Checks.due("C of the product, constant", q.columnCoeff(2, 5, 0), 7 * half % Checks.P);
        Checks.due("B of one, slope", q.columnCoeff(1, 0, 1), half);
        Checks.due("B of one, constant", q.columnCoeff(1, 0, 0), (Checks.P - 5L) * half % Checks.P);
    }

    private static void promise11ThroughThePoints() {
        int[] points = {0, -1, 1, Checks.P - 2, 1073741824, 65536, 46341, -46341, 999999937, 3, 4, 5, 2000000011, 7, 8, 9};
        for (int m = 1; m <= 16; m++) {
            QapCompiler q = new QapCompiler(32, 16);
            for (int j = 0; j < 16; j++) {
                q.setPoint(j, 100000 + j);
            }
            for (int j = 0; j < 16; j++) {
                Checks.due("setPoint(" + j + ")", q.setPoint(j, points[j]), true);
            }
            q.addInput();
            for (int j = 0; j < m; j++) {
                int newest = q.info(QapCompiler.INFO_WIRES, 0) - 1;
                if (j % 3 == 2) {
                    q.assertEqual(newest, 0);
                } else {
                    int multiple = q.addGate(QapCompiler.KIND_CMUL, newest, 1234567891 + j);
                    q.addGate(QapCompiler.KIND_MUL, multiple, newest);
                }
            }
            Checks.due("compile", q.compile(), m);
            throughThePoints(q, m);
        }
    }

    private static void throughThePoints(QapCompiler q, int m) {
        for (int matrix = 0; matrix < 3; matrix++) {
            for (int v = 0; v < q.info(QapCompiler.INFO_WIRES, 0); v++) {
                for (int j = 0; j < m; j++) {
                    long value = 0;
                    for (int k = m - 1; k >= 0; k--) {
                        value = (value * q.info(QapCompiler.INFO_POINT, j) + q.columnCoeff(matrix, v, k)) % Checks.P;
                    }
                    if (q.linearForm(0, v) != -1) {
                        String what = "m " + m + ", column " + v + " of " + matrix + " at point " + j;
                        Checks.due(what, value, q.matrixEntry(matrix, j, v));
                    }
                }
            }
        }
    }

    private static void promise11IgnoresTheWitness() {
        QapCompiler q = circuit(true);
        int before = q.columnCoeff(0, 2, 1);
        q.setWitness(2, 77);
        q.solve();
        Checks.answersWithoutChange(q, "columnCoeff(0, 2, 1)", () -> q.columnCoeff(0, 2, 1), before);
    }

    private static void promise11WrongInputs() {
        QapCompiler building = circuit(false);
        for (int matrix = 0; matrix < 3; matrix++) {
            int of = matrix;
            Checks.refused(building, "columnCoeff while building", () -> building.columnCoeff(of, 1, 0));
        }
        QapCompiler q = circuit(true);
        int[] matrices = {3, 4, 6, -1, Checks.MIN, Checks.P};
        for (int matrix : matrices) {
            Checks.refused(q, "columnCoeff of " + matrix, () -> q.columnCoeff(matrix, 1, 0));
        }
        int[] columns = {3, 4, 6, 7, 9, 10, 31, 32, -1, Checks.MIN, Checks.P};
        for (int v : columns) {
            Checks.refused(q, "columnCoeff(0, " + v + ", 0)", () -> q.columnCoeff(0, v, 0));
        }
        int[] degrees = {2, 3, 4, 5, 15, 16, -1, Checks.MIN, Checks.P};
        for (int k : degrees) {
            Checks.refused(q, "columnCoeff(0, 1, " + k + ")", () -> q.columnCoeff(0, 1, k));
        }
    }
}
