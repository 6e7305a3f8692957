/** Promises 12 to 15: divide, coeff, evaluate, checkAt. */
public final class QuotientTest {
    private static final int Z = QapCompiler.POLY_Z;
    private static final int PP = QapCompiler.POLY_P;
    private static final int H = QapCompiler.POLY_H;
    private static final int R = QapCompiler.POLY_R;
    private static final int[] PLACES = {
        0, 1, 2, 3, -1, 1234, 46341, 1073741824, Checks.P - 1, Checks.P, -Checks.P, Checks.MIN, 2000000011
    };

    public static void main(String[] args) {
        promise12BeforeCompile();
        promise12ByHand();
        promise12OneConstraint();
        promise12AllSizes();
        promise12ReplacesAndKeeps();
        promise13Ranges();
        promise13WrongInputs();
        promise13FollowsTheWitness();
        promise14Evaluate();
        promise14WrongInputs();
        promise15CheckAt();
        promise15NoQuotient();
        Checks.finish();
    }

    // x * x = wire 2, wire 2 * x = wire 3, at the points 1 and 2.
    private static QapCompiler cube() {
        QapCompiler q = new QapCompiler(8, 4);
        q.addInput();
        q.addGate(QapCompiler.KIND_MUL, 1, 1);
        q.addGate(QapCompiler.KIND_MUL, 2, 1);
        q.compile();
        return q;
    }

    private static QapCompiler dividedCube() {
        QapCompiler q = cube();
        q.divide();
        return q;
    }

    private static QapCompiler chain(int m) {
        QapCompiler q = new QapCompiler(32, 16);
        q.addInput();
        q.setPoint(0, -1);
        q.setPoint(3, 2000000011);
        int newest = 1;
        for (int j = 0; j < m; j++) {
            if (j % 4 == 3) {
                q.assertEqual(newest, newest);
            } else {
                int sum = q.addGate(QapCompiler.KIND_ADD, newest, 0);
                newest = q.addGate(QapCompiler.KIND_MUL, sum, newest);
            }
        }
        Checks.due("chain of " + m, q.compile(), m);
        return q;
    }

    private static void coefficients(String when, QapCompiler q, int which, int... want) {
        for (int k = 0; k < want.length; k++) {
            long due = want[k] < 0 ? want[k] + (long) Checks.P : want[k];
            Checks.due(when + ": coefficient " + k + " of " + which, q.coeff(which, k), due);
        }
        Checks.due(when + ": coefficient beyond of " + which, q.coeff(which, want.length), -1);
    }

    private static void promise12BeforeCompile() {
        QapCompiler q = new QapCompiler(8, 4);
        Checks.refused(q, "divide on a new object", q::divide);
        q.addInput();
        q.addGate(QapCompiler.KIND_MUL, 1, 1);
        Checks.refused(q, "divide while building", q::divide);
    }

    // With x = 2: A goes through (1, 2), (2, 4), so A = 2X; B = 2; C goes through (1, 4), (2, 8), so C = 4X; P = 0.
    // With wire 3 = 9 instead, C = 5X - 1 and P = -X + 1, of lower degree than Z.
    // With B = x = 2 on wire 2 = 5: A = 3X - 1, B = 2, C = 4X + 1 through (1, 5), (2, 9); P = 2X - 3.
    private static void promise12ByHand() {
        QapCompiler q = cube();
        q.setWitness(1, 2);
        q.solve();
        Checks.due("satisfied", q.divide(), 1);
        coefficients("x = 2", q, QapCompiler.POLY_A, 0, 2);
        coefficients("x = 2", q, QapCompiler.POLY_B, 2, 0);
        coefficients("x = 2", q, QapCompiler.POLY_C, 0, 4);
        coefficients("x = 2", q, Z, 2, -3, 1);
        coefficients("x = 2", q, PP, 0, 0, 0);
        coefficients("x = 2", q, H, 0, 0);
        coefficients("x = 2", q, R, 0, 0);
        q.setWitness(3, 9);
        Checks.due("not satisfied", q.divide(), 0);
        coefficients("9", q, PP, 1, -1, 0);
        coefficients("9", q, H, 0, 0);
        coefficients("9", q, R, 1, -1);
        q.setWitness(2, 5);
        Checks.due("not satisfied either", q.divide(), 0);
        coefficients("5", q, PP, -3, 2, 0);
        coefficients("5", q, R, -3, 2);
        withHigherDegree();
    }

    // x * y = wire 3, wire 3 * wire 3 = wire 4, with x = 2, y = 3: A = 4X - 2, B = 3X, C = 30X - 24,
    // P = 12X^2 - 36X + 24 = 12 Z.
    private static void withHigherDegree() {
        QapCompiler q = new QapCompiler(8, 4);
        q.addInput();
        q.addInput();
        q.addGate(QapCompiler.KIND_MUL, 1, 2);
        q.addGate(QapCompiler.KIND_MUL, 3, 3);
        q.compile();
        q.setWitness(1, 2);
        q.setWitness(2, 3);
        q.solve();
        Checks.due("satisfied", q.divide(), 1);
        coefficients("xy", q, QapCompiler.POLY_A, -2, 4);
        coefficients("xy", q, QapCompiler.POLY_B, 0, 3);
        coefficients("xy", q, QapCompiler.POLY_C, -24, 30);
        coefficients("xy", q, PP, 24, -36, 12);
        coefficients("xy", q, H, 12, 0);
        coefficients("xy", q, R, 0, 0);
        q.setWitness(4, 37);
        Checks.due("not satisfied", q.divide(), 0);
        coefficients("37", q, PP, 25, -37, 12);
        coefficients("37", q, H, 12, 0);
        coefficients("37", q, R, 1, -1);
    }

    private static void promise12OneConstraint() {
        QapCompiler q = new QapCompiler(8, 4);
        q.addInput();
        q.addGate(QapCompiler.KIND_MUL, 1, 1);
        q.setPoint(0, 10);
        q.compile();
        q.setWitness(1, 3);
        Checks.due("3 * 3 is not 0", q.divide(), 0);
        coefficients("m = 1", q, Z, -10, 1);
        coefficients("m = 1", q, PP, 9);
        coefficients("m = 1", q, H, 0);
        coefficients("m = 1", q, R, 9);
        q.solve();
        Checks.due("3 * 3 is 9", q.divide(), 1);
        coefficients("m = 1", q, R, 0);
    }

    private static void promise12AllSizes() {
        for (int m = 1; m <= 16; m++) {
            QapCompiler q = chain(m);
            for (int x : PLACES) {
                q.setWitness(1, x);
                Checks.due("unsolved m " + m + " x " + x, q.divide(), q.info(QapCompiler.INFO_SATISFIED, 0));
                identity(q, m);
                q.solve();
                Checks.due("solved", q.info(QapCompiler.INFO_SATISFIED, 0), 1);
                Checks.due("solved m " + m + " x " + x, q.divide(), 1);
                identity(q, m);
                int w = q.info(QapCompiler.INFO_WIRES, 0) - 1;
                q.setWitness(w, q.info(QapCompiler.INFO_VALUE, w) - 1);
                Checks.due("spoilt", q.info(QapCompiler.INFO_SATISFIED, 0), 0);
                Checks.due("spoilt m " + m + " x " + x, q.divide(), 0);
                identity(q, m);
            }
        }
    }

    private static void identity(QapCompiler q, int m) {
        boolean zero = true;
        for (int k = 0; k < 2 * m - 1; k++) {
            long sum = k < m ? q.coeff(R, k) : 0;
            for (int i = 0; i < m; i++) {
                if (k - i >= 0 && k - i <= m) {
                    sum = (sum + (long) q.coeff(H, i) * q.coeff(Z, k - i)) % Checks.P;
                }
            }
            Checks.due("H * Z + R at " + k, sum, q.coeff(PP, k));
            zero &= k >= m || q.coeff(R, k) == 0;
        }
        Checks.due("R is 0", zero, q.info(QapCompiler.INFO_SATISFIED, 0) == 1);
        Checks.due("H at m - 1", q.coeff(H, m - 1), 0);
        Checks.due("Z at m", q.coeff(Z, m), 1);
    }

    private static void promise12ReplacesAndKeeps() {
        QapCompiler q = chain(5);
        q.setWitness(1, 6);
        String wires = Checks.wires(q);
        String constraints = Checks.constraints(q);
        String points = Checks.points(q);
        q.divide();
        Checks.same("wires", Checks.wires(q), wires);
        Checks.same("constraints", Checks.constraints(q), constraints);
        Checks.same("points", Checks.points(q), points);
        Checks.due("quotient", q.info(QapCompiler.INFO_HAS_QUOTIENT, 0), 1);
        Checks.answersWithoutChange(q, "divide again", q::divide, 0);
        q.solve();
        q.divide();
        identity(q, 5);
        Checks.answersWithoutChange(q, "divide again when satisfied", q::divide, 1);
    }

    private static void promise13Ranges() {
        for (int m = 1; m <= 16; m++) {
            QapCompiler q = chain(m);
            q.setWitness(1, 1234567);
            q.divide();
            int[] lengths = {m, m, m, m + 1, 2 * m - 1, m, m};
            for (int which = 0; which < 7; which++) {
                for (int k = 0; k < 40; k++) {
                    boolean inside = k < lengths[which];
                    Checks.due("coeff(" + which + ", " + k + ") of " + m, q.coeff(which, k) >= 0, inside);
                }
            }
        }
    }

    private static void promise13WrongInputs() {
        QapCompiler building = new QapCompiler(8, 4);
        building.addGate(QapCompiler.KIND_MUL, 0, 0);
        QapCompiler q = cube();
        for (int which = 0; which < 7; which++) {
            int of = which;
            Checks.refused(building, "coeff of " + of + " while building", () -> building.coeff(of, 0));
            for (int k : new int[] {Checks.MIN, -2, -1, 4, 16, 31, 32, 64, 223, 224, Checks.P}) {
                Checks.refused(q, "coeff(" + of + ", " + k + ")", () -> q.coeff(of, k));
            }
        }
        Checks.refused(q, "H without a quotient", () -> q.coeff(H, 0));
        Checks.refused(q, "R without a quotient", () -> q.coeff(R, 0));
        q.divide();
        for (int which : new int[] {Checks.MIN, -1, 7, 8, Checks.P}) {
            Checks.refused(q, "coeff of " + which, () -> q.coeff(which, 0));
        }
        for (int which = 0; which < 7; which++) {
            int of = which;
            int due = dividedCube().coeff(of, 0);
            Checks.answersWithoutChange(q, "coeff(" + of + ", 0)", () -> q.coeff(of, 0), due);
            Checks.refused(q, "coeff(" + of + ", -1)", () -> q.coeff(of, -1));
        }
    }

    private static void promise13FollowsTheWitness() {
        QapCompiler q = cube();
        coefficients("all 0", q, QapCompiler.POLY_A, 0, 0);
        q.setWitness(1, 2);
        coefficients("x = 2", q, QapCompiler.POLY_A, 4, -2);
        coefficients("x = 2", q, QapCompiler.POLY_B, 2, 0);
        coefficients("x = 2", q, PP, 8, -4, 0);
        q.solve();
        coefficients("x = 2, solved", q, QapCompiler.POLY_A, 0, 2);
        coefficients("x = 2, solved", q, QapCompiler.POLY_C, 0, 4);
        coefficients("x = 2, solved", q, PP, 0, 0, 0);
        coefficients("Z stays", q, Z, 2, -3, 1);
    }

    private static void promise14Evaluate() {
        for (int m = 1; m <= 16; m++) {
            QapCompiler q = chain(m);
            q.setWitness(1, 987654321 + m);
            q.divide();
            evaluatesLikeItsCoefficients(q);
            for (int j = 0; j < m; j++) {
                int point = q.info(QapCompiler.INFO_POINT, j);
                Checks.due("Z at point " + j, q.evaluate(Z, point), 0);
                Checks.due("P at point " + j, q.evaluate(PP, point), q.evaluate(R, point));
            }
            q.solve();
            q.divide();
            evaluatesLikeItsCoefficients(q);
            for (int x : PLACES) {
                long product = (long) q.evaluate(H, x) * q.evaluate(Z, x) % Checks.P;
                Checks.due("P = H * Z at " + x, q.evaluate(PP, x), product);
            }
        }
    }

    private static void evaluatesLikeItsCoefficients(QapCompiler q) {
        for (int which = 0; which < 7; which++) {
            for (int x : PLACES) {
                long r = Math.floorMod((long) x, (long) Checks.P);
                long sum = 0;
                long power = 1;
                for (int k = 0; k < 32 && q.coeff(which, k) != -1; k++) {
                    sum = (sum + q.coeff(which, k) * power) % Checks.P;
                    power = power * r % Checks.P;
                }
                Checks.due("evaluate(" + which + ", " + x + ")", q.evaluate(which, x), sum);
                Checks.due("at the residue of " + x, q.evaluate(which, (int) r), sum);
            }
        }
    }

    private static void promise14WrongInputs() {
        QapCompiler building = new QapCompiler(8, 4);
        building.addGate(QapCompiler.KIND_MUL, 0, 0);
        for (int which = 0; which < 7; which++) {
            int of = which;
            Checks.refused(building, "evaluate " + of + " while building", () -> building.evaluate(of, 1));
        }
        QapCompiler q = cube();
        Checks.refused(q, "H without a quotient", () -> q.evaluate(H, 1));
        Checks.refused(q, "R without a quotient", () -> q.evaluate(R, 1));
        q.divide();
        for (int which : new int[] {Checks.MIN, -1, 7, 8, Checks.P}) {
            Checks.refused(q, "evaluate " + which, () -> q.evaluate(which, 1));
        }
        for (int which = 0; which < 7; which++) {
            int of = which;
            int due = dividedCube().evaluate(of, 3);
            Checks.answersWithoutChange(q, "evaluate(" + of + ", 3)", () -> q.evaluate(of, 3), due);
        }
    }

    private static void promise15CheckAt() {
        for (int m = 1; m <= 16; m++) {
            QapCompiler q = chain(m);
            q.setWitness(1, 192837465);
            q.solve();
            q.divide();
            for (int x : PLACES) {
                Checks.due("satisfied, checkAt(" + x + ")", q.checkAt(x), 1);
            }
            q.setWitness(3, 5);
            q.divide();
            for (int x : PLACES) {
                int due = q.evaluate(R, x) == 0 ? 1 : 0;
                Checks.due("not satisfied, checkAt(" + x + ")", q.checkAt(x), due);
            }
            Checks.due("a check that fails", q.checkAt(1234), 0);
        }
        QapCompiler q = cube();
        q.setWitness(1, 2);
        q.solve();
        q.setWitness(3, 9);
        q.divide();
        Checks.answersWithoutChange(q, "checkAt where R = 1 - X is 0", () -> q.checkAt(1), 1);
        Checks.answersWithoutChange(q, "checkAt at a residue of 1", () -> q.checkAt(1 - Checks.P), 1);
        Checks.answersWithoutChange(q, "checkAt where R is -1", () -> q.checkAt(2), 0);
        Checks.answersWithoutChange(q, "checkAt where R is 1", () -> q.checkAt(Checks.P), 0);
        Checks.answersWithoutChange(q, "checkAt where R is 2", () -> q.checkAt(Checks.MIN), 0);
    }

    private static void promise15NoQuotient() {
        QapCompiler building = new QapCompiler(8, 4);
        Checks.refused(building, "checkAt on a new object", () -> building.checkAt(1));
        QapCompiler q = cube();
        Checks.refused(q, "checkAt before divide", () -> q.checkAt(1));
        q.divide();
        Checks.due("checkAt after divide", q.checkAt(1), 1);
        q.solve();
        Checks.refused(q, "checkAt after solve", () -> q.checkAt(1));
        q.divide();
        q.setWitness(1, 0);
        Checks.refused(q, "checkAt after setWitness", () -> q.checkAt(1));
    }
}
