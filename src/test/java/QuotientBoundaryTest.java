/** Promises 12 to 15: a test for each sentence that names a boundary case. */
public final class QuotientBoundaryTest {
    private static final int P = Checks.P;
    private static final int Z = QapCompiler.POLY_Z;
    private static final int PP = QapCompiler.POLY_P;
    private static final int H = QapCompiler.POLY_H;
    private static final int R = QapCompiler.POLY_R;
    private static final int[] NO_POLYNOMIAL = {Checks.MIN, -2, -1, 7, 8, 16, 32, P};

    public static void main(String[] args) {
        promise12NotCompiled();
        promise12CurrentWitness();
        promise12Replaces();
        promise12Exists();
        promise12Answer();
        promise12AnswerIsSatisfied();
        promise12VanishesAtThePoints();
        promise12ChangesNothing();
        promise12BelongsToTheWitness();
        promise12RemainderMeansSatisfied();
        promise12Identity();
        promise13Witness();
        promise13StoredQuotient();
        promise13Test1();
        promise13Test2();
        promise13Test3();
        promise13RangesOfMost();
        promise13RangeOfZ();
        promise13RangeOfP();
        promise13TestsInOrder();
        promise13TopOfH();
        promise13TopOfZ();
        promise13ChangesNothing();
        promise14Value();
        promise14Which();
        promise14NotCompiled();
        promise14NoQuotient();
        promise14TestsInOrder();
        promise14AnyX();
        promise14ChangesNothing();
        promise14Satisfied();
        promise15NoQuotient();
        promise15Answer();
        promise15AtThePoints();
        promise15CurrentWitness();
        promise15ChangesNothing();
        promise15Satisfied();
        Checks.finish();
    }

    private static int satisfied(QapCompiler q) {
        return q.info(QapCompiler.INFO_SATISFIED, 0);
    }

    private static int lengthOf(int which, int m) {
        return which == Z ? m + 1 : which == PP ? 2 * m - 1 : m;
    }

    private static void promise12NotCompiled() {
        Checks.sentence("Promise 12", "Not COMPILED -> -1, nothing changes.");
        QapCompiler fresh = new QapCompiler(8, 4);
        Checks.refused(fresh, "a new object", fresh::divide);
        QapCompiler q = Circuits.mixed();
        q.setWitness(1, 5);
        Checks.refused(q, "while building", q::divide);
        Checks.due("no quotient", q.info(QapCompiler.INFO_HAS_QUOTIENT, 0), 0);
        q.compile();
        Checks.due("no quotient after compile either", q.info(QapCompiler.INFO_HAS_QUOTIENT, 0), 0);
        Checks.due("compiled", q.divide(), 0);
    }

    private static void promise12CurrentWitness() {
        Checks.sentence("Promise 12", "Otherwise computes P from the current witness, divides it by Z and stores H and R");
        QapCompiler q = Circuits.sized(16);
        q.compile();
        for (int x : Circuits.EDGES) {
            q.setWitness(1, x);
            q.setWitness(4, 3);
            q.divide();
            Exact.weightedColumns(q, 16);
            Exact.product(q, 16);
            Exact.quotient(q, 16);
        }
    }

    private static void promise12Replaces() {
        Checks.sentence("Promise 12", "(replacing any earlier quotient)");
        QapCompiler q = Circuits.mixedDivided();
        String first = Checks.polynomials(q);
        Checks.answersWithoutChange(q, "divide again", q::divide, 0);
        q.setWitness(1, 100);
        q.setWitness(6, 0);
        q.divide();
        Checks.due("another quotient", Checks.polynomials(q).equals(first), false);
        Exact.quotient(q, 3);
        q.setWitness(1, 2);
        q.setWitness(6, 11);
        q.divide();
        Checks.same("the first one again", Checks.polynomials(q), first);
        for (int m = 1; m <= 16; m++) {
            QapCompiler sized = Circuits.sizedDivided(m, 5, 6);
            sized.setWitness(1, 0);
            sized.setWitness(2, 0);
            sized.solve();
            sized.divide();
            for (int k = 0; k < m; k++) {
                Checks.due("m " + m + ", H at " + k + " when all is 0", sized.coeff(H, k), 0);
                Checks.due("m " + m + ", R at " + k + " when all is 0", sized.coeff(R, k), 0);
            }
        }
    }

    private static void promise12Exists() {
        Checks.sentence("Promise 12", "the quotient now exists");
        for (int m = 1; m <= 16; m++) {
            QapCompiler q = Circuits.sized(m);
            q.compile();
            Checks.due("before", q.info(QapCompiler.INFO_HAS_QUOTIENT, 0), 0);
            q.divide();
            Checks.due("exact, m " + m, q.info(QapCompiler.INFO_HAS_QUOTIENT, 0), 1);
            q.setWitness(4, 1);
            q.divide();
            Checks.due("not exact, m " + m, q.info(QapCompiler.INFO_HAS_QUOTIENT, 0), 1);
        }
    }

    private static void promise12Answer() {
        Checks.sentence("Promise 12", "Answer: 1 if R is the zero polynomial, else 0.");
        Checks.due("R = 0", Circuits.remainderLine(0, 0).divide(), 1);
        Checks.due("R = 1", Circuits.remainderLine(1, 0).divide(), 0);
        Checks.due("R = X", Circuits.remainderLine(0, 1).divide(), 0);
        Checks.due("R = -1", Circuits.remainderLine(-1, 0).divide(), 0);
        Checks.due("R = -X", Circuits.remainderLine(0, -1).divide(), 0);
        Checks.due("R = 1 - X", Circuits.remainderLine(1, -1).divide(), 0);
        Checks.due("R = X at 0", Circuits.remainderLine(0, 1).coeff(R, 0), 0);
        Checks.due("R = X at 1", Circuits.remainderLine(0, 1).coeff(R, 1), 1);
        Checks.due("R = 1 at 0", Circuits.remainderLine(1, 0).coeff(R, 0), 1);
        Checks.due("R = 1 at 1", Circuits.remainderLine(1, 0).coeff(R, 1), 0);
    }

    private static void promise12AnswerIsSatisfied() {
        Checks.sentence("Promise 12", "the answer is 1 exactly when the object is SATISFIED right before the call.");
        for (int m = 1; m <= 16; m++) {
            QapCompiler q = new QapCompiler(32, 16);
            for (int j = 0; j < m; j++) {
                q.addGate(QapCompiler.KIND_MUL, 0, 0);
            }
            q.compile();
            Checks.due("no constraint holds, m " + m, q.divide(), 0);
            q.solve();
            Checks.due("all hold, m " + m, q.divide(), 1);
            for (int w = 1; w <= m; w++) {
                q.setWitness(w, w + 1);
                Checks.due("not SATISFIED", satisfied(q), 0);
                Checks.due("all but constraint " + (w - 1) + ", m " + m, q.divide(), 0);
                q.setWitness(w, 1);
                Checks.due("SATISFIED", satisfied(q), 1);
                Checks.due("all hold again, m " + m, q.divide(), 1);
            }
        }
    }

    private static void promise12VanishesAtThePoints() {
        Checks.sentence("Promise 12", "Since R is zero exactly when P vanishes at every point[j] for j < m");
        for (int m = 2; m <= 16; m++) {
            QapCompiler q = Circuits.sizedDivided(m, 7, -7);
            for (int j = 0; j < m; j++) {
                Checks.due("m " + m + ", SATISFIED, P at point " + j, q.evaluate(PP, q.info(QapCompiler.INFO_POINT, j)), 0);
            }
            q.setWitness(2, -8);
            Checks.due("not exact", q.divide(), 0);
            for (int j = 0; j < m; j++) {
                int point = q.info(QapCompiler.INFO_POINT, j);
                Checks.due("m " + m + ", P at point " + j, q.evaluate(PP, point), j % 2);
                Checks.due("m " + m + ", R at point " + j, q.evaluate(R, point), j % 2);
            }
        }
    }

    private static void promise12ChangesNothing() {
        Checks.sentence("Promise 12", "divide changes neither the witness, the circuit nor the points.");
        for (int m = 1; m <= 16; m++) {
            QapCompiler q = Circuits.sized(m);
            q.compile();
            q.setWitness(1, -6);
            q.setWitness(4, 9);
            String before = Checks.wires(q) + Checks.constraints(q) + Checks.points(q);
            q.divide();
            Checks.same("all of it", Checks.wires(q) + Checks.constraints(q) + Checks.points(q), before);
            Checks.due("phase", q.info(QapCompiler.INFO_COMPILED, 0), 1);
        }
    }

    private static void promise12BelongsToTheWitness() {
        Checks.sentence("Promise 12", "While the quotient exists it always belongs to the current witness "
            + "(any change of the witness removes it)");
        QapCompiler q = Circuits.mixedCompiled();
        for (int i = 0; i < 20; i++) {
            q.divide();
            Exact.quotient(q, 3);
            if (i % 3 == 0) {
                q.solve();
            } else {
                q.setWitness(i % 2 == 0 ? 5 : 1, i * i - 50);
            }
            Checks.due("removed at change " + i, q.info(QapCompiler.INFO_HAS_QUOTIENT, 0), 0);
        }
    }

    private static void promise12RemainderMeansSatisfied() {
        Checks.sentence("Promise 12", "SATISFIED holds exactly when every coefficient of R is 0");
        int[][] witnesses = {{0, 0}, {5, -5}, {5, 5}, {P - 1, 1}, {1, 0}, {0, 1}};
        for (int m = 1; m <= 16; m++) {
            for (int[] witness : witnesses) {
                QapCompiler q = Circuits.sizedDivided(m, witness[0], witness[1]);
                boolean zero = true;
                for (int k = 0; k < m; k++) {
                    zero &= q.coeff(R, k) == 0;
                }
                boolean holds = m == 1 || (witness[0] + (long) witness[1]) % P == 0;
                Checks.due("SATISFIED, m " + m, satisfied(q), holds ? 1 : 0);
                Checks.due("R is 0, m " + m, zero, holds);
            }
        }
    }

    private static void promise12Identity() {
        Checks.sentence("Promise 12", "for every k in [0, 2m-1), coefficient k of P equals the sum over i in [0, m), "
            + "j in [0, m] with i + j = k of coeff(H, i) * coeff(Z, j), plus coeff(R, k) when k < m, all mod p.");
        for (int m = 1; m <= 16; m++) {
            Exact.quotient(Circuits.sizedDivided(m, 0, 0), m);
            Exact.quotient(Circuits.sizedDivided(m, P - 1, 1), m);
            Exact.quotient(Circuits.sizedDivided(m, P - 1, P - 1), m);
            Exact.quotient(Circuits.sizedDivided(m, 1073741824, 2000000011), m);
        }
    }

    private static void promise13Witness() {
        Checks.sentence("Promise 13", "POLY_A, POLY_B, POLY_C and POLY_P use the current witness");
        QapCompiler q = Circuits.sized(16);
        q.compile();
        for (int x : Circuits.EDGES) {
            q.setWitness(1, x);
            Exact.weightedColumns(q, 16);
            Exact.product(q, 16);
            q.solve();
            Exact.weightedColumns(q, 16);
            Exact.product(q, 16);
        }
    }

    private static void promise13StoredQuotient() {
        Checks.sentence("Promise 13", "POLY_H and POLY_R use the stored quotient.");
        QapCompiler line = Circuits.remainderLine(4, -3);
        Checks.due("H at 0", line.coeff(H, 0), 0);
        Checks.due("H at 1", line.coeff(H, 1), 0);
        Checks.due("R at 0", line.coeff(R, 0), 4);
        Checks.due("R at 1", line.coeff(R, 1), P - 3);
        for (int m = 1; m <= 16; m++) {
            QapCompiler q = Circuits.sizedDivided(m, 5, 6);
            Exact.quotient(q, m);
            Checks.due("H is not 0, m " + m, q.evaluate(H, 3) != 0, m > 1);
            Checks.due("R is not 0, m " + m, q.evaluate(R, 3) != 0, m > 1);
        }
    }

    private static void promise13Test1() {
        Checks.sentence("Promise 13", "1. which not in [0, 6] -> -1");
        QapCompiler q = Circuits.mixedDivided();
        for (int which : NO_POLYNOMIAL) {
            for (int k = 0; k < 3; k++) {
                int at = k;
                Checks.refused(q, "coeff(" + which + ", " + k + ")", () -> q.coeff(which, at));
            }
        }
        Checks.due("0 is one", q.coeff(0, 0) != -1, true);
        Checks.due("6 is one", q.coeff(6, 0) != -1, true);
    }

    private static void promise13Test2() {
        Checks.sentence("Promise 13", "2. not COMPILED -> -1");
        QapCompiler fresh = new QapCompiler(8, 4);
        QapCompiler q = Circuits.mixed();
        q.divide();
        for (int which = 0; which < 7; which++) {
            int of = which;
            Checks.refused(fresh, "coeff(" + which + ", 0) of a new object", () -> fresh.coeff(of, 0));
            for (int k = 0; k < 4; k++) {
                int at = k;
                Checks.refused(q, "coeff(" + which + ", " + k + ") while building", () -> q.coeff(of, at));
            }
        }
        q.compile();
        for (int which = 0; which < 5; which++) {
            Checks.due("coeff(" + which + ", 0) when compiled", q.coeff(which, 0) != -1, true);
        }
    }

    private static void promise13Test3() {
        Checks.sentence("Promise 13", "3. which is POLY_H or POLY_R and no quotient exists -> -1");
        QapCompiler q = Circuits.mixedCompiled();
        noQuotient(q, "compiled");
        q.divide();
        Checks.due("H after divide", q.coeff(H, 0) != -1, true);
        Checks.due("R after divide", q.coeff(R, 0) != -1, true);
        q.setWitness(1, 0);
        noQuotient(q, "after setWitness");
        q.divide();
        q.solve();
        noQuotient(q, "after solve");
        for (int which = 0; which < 5; which++) {
            Checks.due("coeff(" + which + ", 0) needs none", q.coeff(which, 0) != -1, true);
        }
    }

    private static void noQuotient(QapCompiler q, String when) {
        for (int k = 0; k < 3; k++) {
            int at = k;
            Checks.refused(q, "H at " + k + " " + when, () -> q.coeff(H, at));
            Checks.refused(q, "R at " + k + " " + when, () -> q.coeff(R, at));
        }
    }

    private static void range(QapCompiler q, int which, int length) {
        for (int k : new int[] {Checks.MIN, -32, -1, length, length + 1, 32, 33, 64, 223, 224, P}) {
            Checks.due("coeff(" + which + ", " + k + ")", q.coeff(which, k), -1);
        }
        for (int k = 0; k < length; k++) {
            int got = q.coeff(which, k);
            Checks.due("coeff(" + which + ", " + k + ") is a field value", got >= 0 && got < P, true);
        }
    }

    private static void promise13RangesOfMost() {
        Checks.sentence("Promise 13", "4. k outside the range of which -> -1. Ranges: A, B, C, H, R: [0, m)");
        for (int m = 1; m <= 16; m++) {
            QapCompiler q = Circuits.sizedDivided(m, 8, 9);
            for (int which : new int[] {QapCompiler.POLY_A, QapCompiler.POLY_B, QapCompiler.POLY_C, H, R}) {
                range(q, which, m);
            }
        }
        QapCompiler q = Circuits.mixedDivided();
        Checks.refused(q, "coeff(POLY_R, 3)", () -> q.coeff(R, 3));
        Checks.refused(q, "coeff(POLY_H, -1)", () -> q.coeff(H, -1));
    }

    private static void promise13RangeOfZ() {
        Checks.sentence("Promise 13", "Z: [0, m]");
        for (int m = 1; m <= 16; m++) {
            range(Circuits.sizedDivided(m, 8, 9), Z, m + 1);
        }
    }

    private static void promise13RangeOfP() {
        Checks.sentence("Promise 13", "P: [0, 2m-1)");
        for (int m = 1; m <= 16; m++) {
            range(Circuits.sizedDivided(m, 8, 9), PP, 2 * m - 1);
        }
    }

    private static void promise13TestsInOrder() {
        Checks.sentence("Promise 13", "Tests in order");
        QapCompiler building = Circuits.mixed();
        Checks.refused(building, "building, which and k wrong", () -> building.coeff(7, -1));
        Checks.refused(building, "building, no quotient, k wrong", () -> building.coeff(H, 3));
        QapCompiler q = Circuits.mixedCompiled();
        Checks.refused(q, "which and k wrong", () -> q.coeff(Checks.MIN, P));
        Checks.refused(q, "which and k wrong the other way", () -> q.coeff(P, Checks.MIN));
        Checks.refused(q, "no quotient, k wrong", () -> q.coeff(R, P));
        Checks.refused(q, "no quotient, k negative", () -> q.coeff(H, -1));
    }

    private static void promise13TopOfH() {
        Checks.sentence("Promise 13", "Coefficient m-1 of H is always 0");
        for (int m = 1; m <= 16; m++) {
            Checks.due("m " + m + ", 0", Circuits.sizedDivided(m, 0, 0).coeff(H, m - 1), 0);
            Checks.due("m " + m + ", not exact", Circuits.sizedDivided(m, 99, P - 1).coeff(H, m - 1), 0);
            Checks.due("m " + m + ", exact", Circuits.sizedDivided(m, 99, -99).coeff(H, m - 1), 0);
        }
    }

    private static void promise13TopOfZ() {
        Checks.sentence("Promise 13", "coefficient m of Z is 1");
        for (int m = 1; m <= 16; m++) {
            QapCompiler q = Circuits.sized(m);
            q.compile();
            Checks.due("m " + m + ", compiled", q.coeff(Z, m), 1);
            q.setWitness(1, 5);
            q.divide();
            Checks.due("m " + m + ", divided", q.coeff(Z, m), 1);
        }
    }

    private static void promise13ChangesNothing() {
        Checks.sentence("Promise 13", "Changes nothing.");
        for (int which = 0; which < 7; which++) {
            int of = which;
            QapCompiler q = Circuits.mixedDivided();
            for (int k = 0; k < lengthOf(which, 3); k++) {
                int at = k;
                int due = Circuits.mixedDivided().coeff(of, at);
                Checks.answersWithoutChange(q, "coeff(" + which + ", " + k + ")", () -> q.coeff(of, at), due);
            }
        }
    }

    private static void promise14Value() {
        Checks.sentence("Promise 14", "`evaluate(which, x)` answers the value of polynomial which at reduce(x)");
        for (int m = 1; m <= 16; m++) {
            Exact.evaluations(Circuits.sizedDivided(m, P - 1, P - 1));
        }
        QapCompiler line = Circuits.remainderLine(4, 3);
        Checks.due("R = 4 + 3X at 0", line.evaluate(R, 0), 4);
        Checks.due("R = 4 + 3X at -1", line.evaluate(R, -1), 1);
        Checks.due("R = 4 + 3X at -2", line.evaluate(R, -2), P - 2);
        Checks.due("Z = (X - 1)(X - 2) at 0", line.evaluate(Z, 0), 2);
        Checks.due("Z = (X - 1)(X - 2) at -1", line.evaluate(Z, -1), 6);
    }

    private static final String SAME_TESTS = "the same tests in the same order as coeff (there is no k test)";

    private static void promise14Which() {
        Checks.sentence("Promise 14, which", SAME_TESTS);
        QapCompiler q = Circuits.mixedDivided();
        for (int which : NO_POLYNOMIAL) {
            for (int x : new int[] {0, 1, -1, P}) {
                Checks.refused(q, "evaluate(" + which + ", " + x + ")", () -> q.evaluate(which, x));
            }
        }
        Checks.due("0 is one", q.evaluate(0, 0) != -1, true);
        Checks.due("6 is one", q.evaluate(6, 0) != -1, true);
    }

    private static void promise14NotCompiled() {
        Checks.sentence("Promise 14, not COMPILED", SAME_TESTS);
        QapCompiler fresh = new QapCompiler(8, 4);
        QapCompiler q = Circuits.mixed();
        q.divide();
        for (int which = 0; which < 7; which++) {
            int of = which;
            Checks.refused(fresh, "evaluate(" + which + ", 1) of a new object", () -> fresh.evaluate(of, 1));
            Checks.refused(q, "evaluate(" + which + ", 1) while building", () -> q.evaluate(of, 1));
        }
        q.compile();
        for (int which = 0; which < 5; which++) {
            Checks.due("evaluate(" + which + ", 1) when compiled", q.evaluate(which, 1) != -1, true);
        }
    }

    private static void promise14NoQuotient() {
        Checks.sentence("Promise 14, no quotient", SAME_TESTS);
        QapCompiler q = Circuits.mixedCompiled();
        Checks.refused(q, "H when compiled", () -> q.evaluate(H, 1));
        Checks.refused(q, "R when compiled", () -> q.evaluate(R, 1));
        q.divide();
        Checks.due("H when divided", q.evaluate(H, 1) != -1, true);
        Checks.due("R when divided", q.evaluate(R, 1) != -1, true);
        q.setWitness(1, 0);
        Checks.refused(q, "H after setWitness", () -> q.evaluate(H, 1));
        Checks.refused(q, "R after setWitness", () -> q.evaluate(R, 1));
        q.divide();
        q.solve();
        Checks.refused(q, "H after solve", () -> q.evaluate(H, 1));
        Checks.refused(q, "R after solve", () -> q.evaluate(R, 1));
    }

    private static void promise14TestsInOrder() {
        Checks.sentence("Promise 14, several at once", SAME_TESTS);
        QapCompiler building = Circuits.mixed();
        Checks.refused(building, "building, which wrong", () -> building.evaluate(7, Checks.MIN));
        Checks.refused(building, "building, no quotient", () -> building.evaluate(R, P));
        QapCompiler q = Circuits.mixedCompiled();
        Checks.refused(q, "no quotient, which wrong", () -> q.evaluate(-1, P));
    }

    private static void promise14AnyX() {
        Checks.sentence("Promise 14", "Any int x is accepted; x and reduce(x) give the same answer. "
            + "The result is a field value.");
        QapCompiler q = Circuits.sizedDivided(16, 123456789, P - 5);
        for (int which = 0; which < 7; which++) {
            for (int x : Circuits.EDGES) {
                int got = q.evaluate(which, x);
                Checks.due("evaluate(" + which + ", " + x + ") in the field", got >= 0 && got < P, true);
                Checks.due("evaluate(" + which + ", " + x + ")", got, q.evaluate(which, (int) Circuits.reduced(x)));
            }
        }
    }

    private static void promise14ChangesNothing() {
        Checks.sentence("Promise 14", "Changes nothing.");
        for (int which = 0; which < 7; which++) {
            int of = which;
            QapCompiler q = Circuits.mixedDivided();
            int due = Circuits.mixedDivided().evaluate(of, -9);
            Checks.answersWithoutChange(q, "evaluate(" + which + ", -9)", () -> q.evaluate(of, -9), due);
        }
    }

    private static void promise14Satisfied() {
        Checks.sentence("Promise 14", "While the quotient exists and the object is SATISFIED, evaluate(POLY_P, x) = "
            + "(evaluate(POLY_H, x) * evaluate(POLY_Z, x)) mod p for every int x.");
        for (int m = 1; m <= 16; m++) {
            QapCompiler q = Circuits.sizedDivided(m, 777, -777);
            Checks.due("SATISFIED", satisfied(q), 1);
            for (int x : Circuits.EDGES) {
                long due = (long) q.evaluate(H, x) * q.evaluate(Z, x) % P;
                Checks.due("m " + m + ", P at " + x, q.evaluate(PP, x), due);
            }
            Checks.due("H is not 0, m " + m, q.evaluate(H, 3) != 0, m > 1);
        }
    }

    private static void promise15NoQuotient() {
        Checks.sentence("Promise 15", "No quotient -> -1.");
        QapCompiler fresh = new QapCompiler(8, 4);
        QapCompiler q = Circuits.mixed();
        q.divide();
        for (int x : Circuits.EDGES) {
            Checks.due("a new object at " + x, fresh.checkAt(x), -1);
            Checks.due("building, at " + x, q.checkAt(x), -1);
        }
        q.compile();
        Checks.refused(q, "compiled", () -> q.checkAt(1));
        q.divide();
        Checks.due("divided", q.checkAt(1), 1);
        q.setWitness(1, 0);
        Checks.refused(q, "after setWitness", () -> q.checkAt(1));
        q.divide();
        q.solve();
        Checks.refused(q, "after solve", () -> q.checkAt(1));
    }

    private static void promise15Answer() {
        Checks.sentence("Promise 15", "Certificate check at r = reduce(x). [..] "
            + "Otherwise 1 if P(r) = H(r) * Z(r) (mod p), else 0.");
        for (int m = 1; m <= 16; m++) {
            QapCompiler q = Circuits.sizedDivided(m, 5, 6);
            q.setWitness(4, 1);
            q.divide();
            for (int x : Circuits.EDGES) {
                long product = (long) q.evaluate(H, x) * q.evaluate(Z, x) % P;
                Checks.due("m " + m + ", at " + x, q.checkAt(x), q.evaluate(PP, x) == product ? 1 : 0);
            }
            Checks.due("m " + m + ", a check that fails", q.checkAt(123), 0);
        }
        QapCompiler line = Circuits.remainderLine(-5, 1);
        int[] zeros = {5, 5 - P};
        int[] others = {4, 6, -5, 0, P, Checks.MIN};
        for (int x : zeros) {
            Checks.due("R = X - 5 at " + x, line.checkAt(x), 1);
        }
        for (int x : others) {
            Checks.due("R = X - 5 at " + x, line.checkAt(x), 0);
        }
    }

    // Where Z is 0 the check tells whether that point's constraint holds.
    private static void promise15AtThePoints() {
        Checks.sentence("Promise 15", "1 if P(r) = H(r) * Z(r) (mod p), else 0 (at the points)");
        for (int m = 1; m <= 16; m++) {
            QapCompiler q = Circuits.sizedDivided(m, 5, 6);
            for (int j = 0; j < m; j++) {
                int point = q.info(QapCompiler.INFO_POINT, j);
                Checks.due("m " + m + ", point " + j, q.checkAt(point), j % 2 == 0 ? 1 : 0);
            }
        }
    }

    private static void promise15CurrentWitness() {
        Checks.sentence("Promise 15", "P uses the current witness.");
        QapCompiler q = Circuits.sizedDivided(3, 5, 6);
        Checks.due("5 + 6 is not 0", q.checkAt(1000), 0);
        q.setWitness(2, -5);
        Checks.due("no quotient", q.checkAt(1000), -1);
        q.divide();
        Checks.due("5 - 5 is 0", q.checkAt(1000), 1);
        q.setWitness(4, 1);
        q.divide();
        Checks.due("-5 * 5 is not 1", q.checkAt(1000), 0);
        q.solve();
        q.divide();
        Checks.due("solved", q.checkAt(1000), 1);
    }

    private static void promise15ChangesNothing() {
        Checks.sentence("Promise 15", "Changes nothing.");
        QapCompiler q = Circuits.mixedDivided();
        Checks.answersWithoutChange(q, "checkAt(77)", () -> q.checkAt(77), 0);
        QapCompiler exact = Circuits.sizedDivided(4, 5, -5);
        Checks.answersWithoutChange(exact, "checkAt(77)", () -> exact.checkAt(77), 1);
    }

    private static void promise15Satisfied() {
        Checks.sentence("Promise 15", "While the quotient exists and the object is SATISFIED, "
            + "checkAt(x) = 1 for every int x.");
        for (int m = 1; m <= 16; m++) {
            QapCompiler q = Circuits.sizedDivided(m, -1, 1);
            Checks.due("SATISFIED", satisfied(q), 1);
            for (int x : Circuits.EDGES) {
                Checks.due("m " + m + ", at " + x, q.checkAt(x), 1);
            }
            for (int x = -200; x <= 200; x++) {
                Checks.due("m " + m + ", at " + x, q.checkAt(x), 1);
            }
        }
    }
}
