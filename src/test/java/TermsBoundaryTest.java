/** The section "Terms": a test for each sentence that names a boundary case. */
public final class TermsBoundaryTest {
    private static final int ADD = Circuits.ADD;
    private static final int MUL = Circuits.MUL;
    private static final int CMUL = Circuits.CMUL;
    private static final int P = Checks.P;

    public static void main(String[] args) {
        fieldValuesAreBelowP();
        reduceAtThePoints();
        reduceInTheWitness();
        reduceOfTheConstants();
        reduceWhereItIsEvaluated();
        reduceWhereItIsChecked();
        sumsWrap();
        differencesWrap();
        productsWrap();
        longSumsDoNotOverflow();
        polynomialsDoNotOverflow();
        coefficientsByPower();
        wiresInCreationOrder();
        wireZeroFromTheStart();
        operandsAreOlder();
        variablesByKind();
        formOfVariable();
        formOfSum();
        formOfMultiple();
        storedValueOfNewWire();
        assignmentOfOne();
        valuesOfKinds();
        constraintsInCreationOrder();
        rowsOfProduct();
        rowsOfAssertion();
        constraintHoldsModP();
        satisfiedMeansEvery();
        satisfiedWithoutConstraints();
        pointsExist();
        pointsAtFirst();
        pointsAreDistinct();
        constraintBelongsToItsPoint();
        columnsHaveDegreeBelowM();
        sumsOfColumns();
        productHasItsTopCoefficient();
        vanishingIsMonic();
        remainderIsShort();
        buildingUntilCompiled();
        compiledForLife();
        frozen();
        witnessMayChange();
        quotientLives();
        refusedChangesNothingAtOnce();
        refusedChangesNothingLater();
        readingChangesNothingLater();
        refusalIsNoFieldValue();
        Checks.finish();
    }

    private static int value(QapCompiler q, int w) {
        return q.info(QapCompiler.INFO_VALUE, w);
    }

    private static int satisfied(QapCompiler q) {
        return q.info(QapCompiler.INFO_SATISFIED, 0);
    }

    private static void fieldValuesAreBelowP() {
        Checks.sentence("Field", "Field values are ints in [0, p).");
        QapCompiler q = new QapCompiler(8, 4);
        q.addInput();
        q.addGate(CMUL, 1, P);
        q.addGate(CMUL, 1, -1);
        q.addGate(ADD, 1, 3);
        q.addGate(MUL, 1, 3);
        q.assertEqual(1, 1);
        q.setPoint(0, P);
        q.setWitness(1, -P);
        Checks.due("P as a constant", q.linearForm(2, 1), 0);
        Checks.due("1 + (p - 1)", q.linearForm(4, 1), 0);
        Checks.due("1 - 1", q.matrixEntry(QapCompiler.MATRIX_A, 1, 1), 0);
        Checks.due("P as a point", q.info(QapCompiler.INFO_POINT, 0), 0);
        Checks.due("-P as a value", value(q, 1), 0);
        q.setWitness(1, 1);
        Checks.due("1 * 1 + (p - 1) * 1", value(q, 4), 0);
        q.compile();
        Checks.due("Z = (X - 0)(X - 2) at 0", q.coeff(QapCompiler.POLY_Z, 0), 0);
        Checks.due("Z at P", q.evaluate(QapCompiler.POLY_Z, P), 0);
        q.setWitness(5, -1);
        q.divide();
        for (int which = 0; which < 7; which++) {
            for (int x : Circuits.EDGES) {
                int got = q.evaluate(which, x);
                Checks.due("evaluate(" + which + ", " + x + ") in the field", got >= 0 && got < P, true);
            }
        }
    }

    private static final String REDUCE = "reduce(v), for any int v, is the unique r in [0, p) with r = v (mod p)";

    private static void reduceAtThePoints() {
        Checks.sentence("Field, at setPoint", REDUCE);
        for (int v : Circuits.EDGES) {
            QapCompiler q = new QapCompiler(8, 4);
            for (int j = 0; j < 4; j++) {
                q.setPoint(j, 1000 + j);
            }
            Checks.due("setPoint(3, " + v + ")", q.setPoint(3, v), true);
            Checks.due("the point " + v, q.info(QapCompiler.INFO_POINT, 3), Circuits.reduced(v));
        }
    }

    private static void reduceInTheWitness() {
        Checks.sentence("Field, at setWitness", "reduce(-1) = p-1, reduce(-2147483648) = p-1, reduce(2147483647) = 0");
        QapCompiler q = Circuits.mixed();
        q.setWitness(1, -1);
        Checks.due("-1", value(q, 1), 2147483646);
        q.setWitness(1, -2147483648);
        Checks.due("the least int", value(q, 1), 2147483646);
        q.setWitness(1, 2147483647);
        Checks.due("the greatest int", value(q, 1), 0);
        for (int v : Circuits.EDGES) {
            q.setWitness(1, v);
            q.setWitness(6, v);
            Checks.due("an input of " + v, value(q, 1), Circuits.reduced(v));
            Checks.due("a product of " + v, value(q, 6), Circuits.reduced(v));
        }
    }

    private static void reduceOfTheConstants() {
        Checks.sentence("Field, at addGate", REDUCE);
        for (int c : Circuits.EDGES) {
            QapCompiler q = new QapCompiler(8, 4);
            q.addGate(CMUL, 0, c);
            Checks.due("form of 1 * " + c, q.linearForm(1, 0), Circuits.reduced(c));
            Checks.due("value of 1 * " + c, value(q, 1), Circuits.reduced(c));
        }
    }

    // With the one point 0, Z is X itself.
    private static void reduceWhereItIsEvaluated() {
        Checks.sentence("Field, at evaluate", REDUCE);
        QapCompiler q = new QapCompiler(8, 4);
        q.assertEqual(0, 0);
        q.setPoint(0, 0);
        q.compile();
        for (int x : Circuits.EDGES) {
            Checks.due("X at " + x, q.evaluate(QapCompiler.POLY_Z, x), Circuits.reduced(x));
        }
    }

    private static void reduceWhereItIsChecked() {
        Checks.sentence("Field, at checkAt", REDUCE);
        QapCompiler zeroAtMinusOne = Circuits.remainderLine(1, 1);
        QapCompiler zeroAtZero = Circuits.remainderLine(0, 1);
        for (int x : Circuits.EDGES) {
            long r = Circuits.reduced(x);
            Checks.due("R = X + 1 at " + x, zeroAtMinusOne.checkAt(x), r == P - 1 ? 1 : 0);
            Checks.due("R = X at " + x, zeroAtZero.checkAt(x), r == 0 ? 1 : 0);
        }
        QapCompiler exact = Circuits.sizedDivided(16, 5, -5);
        for (int x : Circuits.EDGES) {
            Checks.due("R = 0 with a long H at " + x, exact.checkAt(x), 1);
        }
    }

    // Doubling 31 times multiplies by 2^31 = 1 (mod p); without a reduction the ints overflow on the way.
    private static void sumsWrap() {
        Checks.sentence("Field", "Sums [..] of field values are taken mod p");
        QapCompiler q = new QapCompiler(32, 4);
        for (int w = 1; w < 32; w++) {
            q.addGate(ADD, w - 1, w - 1);
            long due = (1L << w) % P;
            Checks.due("2^" + w + " as a form", q.linearForm(w, 0), due);
            Checks.due("2^" + w + " as a value", value(q, w), due);
        }
        QapCompiler s = new QapCompiler(8, 4);
        s.addInput();
        s.addInput();
        s.addGate(ADD, 1, 2);
        int[][] pairs = {{P - 1, 1}, {P - 1, P - 1}, {1073741824, 1073741823}, {1073741824, 1073741824}, {P - 2, 1}};
        for (int[] pair : pairs) {
            s.setWitness(1, pair[0]);
            s.setWitness(2, pair[1]);
            Checks.due(pair[0] + " + " + pair[1], value(s, 3), ((long) pair[0] + pair[1]) % P);
        }
    }

    private static void differencesWrap() {
        Checks.sentence("Field", "[..] differences [..] of field values are taken mod p");
        int[] ends = {0, 1, 2, 1073741824, P - 2, P - 1};
        for (int a : ends) {
            for (int b : ends) {
                QapCompiler q = new QapCompiler(8, 4);
                q.addGate(CMUL, 0, a);
                q.addGate(CMUL, 0, b);
                q.assertEqual(1, 2);
                long due = ((long) a - b + P) % P;
                Checks.due(a + " - " + b, q.matrixEntry(QapCompiler.MATRIX_A, 0, 0), due);
                q.compile();
                Checks.due(a + " - " + b + " as P", q.coeff(QapCompiler.POLY_P, 0), due);
                Checks.due("SATISFIED by " + a + " = " + b, satisfied(q), a == b ? 1 : 0);
            }
        }
    }

    private static void productsWrap() {
        Checks.sentence("Field", "[..] products of field values are taken mod p");
        int[] ends = {0, 1, 46341, 65536, 1073741824, 2000000011, P - 2, P - 1};
        for (int a : ends) {
            for (int b : ends) {
                QapCompiler q = new QapCompiler(8, 4);
                q.addInput();
                q.addGate(CMUL, 1, a);
                q.addGate(CMUL, 2, b);
                q.addGate(MUL, 2, 1);
                long due = (long) a * b % P;
                Checks.due(a + " * " + b + " as a form", q.linearForm(3, 1), due);
                q.setWitness(1, b);
                Checks.due(a + " * " + b + " as a value", value(q, 2), due);
                q.solve();
                Checks.due(a + " * " + b + " * " + b + " solved", value(q, 4), due * b % P);
            }
        }
    }

    private static final String TRUE_RESIDUE =
        "every answer is the true residue, never a result distorted by int or long overflow";

    // Fifteen inputs of -1, their negated sum: fifteen products of nearly 2^62 are added, which no long can hold.
    private static void longSumsDoNotOverflow() {
        Checks.sentence("Field, sums over the variables", TRUE_RESIDUE);
        QapCompiler q = new QapCompiler(32, 4);
        for (int w = 1; w <= 15; w++) {
            q.addInput();
            q.setWitness(w, -1);
        }
        int sum = 1;
        for (int w = 2; w <= 15; w++) {
            sum = q.addGate(ADD, sum, w);
        }
        int negated = q.addGate(CMUL, sum, -1);
        Checks.due("the last wire but one", negated, 30);
        q.addGate(MUL, negated, negated);
        Checks.due("the sum", value(q, sum), P - 15);
        Checks.due("the negated sum", value(q, negated), 15);
        Checks.due("not SATISFIED", satisfied(q), 0);
        Checks.due("solve", q.solve(), 1);
        Checks.due("its square", value(q, 31), 225);
        Checks.due("SATISFIED", satisfied(q), 1);
        q.compile();
        Checks.due("A", q.coeff(QapCompiler.POLY_A, 0), 15);
        Checks.due("B", q.coeff(QapCompiler.POLY_B, 0), 15);
        Checks.due("C", q.coeff(QapCompiler.POLY_C, 0), 225);
        Checks.due("P", q.coeff(QapCompiler.POLY_P, 0), 0);
    }

    // Every size, with large points and values: each step of the definitions is taken with a remainder.
    private static void polynomialsDoNotOverflow() {
        Checks.sentence("Field, polynomials", TRUE_RESIDUE);
        for (int m = 1; m <= 16; m++) {
            QapCompiler q = Circuits.sized(m);
            q.compile();
            q.setWitness(1, P - 2);
            q.setWitness(2, P - 1);
            for (int w = 4; w < 4 + (m + 1) / 2; w++) {
                q.setWitness(w, P - w);
            }
            q.divide();
            Exact.vanishing(q, m);
            Exact.columns(q, m);
            Exact.weightedColumns(q, m);
            Exact.product(q, m);
            Exact.quotient(q, m);
            Exact.evaluations(q);
        }
    }

    // R is -4 + 3X: the lowest coefficient is the value at 0, and all of them together the value at 1.
    private static void coefficientsByPower() {
        Checks.sentence("Field", "coefficient k of a polynomial is that of x^k.");
        QapCompiler q = Circuits.remainderLine(-4, 3);
        Checks.due("R at x^0", q.coeff(QapCompiler.POLY_R, 0), P - 4);
        Checks.due("R at x^1", q.coeff(QapCompiler.POLY_R, 1), 3);
        Checks.due("Z = 2 - 3X + X^2 at x^0", q.coeff(QapCompiler.POLY_Z, 0), 2);
        Checks.due("Z = 2 - 3X + X^2 at x^1", q.coeff(QapCompiler.POLY_Z, 1), P - 3);
        Checks.due("Z = 2 - 3X + X^2 at x^2", q.coeff(QapCompiler.POLY_Z, 2), 1);
        QapCompiler divided = Circuits.mixedDivided();
        for (int which = 0; which < 7; which++) {
            int length = which == QapCompiler.POLY_Z ? 4 : which == QapCompiler.POLY_P ? 5 : 3;
            long sum = 0;
            for (int k = 0; k < length; k++) {
                sum += divided.coeff(which, k);
            }
            Checks.due(which + " at 0", divided.evaluate(which, 0), divided.coeff(which, 0));
            Checks.due(which + " at 1", divided.evaluate(which, 1), sum % P);
        }
    }

    private static void wiresInCreationOrder() {
        Checks.sentence("Wires", "Wires are numbered 0, 1, 2, ... in creation order; wireCount is how many exist.");
        QapCompiler q = new QapCompiler(32, 16);
        for (int w = 1; w < 32; w++) {
            int got = w % 4 == 0 ? q.addInput() : q.addGate(1 + w % 4, w - 1, 0);
            Checks.due("wire " + w, got, w);
            Checks.due("wireCount", q.info(QapCompiler.INFO_WIRES, 0), w + 1);
            Checks.due("kind of " + w, q.info(QapCompiler.INFO_KIND, w), 1 + w % 4);
        }
    }

    private static void wireZeroFromTheStart() {
        Checks.sentence("Wires", "Wire 0 has kind KIND_ONE and exists from the start.");
        QapCompiler q = new QapCompiler(8, 4);
        Checks.due("kind", q.info(QapCompiler.INFO_KIND, 0), QapCompiler.KIND_ONE);
        Checks.due("form", q.linearForm(0, 0), 1);
        Checks.due("value", value(q, 0), 1);
        Checks.due("no wire 1", q.info(QapCompiler.INFO_KIND, 1), -1);
        Checks.due("an operand at once", q.assertEqual(0, 0), 0);
        Checks.due("and of a gate", q.addGate(MUL, 0, 0), 1);
    }

    private static void operandsAreOlder() {
        Checks.sentence("Wires", "addGate makes [..] wires whose operands are older wires.");
        for (int kind = ADD; kind <= CMUL; kind++) {
            int k = kind;
            QapCompiler q = Circuits.mixed();
            Checks.refused(q, "a gate of itself, kind " + k, () -> q.addGate(k, 7, 0));
            if (kind != CMUL) {
                Checks.refused(q, "a gate with itself, kind " + k, () -> q.addGate(k, 0, 7));
            }
            Checks.due("a gate of the youngest, kind " + k, q.addGate(k, 6, 6), 7);
            Checks.due("now the youngest is 7, kind " + k, q.addGate(k, 7, 7), 8);
        }
    }

    private static void variablesByKind() {
        Checks.sentence("Wires", "The VARIABLES are the wires of kind ONE, INPUT and MUL.");
        QapCompiler q = Circuits.mixedCompiled();
        boolean[] variable = {true, true, true, false, false, true, true};
        for (int v = 0; v < variable.length; v++) {
            for (int w = 0; w < variable.length; w++) {
                Checks.due("linearForm(" + w + ", " + v + ")", q.linearForm(w, v) != -1, variable[v]);
            }
            for (int matrix = 0; matrix < 3; matrix++) {
                for (int j = 0; j < 3; j++) {
                    String at = "(" + matrix + ", " + j + ", " + v + ")";
                    Checks.due("matrixEntry" + at, q.matrixEntry(matrix, j, v) != -1, variable[v]);
                    Checks.due("columnCoeff" + at, q.columnCoeff(matrix, v, j) != -1, variable[v]);
                }
            }
        }
    }

    private static void formOfVariable() {
        Checks.sentence("Wires", "ONE, INPUT or MUL wire w: coefficient 1 at variable w, 0 at every other variable");
        QapCompiler q = new QapCompiler(32, 16);
        for (int w = 1; w < 32; w++) {
            if (w % 2 == 0) {
                q.addGate(MUL, w - 1, w - 2);
            } else {
                q.addInput();
            }
        }
        for (int w = 0; w < 32; w++) {
            for (int v = 0; v < 32; v++) {
                Checks.due("linearForm(" + w + ", " + v + ")", q.linearForm(w, v), w == v ? 1 : 0);
            }
        }
    }

    private static void formOfSum() {
        Checks.sentence("Wires", "ADD(a,b): form_a + form_b, coefficientwise");
        QapCompiler q = new QapCompiler(16, 4);
        q.addInput();
        q.addGate(CMUL, 1, -1);
        q.addGate(ADD, 1, 2);
        q.addGate(ADD, 2, 2);
        q.addGate(ADD, 1, 0);
        q.addInput();
        q.addGate(MUL, 3, 3);
        q.addGate(ADD, 7, 6);
        Checks.due("x - x at x", q.linearForm(3, 1), 0);
        Checks.due("x - x at one", q.linearForm(3, 0), 0);
        Checks.due("-x - x at x", q.linearForm(4, 1), P - 2);
        Checks.due("x + 1 at one", q.linearForm(5, 0), 1);
        Checks.due("x + 1 at x", q.linearForm(5, 1), 1);
        Checks.due("x + 1 at a younger input", q.linearForm(5, 6), 0);
        Checks.due("x + 1 at a younger product", q.linearForm(5, 7), 0);
        Checks.due("product + input at the product", q.linearForm(8, 7), 1);
        Checks.due("product + input at the input", q.linearForm(8, 6), 1);
        Checks.due("product + input at x", q.linearForm(8, 1), 0);
    }

    private static void formOfMultiple() {
        Checks.sentence("Wires", "CMUL(a,c): reduce(c) * form_a, coefficientwise.");
        for (int c : Circuits.EDGES) {
            QapCompiler q = new QapCompiler(8, 4);
            q.addInput();
            q.addGate(ADD, 1, 0);
            q.addGate(CMUL, 2, c);
            q.addGate(CMUL, 3, c);
            q.addInput();
            long r = Circuits.reduced(c);
            for (int v = 0; v < 2; v++) {
                Checks.due(c + " * (x + 1) at " + v, q.linearForm(3, v), r);
                Checks.due(c + " * " + c + " * (x + 1) at " + v, q.linearForm(4, v), r * r % P);
            }
            Checks.due(c + " * (x + 1) at a younger input", q.linearForm(3, 5), 0);
        }
    }

    private static void storedValueOfNewWire() {
        Checks.sentence("Witness", "Every INPUT and MUL wire holds a stored value, 0 when the wire is made.");
        QapCompiler q = new QapCompiler(32, 16);
        q.addInput();
        q.setWitness(1, 5);
        for (int w = 2; w < 32; w++) {
            if (w % 2 == 0) {
                q.addGate(MUL, w - 1, 1);
            } else {
                q.addInput();
            }
            Checks.due("a new wire " + w, value(q, w), 0);
            q.setWitness(w, w);
            Checks.due("the wire before " + w, value(q, w - 1), w == 2 ? 5 : w - 1);
        }
    }

    private static void assignmentOfOne() {
        Checks.sentence("Witness", "The assignment x has x_0 = 1");
        QapCompiler q = Circuits.mixed();
        Checks.due("building", value(q, 0), 1);
        Checks.refusedFalse(q, "setWitness(0, 0)", () -> q.setWitness(0, 0));
        q.solve();
        Checks.due("solved", value(q, 0), 1);
        q.compile();
        q.setWitness(1, 9);
        q.divide();
        Checks.refusedFalse(q, "setWitness(0, 7)", () -> q.setWitness(0, 7));
        Checks.due("divided", value(q, 0), 1);
    }

    private static void valuesOfKinds() {
        Checks.sentence("Witness", "So value(0) = 1, an INPUT or MUL wire's value is its stored value, "
            + "value(ADD(a,b)) = value(a) + value(b), value(CMUL(a,c)) = reduce(c) * value(a).");
        QapCompiler q = Circuits.mixed();
        q.addGate(ADD, 6, 0);
        q.addGate(CMUL, 7, P);
        q.addGate(CMUL, 7, Checks.MIN);
        int[] ends = {0, 1, P - 1, 1073741824, 2000000011};
        for (int x : ends) {
            for (int y : ends) {
                q.setWitness(1, x);
                q.setWitness(2, y);
                q.setWitness(6, x);
                long sum = ((long) x + y) % P;
                Checks.due("an input", value(q, 1), x);
                Checks.due("x + y", value(q, 3), sum);
                Checks.due("-3 * (x + y)", value(q, 4), (P - 3L) * sum % P);
                Checks.due("a product not yet solved", value(q, 5), 0);
                Checks.due("a product set by hand", value(q, 6), x);
                Checks.due("that product + 1", value(q, 7), (x + 1L) % P);
                Checks.due("p times that", value(q, 8), 0);
                Checks.due("the least int times that", value(q, 9), (P - 1L) * ((x + 1L) % P) % P);
            }
        }
    }

    private static void constraintsInCreationOrder() {
        Checks.sentence("Constraints", "Constraints are numbered 0..m-1 in creation order (m = constraint count).");
        QapCompiler q = new QapCompiler(32, 16);
        q.addInput();
        for (int j = 0; j < 16; j++) {
            Checks.due("constraint count", q.info(QapCompiler.INFO_CONSTRAINTS, 0), j);
            Checks.due("no constraint " + j + " yet", q.matrixEntry(QapCompiler.MATRIX_B, j, 0), -1);
            if (j % 3 == 1) {
                q.addGate(MUL, 1, 1);
            } else {
                Checks.due("assertion " + j, q.assertEqual(1, 0), j);
            }
            q.addGate(ADD, 0, 0);
        }
        for (int j = 0; j < 16; j++) {
            int due = j % 3 == 1 ? 0 : 1;
            Checks.due("B_" + j + " at one", q.matrixEntry(QapCompiler.MATRIX_B, j, 0), due);
        }
    }

    private static void rowsOfProduct() {
        Checks.sentence("Constraints", "made by addGate(KIND_MUL, a, b) making wire w: A_j = form_a, B_j = form_b, "
            + "C_j = 1 at w, 0 elsewhere");
        QapCompiler q = Circuits.mixed();
        q.addGate(MUL, 4, 3);
        q.addInput();
        int[] variables = {0, 1, 2, 5, 6, 7, 8};
        int[][] operands = {{4, 1, 5}, {5, 5, 6}, {4, 3, 7}};
        int[] rows = {0, 1, 3};
        for (int i = 0; i < rows.length; i++) {
            for (int v : variables) {
                String at = "_" + rows[i] + " at " + v;
                Checks.due("A" + at, q.matrixEntry(QapCompiler.MATRIX_A, rows[i], v), q.linearForm(operands[i][0], v));
                Checks.due("B" + at, q.matrixEntry(QapCompiler.MATRIX_B, rows[i], v), q.linearForm(operands[i][1], v));
                Checks.due("C" + at, q.matrixEntry(QapCompiler.MATRIX_C, rows[i], v), v == operands[i][2] ? 1 : 0);
            }
        }
    }

    private static void rowsOfAssertion() {
        Checks.sentence("Constraints", "made by assertEqual(a, b): A_j = form_a - form_b, "
            + "B_j = 1 at variable 0, 0 elsewhere; C_j = 0.");
        QapCompiler q = Circuits.mixed();
        q.assertEqual(4, 3);
        q.assertEqual(3, 3);
        q.addInput();
        int[][] operands = {{6, 2}, {4, 3}, {3, 3}};
        for (int v : new int[] {0, 1, 2, 5, 6, 7}) {
            for (int i = 0; i < operands.length; i++) {
                int j = 2 + i;
                String at = "_" + j + " at " + v;
                long due = ((long) q.linearForm(operands[i][0], v) - q.linearForm(operands[i][1], v) + P) % P;
                Checks.due("A" + at, q.matrixEntry(QapCompiler.MATRIX_A, j, v), due);
                Checks.due("B" + at, q.matrixEntry(QapCompiler.MATRIX_B, j, v), v == 0 ? 1 : 0);
                Checks.due("C" + at, q.matrixEntry(QapCompiler.MATRIX_C, j, v), 0);
            }
        }
    }

    private static void constraintHoldsModP() {
        Checks.sentence("Constraints", "Constraint j holds when (A_j . x) * (B_j . x) = C_j . x (dot products mod p).");
        QapCompiler q = new QapCompiler(8, 4);
        q.addInput();
        q.addInput();
        q.addGate(MUL, 1, 2);
        int[][] rights = {{P - 1, P - 1, 1}, {1073741824, 2, 1}, {65536, 65536, 2}, {P - 1, 2, P - 2}, {0, P - 1, 0}};
        for (int[] right : rights) {
            q.setWitness(1, right[0]);
            q.setWitness(2, right[1]);
            q.setWitness(3, right[2]);
            Checks.due(right[0] + " * " + right[1] + " = " + right[2], satisfied(q), 1);
            q.setWitness(3, right[2] + 1);
            Checks.due(right[0] + " * " + right[1] + " = " + right[2] + " + 1", satisfied(q), 0);
        }
    }

    private static void satisfiedMeansEvery() {
        Checks.sentence("Constraints", "SATISFIED means every constraint j < m holds");
        QapCompiler q = new QapCompiler(32, 16);
        for (int j = 0; j < 16; j++) {
            q.addGate(MUL, 0, 0);
        }
        Checks.due("none holds", satisfied(q), 0);
        Checks.due("solve", q.solve(), 16);
        Checks.due("all hold", satisfied(q), 1);
        for (int w = 1; w <= 16; w++) {
            q.setWitness(w, 2);
            Checks.due("all but constraint " + (w - 1), satisfied(q), 0);
            q.setWitness(w, 1);
        }
        Checks.due("all hold again", satisfied(q), 1);
    }

    private static void satisfiedWithoutConstraints() {
        Checks.sentence("Constraints", "(true when m = 0)");
        QapCompiler q = new QapCompiler(8, 4);
        Checks.due("a new object", satisfied(q), 1);
        q.addInput();
        q.addGate(ADD, 1, 0);
        q.addGate(CMUL, 1, 3);
        q.setWitness(1, 5);
        Checks.due("wires but no constraint", satisfied(q), 1);
        q.assertEqual(1, 2);
        Checks.due("one that does not hold", satisfied(q), 0);
    }

    private static void pointsExist() {
        Checks.sentence("Points", "point[j] exists for j in [0, maxConstraints)");
        for (int size = 4; size <= 16; size++) {
            QapCompiler q = new QapCompiler(8, size);
            int last = size - 1;
            int beyond = size;
            Checks.due("setPoint(0) of " + size, q.setPoint(0, 500), true);
            Checks.due("setPoint(last) of " + size, q.setPoint(last, 600), true);
            Checks.due("the first of " + size, q.info(QapCompiler.INFO_POINT, 0), 500);
            Checks.due("the last of " + size, q.info(QapCompiler.INFO_POINT, last), 600);
            Checks.refusedFalse(q, "setPoint(" + beyond + ", 700)", () -> q.setPoint(beyond, 700));
            Checks.refusedFalse(q, "setPoint(-1, 700)", () -> q.setPoint(-1, 700));
            Checks.due("beyond " + size, q.info(QapCompiler.INFO_POINT, beyond), -1);
            Checks.due("before 0", q.info(QapCompiler.INFO_POINT, -1), -1);
        }
    }

    private static void pointsAtFirst() {
        Checks.sentence("Points", "initially point[j] = j+1");
        for (int size = 4; size <= 16; size++) {
            QapCompiler q = new QapCompiler(8, size);
            for (int j = 0; j < size; j++) {
                Checks.due("point " + j + " of " + size, q.info(QapCompiler.INFO_POINT, j), j + 1);
            }
        }
    }

    private static void pointsAreDistinct() {
        Checks.sentence("Points", "the points are always pairwise distinct");
        QapCompiler q = new QapCompiler(8, 16);
        for (int j = 0; j < 16; j++) {
            for (int k = 0; k < 16; k++) {
                int at = j;
                int value = k + 1;
                if (j != k) {
                    Checks.refusedFalse(q, "setPoint(" + at + ", " + value + ")", () -> q.setPoint(at, value));
                }
            }
        }
        Checks.due("out of the way", q.setPoint(0, -1), true);
        Checks.refusedFalse(q, "the same residue from below", () -> q.setPoint(15, Checks.MIN));
        Checks.refusedFalse(q, "the same residue from above", () -> q.setPoint(15, P - 1));
        Checks.due("the place left", q.setPoint(15, 1), true);
        Checks.due("and the other's", q.setPoint(0, 16), true);
        Checks.same("swapped", Checks.points(q), "points 16 2 3 4 5 6 7 8 9 10 11 12 13 14 15 1");
    }

    private static void constraintBelongsToItsPoint() {
        Checks.sentence("Points", "Constraint j belongs to point[j].");
        QapCompiler q = new QapCompiler(8, 4);
        int[] points = {P - 1, 0, 1073741824, 1};
        for (int j = 0; j < 4; j++) {
            q.setPoint(j, 100 + j);
        }
        for (int j = 0; j < 4; j++) {
            q.addGate(CMUL, 0, 10 + j);
            q.assertEqual(1 + j, 0);
            Checks.due("setPoint", q.setPoint(j, points[j]), true);
        }
        q.compile();
        for (int j = 0; j < 4; j++) {
            Checks.due("A at point " + j, q.evaluate(QapCompiler.POLY_A, points[j]), 9 + j);
            Checks.due("P at point " + j, q.evaluate(QapCompiler.POLY_P, points[j]), 9 + j);
        }
    }

    // Only the points in use count: the others may be anything.
    private static void columnsHaveDegreeBelowM() {
        Checks.sentence("QAP", "the column polynomial M_v is the unique polynomial of degree < m "
            + "with M_v(point[j]) = M_j[v] for every j < m.");
        for (int m = 1; m <= 16; m++) {
            QapCompiler q = Circuits.sized(m);
            QapCompiler other = Circuits.sized(m);
            for (int j = m; j < 16; j++) {
                other.setPoint(j, 1000 + j);
            }
            q.compile();
            other.compile();
            Exact.columns(q, m);
            int size = m;
            Checks.refused(q, "degree " + m, () -> q.columnCoeff(QapCompiler.MATRIX_A, 1, size));
            Checks.same("other points beyond m", Checks.polynomials(other), Checks.polynomials(q));
        }
    }

    // With every stored value 0, the column of the constant one is all that is left.
    private static void sumsOfColumns() {
        Checks.sentence("QAP", "With the current witness, A(x) = sum over variables v of x_v * A_v(x); "
            + "likewise B(x) and C(x).");
        for (int m = 1; m <= 16; m++) {
            QapCompiler q = Circuits.sized(m);
            q.compile();
            for (int matrix = 0; matrix < 3; matrix++) {
                for (int k = 0; k < m; k++) {
                    String at = "m " + m + ", all 0, " + matrix + " at " + k;
                    Checks.due(at, q.coeff(matrix, k), q.columnCoeff(matrix, 0, k));
                }
            }
            q.setWitness(1, -1);
            q.setWitness(2, Checks.MIN);
            q.setWitness(4, 1073741824);
            Exact.weightedColumns(q, m);
        }
    }

    // A and B go through (1, 1) and (2, 2), or are 3: the top coefficient of P is the product of theirs.
    private static void productHasItsTopCoefficient() {
        Checks.sentence("QAP", "P = A*B - C (degree at most 2m-2).");
        QapCompiler one = new QapCompiler(8, 4);
        one.addGate(CMUL, 0, 3);
        one.addGate(MUL, 1, 1);
        one.setWitness(2, 2);
        one.compile();
        Checks.due("m = 1, its only coefficient", one.coeff(QapCompiler.POLY_P, 0), 7);
        Checks.due("m = 1, none beyond", one.coeff(QapCompiler.POLY_P, 1), -1);
        QapCompiler two = new QapCompiler(8, 4);
        two.addGate(MUL, 0, 0);
        two.addGate(ADD, 0, 0);
        two.addGate(MUL, 2, 2);
        two.setWitness(1, 5);
        two.setWitness(3, 7);
        two.compile();
        Checks.due("X * X - (2 X + 3) at 0", two.coeff(QapCompiler.POLY_P, 0), P - 3);
        Checks.due("X * X - (2 X + 3) at 1", two.coeff(QapCompiler.POLY_P, 1), P - 2);
        Checks.due("X * X - (2 X + 3) at 2m-2", two.coeff(QapCompiler.POLY_P, 2), 1);
        Checks.due("none at 2m-1", two.coeff(QapCompiler.POLY_P, 3), -1);
        for (int m = 1; m <= 16; m++) {
            QapCompiler q = Circuits.sized(m);
            q.compile();
            q.setWitness(1, -1);
            Exact.product(q, m);
        }
    }

    private static void vanishingIsMonic() {
        Checks.sentence("QAP", "Z(x) = product over j < m of (x - point[j]) (monic, degree m).");
        for (int m = 1; m <= 16; m++) {
            QapCompiler q = Circuits.sized(m);
            q.setPoint(0, 0);
            q.compile();
            Exact.vanishing(q, m);
            Checks.due("coefficient m", q.coeff(QapCompiler.POLY_Z, m), 1);
            Checks.due("coefficient m + 1", q.coeff(QapCompiler.POLY_Z, m + 1), -1);
            for (int j = 0; j < 16; j++) {
                int point = q.info(QapCompiler.INFO_POINT, j);
                Checks.due("0 at point " + j + " of " + m, q.evaluate(QapCompiler.POLY_Z, point) == 0, j < m);
            }
        }
    }

    private static void remainderIsShort() {
        Checks.sentence("QAP", "divide() stores H and R, the unique polynomials with P = H*Z + R and degree of R < m.");
        for (int m = 1; m <= 16; m++) {
            QapCompiler q = Circuits.sized(m);
            q.compile();
            q.setWitness(1, 77);
            q.setWitness(2, 76);
            q.setWitness(4, -75);
            q.divide();
            Exact.quotient(q, m);
            Checks.due("R has a coefficient m - 1", q.coeff(QapCompiler.POLY_R, m - 1) != -1, true);
            Checks.due("R has none at m", q.coeff(QapCompiler.POLY_R, m), -1);
        }
    }

    private static void buildingUntilCompiled() {
        Checks.sentence("Phases", "The object is BUILDING until compile() succeeds");
        QapCompiler q = new QapCompiler(8, 4);
        Checks.refused(q, "compile without constraints", q::compile);
        Checks.due("still BUILDING", q.info(QapCompiler.INFO_COMPILED, 0), 0);
        Checks.due("addInput", q.addInput(), 1);
        Checks.due("addGate", q.addGate(ADD, 0, 1), 2);
        Checks.due("setPoint", q.setPoint(0, 9), true);
        Checks.refused(q, "compile, still without constraints", q::compile);
        Checks.due("assertEqual", q.assertEqual(1, 2), 0);
        q.solve();
        q.divide();
        Checks.due("BUILDING with a constraint", q.info(QapCompiler.INFO_COMPILED, 0), 0);
        Checks.due("compile", q.compile(), 1);
        Checks.due("COMPILED", q.info(QapCompiler.INFO_COMPILED, 0), 1);
    }

    private static void compiledForLife() {
        Checks.sentence("Phases", "then COMPILED for the rest of its life");
        QapCompiler q = Circuits.mixedCompiled();
        for (int i = 0; i < 3; i++) {
            q.setWitness(1, i);
            q.solve();
            q.divide();
            q.compile();
            q.addInput();
            q.addGate(ADD, 0, 0);
            q.assertEqual(0, 0);
            q.setPoint(0, 55);
            q.setWitness(0, 1);
            Checks.due("COMPILED", q.info(QapCompiler.INFO_COMPILED, 0), 1);
            Checks.due("Z is there", q.coeff(QapCompiler.POLY_Z, 3), 1);
        }
    }

    private static void frozen() {
        Checks.sentence("Phases", "the circuit and the points are frozen "
            + "(addInput, addGate, assertEqual and setPoint are refused)");
        QapCompiler q = Circuits.mixedCompiled();
        Checks.refused(q, "addInput", q::addInput);
        for (int kind = ADD; kind <= CMUL; kind++) {
            int k = kind;
            Checks.refused(q, "addGate of kind " + k, () -> q.addGate(k, 1, 1));
        }
        Checks.refused(q, "assertEqual", () -> q.assertEqual(1, 1));
        Checks.refusedFalse(q, "setPoint to a new value", () -> q.setPoint(0, 1000));
        Checks.refusedFalse(q, "setPoint to its own value", () -> q.setPoint(0, 1));
        Checks.refusedFalse(q, "setPoint of one not in use", () -> q.setPoint(4, 1000));
    }

    private static void witnessMayChange() {
        Checks.sentence("Phases", "the witness may still change");
        QapCompiler q = Circuits.mixedCompiled();
        Checks.due("setWitness", q.setWitness(1, 3), true);
        Checks.due("its value", value(q, 1), 3);
        Checks.due("A follows", q.evaluate(QapCompiler.POLY_A, 1), P - 9);
        Checks.due("solve", q.solve(), 2);
        Checks.due("the product", value(q, 5), P - 27);
        Checks.due("C follows", q.evaluate(QapCompiler.POLY_C, 1), P - 27);
    }

    private static void quotientLives() {
        Checks.sentence("Phases", "The stored QUOTIENT (H and R) exists from a successful divide() until the next "
            + "successful setWitness or solve, each of which removes it.");
        QapCompiler q = Circuits.mixed();
        q.divide();
        hasQuotient(q, "a refused divide", false);
        q.compile();
        hasQuotient(q, "compile", false);
        q.divide();
        hasQuotient(q, "divide", true);
        q.setWitness(3, 1);
        q.setWitness(7, 1);
        q.compile();
        q.addInput();
        q.setPoint(0, 9);
        hasQuotient(q, "refused calls", true);
        q.divide();
        hasQuotient(q, "a second divide", true);
        q.setWitness(2, 4);
        hasQuotient(q, "setWitness", false);
        q.solve();
        q.divide();
        hasQuotient(q, "divide after solve", true);
        q.solve();
        hasQuotient(q, "solve", false);
    }

    private static void hasQuotient(QapCompiler q, String after, boolean want) {
        Checks.due("quotient after " + after, q.info(QapCompiler.INFO_HAS_QUOTIENT, 0), want ? 1 : 0);
        Checks.due("H after " + after, q.coeff(QapCompiler.POLY_H, 0) != -1, want);
        Checks.due("R after " + after, q.evaluate(QapCompiler.POLY_R, 5) != -1, want);
        Checks.due("checkAt after " + after, q.checkAt(5) != -1, want);
    }

    private static final String REFUSED_CALL = "A refused call changes nothing.";

    private static void refusedChangesNothingAtOnce() {
        Checks.sentence("Terms", REFUSED_CALL);
        QapCompiler[] objects = {
            new QapCompiler(8, 4), Circuits.mixed(), full(), Circuits.mixedCompiled(), Circuits.mixedDivided()
        };
        for (QapCompiler q : objects) {
            String before = Checks.all(q);
            refusedCalls(q);
            Checks.same("after refused calls", Checks.all(q), before);
        }
    }

    private static QapCompiler full() {
        QapCompiler q = new QapCompiler(8, 4);
        for (int w = 1; w < 8; w++) {
            q.addInput();
        }
        for (int j = 0; j < 4; j++) {
            q.assertEqual(j, 7);
        }
        return q;
    }

    // What a refused call leaves behind where it can't be seen would show in a later wire or constraint.
    private static void refusedChangesNothingLater() {
        Checks.sentence("Terms, later", REFUSED_CALL);
        QapCompiler plain = new QapCompiler(32, 16);
        QapCompiler tried = new QapCompiler(32, 16);
        for (int step = 0; step < STEPS; step++) {
            refusedCalls(tried);
            step(plain, step);
            step(tried, step);
            Checks.same("step " + step, Checks.all(tried), Checks.all(plain));
        }
    }

    private static void readingChangesNothingLater() {
        Checks.sentence("Promises 9 to 16", "Changes nothing.");
        QapCompiler plain = new QapCompiler(32, 16);
        QapCompiler read = new QapCompiler(32, 16);
        for (int step = 0; step < STEPS; step++) {
            Checks.all(read);
            step(plain, step);
            step(read, step);
        }
        Checks.same("read at each step, or only now", Checks.all(read), Checks.all(plain));
    }

    private static final int STEPS = 60;

    // By step 40 every wire and every constraint that fits is made.
    private static void step(QapCompiler q, int step) {
        if (step >= 40) {
            use(q, step);
        } else if (step % 5 == 0) {
            q.addInput();
            q.setWitness(q.info(QapCompiler.INFO_WIRES, 0) - 1, -step);
        } else if (step % 5 == 4) {
            q.assertEqual(step / 2, step / 3);
            q.setPoint(step / 5, -step);
        } else {
            q.addGate(1 + step % 5, step / 2, step / 3);
        }
    }

    private static void use(QapCompiler q, int step) {
        if (step == 40) {
            q.compile();
        } else if (step % 4 == 1) {
            q.setWitness(1, step);
        } else if (step % 4 == 3) {
            q.solve();
        } else {
            q.divide();
        }
    }

    private static void refusedCalls(QapCompiler q) {
        int n = q.info(QapCompiler.INFO_WIRES, 0);
        int m = q.info(QapCompiler.INFO_CONSTRAINTS, 0);
        boolean compiled = q.info(QapCompiler.INFO_COMPILED, 0) == 1;
        boolean wiresFull = n == q.info(QapCompiler.INFO_MAX_WIRES, 0);
        boolean constraintsFull = m == q.info(QapCompiler.INFO_MAX_CONSTRAINTS, 0);
        if (compiled || wiresFull) {
            Checks.due("addInput", q.addInput(), -1);
            Checks.due("ADD", q.addGate(ADD, 0, 0), -1);
            Checks.due("CMUL", q.addGate(CMUL, 0, 2), -1);
        }
        if (compiled || wiresFull || constraintsFull) {
            Checks.due("MUL", q.addGate(MUL, 0, 0), -1);
        }
        if (compiled || constraintsFull) {
            Checks.due("assertEqual", q.assertEqual(0, n - 1), -1);
        }
        if (compiled) {
            Checks.due("setPoint when compiled", q.setPoint(0, 123456), false);
        } else {
            Checks.due("divide", q.divide(), -1);
        }
        if (compiled || m == 0) {
            Checks.due("compile", q.compile(), -1);
        }
        for (int wrong : new int[] {Checks.MIN, -1, n, n + 1, 32, P}) {
            wrongIndex(q, wrong);
        }
        for (int w = 0; w < n; w++) {
            int kind = q.info(QapCompiler.INFO_KIND, w);
            if (kind != QapCompiler.KIND_INPUT && kind != MUL) {
                Checks.due("setWitness " + w, q.setWitness(w, 99), false);
            }
        }
    }

    private static void wrongIndex(QapCompiler q, int wrong) {
        for (int kind = ADD; kind <= CMUL; kind++) {
            Checks.due("addGate of " + wrong, q.addGate(kind, wrong, 0), -1);
        }
        Checks.due("ADD with " + wrong, q.addGate(ADD, 0, wrong), -1);
        Checks.due("MUL with " + wrong, q.addGate(MUL, 0, wrong), -1);
        Checks.due("INPUT as a gate", q.addGate(QapCompiler.KIND_INPUT, 0, 0), -1);
        Checks.due("assertEqual of " + wrong, q.assertEqual(wrong, 0), -1);
        Checks.due("assertEqual with " + wrong, q.assertEqual(0, wrong), -1);
        Checks.due("setWitness " + wrong, q.setWitness(wrong, 99), false);
        if (wrong < 0 || wrong >= 16) {
            Checks.due("setPoint " + wrong, q.setPoint(wrong, 123456), false);
        }
        int taken = q.info(QapCompiler.INFO_POINT, 1);
        Checks.due("setPoint to a point taken", q.setPoint(0, taken), false);
        Checks.due("linearForm", q.linearForm(wrong, 0), -1);
        Checks.due("matrixEntry", q.matrixEntry(0, 0, wrong), -1);
        Checks.due("columnCoeff", q.columnCoeff(0, wrong, 0), -1);
        Checks.due("coeff", q.coeff(7, 0), -1);
        Checks.due("evaluate", q.evaluate(-1, wrong), -1);
        Checks.due("info", q.info(10, wrong), -1);
    }

    private static void refusalIsNoFieldValue() {
        Checks.sentence("Terms", "Answers that could be field values use -1 (REFUSED) for refusal.");
        Checks.due("REFUSED", QapCompiler.REFUSED, -1);
        QapCompiler q = Circuits.mixedCompiled();
        q.divide();
        zeroOrRefused("linearForm", q.linearForm(1, 2), q.linearForm(1, 3));
        zeroOrRefused("matrixEntry", q.matrixEntry(0, 0, 0), q.matrixEntry(0, 3, 0));
        zeroOrRefused("columnCoeff", q.columnCoeff(2, 0, 2), q.columnCoeff(2, 0, 3));
        zeroOrRefused("coeff", q.coeff(QapCompiler.POLY_H, 2), q.coeff(QapCompiler.POLY_H, 3));
        zeroOrRefused("evaluate", q.evaluate(QapCompiler.POLY_R, 1), q.evaluate(7, 1));
        zeroOrRefused("value", value(q, 1), value(q, 7));
        QapCompiler points = new QapCompiler(8, 4);
        points.setPoint(3, 0);
        int beyond = points.info(QapCompiler.INFO_POINT, 4);
        zeroOrRefused("point", points.info(QapCompiler.INFO_POINT, 3), beyond);
    }

    private static void zeroOrRefused(String call, int zero, int refused) {
        Checks.due(call + " answers 0", zero, 0);
        Checks.due(call + " is refused", refused, -1);
    }
}
