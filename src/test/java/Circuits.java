/** The circuits that the boundary tests share. */
final class Circuits {
    static final int ADD = QapCompiler.KIND_ADD;
    static final int MUL = QapCompiler.KIND_MUL;
    static final int CMUL = QapCompiler.KIND_CMUL;

    /** Numbers at the ends of the ints and of the field. */
    static final int[] EDGES = {
        Checks.MIN, Checks.MIN + 1, Checks.MIN + 2, -Checks.P + 2, -46341, -2, -1, 0, 1, 2, 46341, 65536,
        1073741823, 1073741824, Checks.P - 2, Checks.P - 1, Checks.P
    };

    private Circuits() {
    }

    static long reduced(int v) {
        return Math.floorMod((long) v, (long) Checks.P);
    }

    /**
     * Every kind of wire and of constraint, with room for more: wires 1 and 2 inputs, 3 = wire 1 + wire 2,
     * 4 = -3 * wire 3, 5 = wire 4 * wire 1, 6 = wire 5 * wire 5; constraint 2 asserts wire 6 = wire 2.
     */
    static QapCompiler mixed() {
        QapCompiler q = new QapCompiler(10, 5);
        q.addInput();
        q.addInput();
        q.addGate(ADD, 1, 2);
        q.addGate(CMUL, 3, -3);
        q.addGate(MUL, 4, 1);
        q.addGate(MUL, 5, 5);
        q.assertEqual(6, 2);
        return q;
    }

    static QapCompiler mixedCompiled() {
        QapCompiler q = mixed();
        q.compile();
        return q;
    }

    /** The witness breaks every constraint, and H isn't 0. */
    static QapCompiler mixedDivided() {
        QapCompiler q = mixedCompiled();
        q.setWitness(1, 2);
        q.setWitness(2, -7);
        q.setWitness(5, 100);
        q.setWitness(6, 11);
        q.divide();
        return q;
    }

    /** The constraints are x * x = wire 2 and wire 2 * x = wire 3, at the points 1 and 2. */
    static QapCompiler cube() {
        QapCompiler q = new QapCompiler(8, 4);
        q.addInput();
        q.addGate(MUL, 1, 1);
        q.addGate(MUL, 2, 1);
        return q;
    }

    /** A divided cube whose P and R are the line offset + slope * X: the input is 0, so A * B is 0 and P is -C. */
    static QapCompiler remainderLine(int offset, int slope) {
        QapCompiler q = cube();
        q.compile();
        q.setWitness(2, -(offset + slope));
        q.setWitness(3, -(offset + 2 * slope));
        q.divide();
        return q;
    }

    /**
     * A circuit of m constraints with large points and entries: wires 1 and 2 inputs, 3 = -wire 1; the even
     * constraints make the products wire 3 * wire 1, from wire 4 on, and the odd ones assert wire 3 = wire 2.
     */
    static QapCompiler sized(int m) {
        QapCompiler q = new QapCompiler(32, 16);
        q.addInput();
        q.addInput();
        q.addGate(CMUL, 1, -1);
        for (int j = 0; j < 16; j++) {
            q.setPoint(j, -1 - 3 * j);
        }
        for (int j = 0; j < m; j++) {
            if (j % 2 == 0) {
                q.addGate(MUL, 3, 1);
            } else {
                q.assertEqual(3, 2);
            }
        }
        return q;
    }

    /** A divided one; the satisfying witness has wire 2 = -wire 1, any other breaks the odd constraints. */
    static QapCompiler sizedDivided(int m, int x, int y) {
        QapCompiler q = sized(m);
        q.compile();
        q.setWitness(1, x);
        q.setWitness(2, y);
        q.solve();
        q.divide();
        return q;
    }
}
