/** Long runs of mixed calls, ordinary and wrong ones, each answer compared with the model's. */
public final class ModelTest {
    private static final int[] EDGES = {
        0, 1, 2, -1, -2, Checks.P, Checks.P - 1, -Checks.P, -Checks.P + 1, Checks.MIN, 46341, 65536, 1073741824
    };
    private static final int[] SIZES = {Checks.MIN, -1, 0, 4, 7, 8, 9, 12, 16, 20, 31, 32, 33, Checks.P};

    private static long seed;

    public static void main(String[] args) {
        for (int run = 1; run <= 150; run++) {
            seed = run * 1000003L;
            oneRun(run);
        }
        fullSize();
        Checks.finish();
    }

    private static void oneRun(int run) {
        int maxWires = SIZES[below(SIZES.length)];
        int maxConstraints = SIZES[below(SIZES.length)];
        QapCompiler q = new QapCompiler(maxWires, maxConstraints);
        Model model = new Model(maxWires, maxConstraints);
        int building = 5 + below(run % 3 == 0 ? 120 : 50);
        String name = "run " + run + ": ";
        for (int i = 0; i < building; i++) {
            build(name, q, model);
            read(name, q, model);
        }
        compareAll(name, q, model);
        Checks.due(name + "compile", q.compile(), model.compile());
        compareAll(name, q, model);
        for (int i = 0; i < 25; i++) {
            use(name, q, model);
            read(name, q, model);
        }
        compareAll(name, q, model);
        Checks.due(name + "solve", q.solve(), model.solve());
        Checks.due(name + "divide", q.divide(), model.divide());
        compareAll(name, q, model);
    }

    // Every wire and every constraint of the greatest object in use, where an index too far is past the end.
    private static void fullSize() {
        QapCompiler q = new QapCompiler(32, 16);
        Model model = new Model(32, 16);
        for (int w = 1; w < 32; w++) {
            int kind = w % 3 == 0 ? QapCompiler.KIND_ADD : w % 3 == 1 ? QapCompiler.KIND_CMUL : QapCompiler.KIND_MUL;
            int a = w - 1;
            int b = w / 2;
            if (w < 4) {
                Checks.due("full: addInput", q.addInput(), model.addInput());
            } else {
                Checks.due("full: addGate " + w, q.addGate(kind, a, b), model.addGate(kind, a, b));
            }
        }
        for (int j = 0; j < 16; j++) {
            Checks.due("full: assertEqual", q.assertEqual(31, 30 - j), model.assertEqual(31, 30 - j));
            Checks.due("full: setPoint", q.setPoint(j, -j), model.setPoint(j, -j));
            Checks.due("full: setWitness", q.setWitness(j, value()), model.setWitness(j, 0));
            Checks.due("full: setWitness", q.setWitness(j, j * j), model.setWitness(j, j * j));
        }
        Checks.due("full: wires", q.info(QapCompiler.INFO_WIRES, 0), 32);
        Checks.due("full: constraints", q.info(QapCompiler.INFO_CONSTRAINTS, 0), 16);
        Checks.due("full: last", q.info(QapCompiler.INFO_KIND, 31), QapCompiler.KIND_CMUL);
        compareAll("full: ", q, model);
        Checks.due("full: compile", q.compile(), model.compile());
        Checks.due("full: divide", q.divide(), model.divide());
        compareAll("full: ", q, model);
        Checks.due("full: solve", q.solve(), model.solve());
        Checks.due("full: divide", q.divide(), model.divide());
        compareAll("full: ", q, model);
    }

    private static void build(String name, QapCompiler q, Model model) {
        int n = model.info(QapCompiler.INFO_WIRES, 0);
        int a = index(n);
        int b = index(n);
        int v = value();
        switch (below(10)) {
            case 0:
            case 1:
                Checks.due(name + "addInput()", q.addInput(), model.addInput());
                break;
            case 2:
                Checks.due(name + "addGate ADD", q.addGate(2, a, b), model.addGate(2, a, b));
                break;
            case 3:
                Checks.due(name + "addGate CMUL", q.addGate(4, a, v), model.addGate(4, a, v));
                break;
            case 4:
            case 5:
                Checks.due(name + "addGate MUL", q.addGate(3, a, b), model.addGate(3, a, b));
                break;
            case 6:
                int kind = index(5);
                Checks.due(name + "addGate " + kind, q.addGate(kind, a, b), model.addGate(kind, a, b));
                break;
            case 7:
                int c = below(3) == 0 ? b : a;
                Checks.due(name + "assertEqual", q.assertEqual(a, c), model.assertEqual(a, c));
                break;
            case 8:
                int j = index(16);
                Checks.due(name + "setPoint " + j + " " + v, q.setPoint(j, v), model.setPoint(j, v));
                break;
            default:
                use(name, q, model);
        }
    }

    private static void use(String name, QapCompiler q, Model model) {
        int n = model.info(QapCompiler.INFO_WIRES, 0);
        int w = index(n);
        int v = value();
        switch (below(8)) {
            case 0:
            case 1:
            case 2:
                Checks.due(name + "setWitness " + w + " " + v, q.setWitness(w, v), model.setWitness(w, v));
                break;
            case 3:
            case 4:
                Checks.due(name + "solve()", q.solve(), model.solve());
                break;
            case 5:
            case 6:
                Checks.due(name + "divide()", q.divide(), model.divide());
                break;
            default:
                if (model.info(QapCompiler.INFO_COMPILED, 0) == 1) {
                    build(name, q, model);
                }
        }
    }

    private static void read(String name, QapCompiler q, Model model) {
        int n = model.info(QapCompiler.INFO_WIRES, 0);
        int a = index(n);
        int b = index(n);
        int x = value();
        int matrix = index(3);
        int which = index(7);
        int k = index(2 * model.info(QapCompiler.INFO_CONSTRAINTS, 0));
        int what = index(10);
        Checks.due(name + "linearForm", q.linearForm(a, b), model.linearForm(a, b));
        Checks.due(name + "matrixEntry", q.matrixEntry(matrix, k, b), model.matrixEntry(matrix, k, b));
        Checks.due(name + "columnCoeff", q.columnCoeff(matrix, b, k), model.columnCoeff(matrix, b, k));
        Checks.due(name + "coeff " + which + " " + k, q.coeff(which, k), model.coeff(which, k));
        Checks.due(name + "evaluate " + which + " " + x, q.evaluate(which, x), model.evaluate(which, x));
        Checks.due(name + "checkAt " + x, q.checkAt(x), model.checkAt(x));
        Checks.due(name + "info " + what + " " + a, q.info(what, a), model.info(what, a));
    }

    private static void compareAll(String name, QapCompiler q, Model model) {
        for (int what = -1; what <= 10; what++) {
            for (int i = -1; i <= 32; i++) {
                Checks.due(name + "info " + what + " " + i, q.info(what, i), model.info(what, i));
            }
        }
        int n = model.info(QapCompiler.INFO_WIRES, 0);
        int m = model.info(QapCompiler.INFO_CONSTRAINTS, 0);
        for (int v = -1; v <= n; v++) {
            for (int w = -1; w <= n; w++) {
                Checks.due(name + "linearForm " + w + " " + v, q.linearForm(w, v), model.linearForm(w, v));
            }
            for (int j = -1; j <= m; j++) {
                for (int matrix = -1; matrix <= 3; matrix++) {
                    String at = " " + matrix + " " + j + " " + v;
                    Checks.due(name + "matrixEntry" + at, q.matrixEntry(matrix, j, v), model.matrixEntry(matrix, j, v));
                    Checks.due(name + "columnCoeff" + at, q.columnCoeff(matrix, v, j), model.columnCoeff(matrix, v, j));
                }
            }
        }
        for (int which = -1; which <= 7; which++) {
            for (int k = -1; k <= 33; k++) {
                Checks.due(name + "coeff " + which + " " + k, q.coeff(which, k), model.coeff(which, k));
            }
            int x = value();
            Checks.due(name + "evaluate " + which + " " + x, q.evaluate(which, x), model.evaluate(which, x));
        }
    }

    // A fixed sequence, the same in each run of the test.
    private static int next() {
        seed = seed * 6364136223846793005L + 1442695040888963407L;
        return (int) (seed >>> 32);
    }

    private static int below(int bound) {
        return (int) Math.floorMod((long) next(), (long) bound);
    }

    /** Mostly in [0, bound), sometimes just or far outside. */
    private static int index(int bound) {
        int choice = below(16);
        if (choice == 0) {
            return -1 - below(2);
        }
        if (choice == 1) {
            return bound + below(2);
        }
        if (choice == 2) {
            return EDGES[below(EDGES.length)];
        }
        return below(Math.max(bound, 1));
    }

    private static int value() {
        int choice = below(3);
        if (choice == 0) {
            return EDGES[below(EDGES.length)];
        }
        return choice == 1 ? below(20) : next();
    }
}
