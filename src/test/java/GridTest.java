/**
 * Every call with every mix of arguments from just inside to far outside, in every phase: none throws, the reading
 * ones answer as the model does, and the others, where an argument is wrong, are refused and change nothing.
 */
public final class GridTest {
    private static final int[] GRID = {
        Checks.MIN, Checks.MIN + 1, -1024, -33, -32, -17, -16, -8, -4, -2, -1, 0, 1, 2, 3, 4, 5, 6, 7, 8, 9, 10, 11,
        14, 15, 16, 17, 18, 30, 31, 32, 33, 47, 48, 63, 64, 96, 223, 224, 255, 256, 1023, 1024, 1535, 1536, 65536,
        Checks.P - 1, Checks.P
    };

    private static final int FRESH = 0;
    private static final int BUILDING = 1;
    private static final int COMPILED = 2;
    private static final int DIVIDED = 3;

    private final QapCompiler q;
    private final Model model;
    private final String name;

    private GridTest(int wires, int constraints, int phase) {
        q = new QapCompiler(wires, constraints);
        model = new Model(wires, constraints);
        name = "size " + wires + " " + constraints + ", phase " + phase + ": ";
        if (phase >= BUILDING) {
            fill(wires, constraints);
        }
        if (phase >= COMPILED) {
            Checks.due(name + "compile", q.compile(), model.compile());
        }
        if (phase >= DIVIDED) {
            Checks.due(name + "divide", q.divide(), model.divide());
        }
    }

    public static void main(String[] args) {
        for (int phase = FRESH; phase <= DIVIDED; phase++) {
            new GridTest(8, 4, phase).run();
            new GridTest(13, 9, phase).run();
            new GridTest(32, 16, phase).run();
        }
        Checks.finish();
    }

    // Full of wires and of constraints, half of them products where there is room.
    private void fill(int wires, int constraints) {
        for (int w = 1; w < wires; w++) {
            boolean product = w % 2 == 0 && model.info(QapCompiler.INFO_CONSTRAINTS, 0) < constraints / 2;
            int kind = product ? QapCompiler.KIND_MUL : w % 4 == 1 ? QapCompiler.KIND_ADD : QapCompiler.KIND_CMUL;
            if (w % 3 == 1) {
                Checks.due(name + "addInput", q.addInput(), model.addInput());
            } else {
                Checks.due(name + "addGate", q.addGate(kind, w - 1, w / 2), model.addGate(kind, w - 1, w / 2));
            }
            Checks.due(name + "setWitness", q.setWitness(w, -w), model.setWitness(w, -w));
        }
        while (model.info(QapCompiler.INFO_CONSTRAINTS, 0) < constraints) {
            Checks.due(name + "assertEqual", q.assertEqual(wires - 1, 1), model.assertEqual(wires - 1, 1));
        }
    }

    private void run() {
        String before = Checks.all(q);
        for (int a : GRID) {
            Checks.due(name + "checkAt " + a, q.checkAt(a), model.checkAt(a));
            for (int b : GRID) {
                two(a, b);
                for (int c : GRID) {
                    three(a, b, c);
                }
            }
        }
        Checks.same(name + "after all of them", Checks.all(q), before);
    }

    private void two(int a, int b) {
        String of = a + " " + b;
        Checks.due(name + "linearForm " + of, q.linearForm(a, b), model.linearForm(a, b));
        Checks.due(name + "coeff " + of, q.coeff(a, b), model.coeff(a, b));
        Checks.due(name + "evaluate " + of, q.evaluate(a, b), model.evaluate(a, b));
        Checks.due(name + "info " + of, q.info(a, b), model.info(a, b));
        if (isWrong(a) || isWrong(b)) {
            Checks.due(name + "assertEqual " + of, q.assertEqual(a, b), -1);
        }
        if (isWrong(a)) {
            Checks.due(name + "setWitness " + of, q.setWitness(a, b), false);
        }
        if (model.info(QapCompiler.INFO_POINT, a) == -1) {
            Checks.due(name + "setPoint " + of, q.setPoint(a, b), false);
        }
    }

    private void three(int a, int b, int c) {
        String of = a + " " + b + " " + c;
        Checks.due(name + "matrixEntry " + of, q.matrixEntry(a, b, c), model.matrixEntry(a, b, c));
        Checks.due(name + "columnCoeff " + of, q.columnCoeff(a, b, c), model.columnCoeff(a, b, c));
        boolean gate = a == QapCompiler.KIND_ADD || a == QapCompiler.KIND_MUL || a == QapCompiler.KIND_CMUL;
        if (!gate || isWrong(b) || (a != QapCompiler.KIND_CMUL && isWrong(c))) {
            Checks.due(name + "addGate " + of, q.addGate(a, b, c), -1);
        }
    }

    private boolean isWrong(int w) {
        return model.info(QapCompiler.INFO_KIND, w) == -1;
    }
}
