/** Promise 16: info. */
public final class InfoTest {
    private static final int[] INDICES = {Checks.MIN, -1, 0, 1, 3, 7, 8, 31, 32, Checks.P};

    public static void main(String[] args) {
        promise16IndexIgnored();
        promise16Indexed();
        promise16Satisfied();
        promise16UnknownWhat();
        Checks.finish();
    }

    private static void everyIndex(String when, QapCompiler q, int what, int want) {
        for (int index : INDICES) {
            String call = when + ": info(" + what + ", " + index + ")";
            Checks.answersWithoutChange(q, call, () -> q.info(what, index), want);
        }
    }

    private static void promise16IndexIgnored() {
        QapCompiler q = new QapCompiler(9, 5);
        everyIndex("fresh", q, QapCompiler.INFO_WIRES, 1);
        everyIndex("fresh", q, QapCompiler.INFO_CONSTRAINTS, 0);
        everyIndex("fresh", q, QapCompiler.INFO_COMPILED, 0);
        everyIndex("fresh", q, QapCompiler.INFO_HAS_QUOTIENT, 0);
        everyIndex("fresh", q, QapCompiler.INFO_SATISFIED, 1);
        q.addInput();
        q.addGate(QapCompiler.KIND_MUL, 1, 0);
        q.assertEqual(1, 0);
        q.compile();
        everyIndex("compiled", q, QapCompiler.INFO_WIRES, 3);
        everyIndex("compiled", q, QapCompiler.INFO_CONSTRAINTS, 2);
        everyIndex("compiled", q, QapCompiler.INFO_COMPILED, 1);
        everyIndex("compiled", q, QapCompiler.INFO_HAS_QUOTIENT, 0);
        everyIndex("compiled", q, QapCompiler.INFO_SATISFIED, 0);
        q.setWitness(1, 1);
        q.solve();
        q.divide();
        everyIndex("divided", q, QapCompiler.INFO_HAS_QUOTIENT, 1);
        everyIndex("divided", q, QapCompiler.INFO_SATISFIED, 1);
        everyIndex("divided", q, QapCompiler.INFO_MAX_WIRES, 9);
        everyIndex("divided", q, QapCompiler.INFO_MAX_CONSTRAINTS, 5);
    }

    private static void promise16Indexed() {
        QapCompiler q = new QapCompiler(9, 5);
        q.addInput();
        q.addGate(QapCompiler.KIND_ADD, 1, 0);
        q.addGate(QapCompiler.KIND_MUL, 2, 2);
        q.addGate(QapCompiler.KIND_CMUL, 3, -1);
        q.setWitness(1, 4);
        q.setPoint(4, -3);
        q.solve();
        int[] kinds = {0, 1, 2, 3, 4};
        int[] values = {1, 4, 5, 25, Checks.P - 25};
        int[] points = {1, 2, 3, 4, Checks.P - 3};
        for (int i = 0; i < 5; i++) {
            int index = i;
            String at = " " + i;
            Checks.answersWithoutChange(q, "kind" + at, () -> q.info(QapCompiler.INFO_KIND, index), kinds[i]);
            Checks.answersWithoutChange(q, "value" + at, () -> q.info(QapCompiler.INFO_VALUE, index), values[i]);
            Checks.answersWithoutChange(q, "point" + at, () -> q.info(QapCompiler.INFO_POINT, index), points[i]);
        }
        for (int index : new int[] {Checks.MIN, -1, 5, 6, 8, 9, 15, 16, 31, 32, Checks.P}) {
            Checks.refused(q, "kind " + index, () -> q.info(QapCompiler.INFO_KIND, index));
            Checks.refused(q, "value " + index, () -> q.info(QapCompiler.INFO_VALUE, index));
            Checks.refused(q, "point " + index, () -> q.info(QapCompiler.INFO_POINT, index));
        }
    }

    private static void promise16Satisfied() {
        QapCompiler q = new QapCompiler(8, 4);
        q.addInput();
        q.setWitness(1, 3);
        Checks.due("no constraint", q.info(QapCompiler.INFO_SATISFIED, 0), 1);
        q.addGate(QapCompiler.KIND_MUL, 1, 1);
        Checks.due("3 * 3 = 0", q.info(QapCompiler.INFO_SATISFIED, 0), 0);
        q.setWitness(2, 9);
        Checks.due("3 * 3 = 9", q.info(QapCompiler.INFO_SATISFIED, 0), 1);
        q.addGate(QapCompiler.KIND_CMUL, 1, 3);
        q.assertEqual(3, 2);
        Checks.due("9 = 9", q.info(QapCompiler.INFO_SATISFIED, 0), 1);
        q.assertEqual(1, 0);
        Checks.due("3 = 1", q.info(QapCompiler.INFO_SATISFIED, 0), 0);
        q.setWitness(1, 1);
        Checks.due("only the last holds", q.info(QapCompiler.INFO_SATISFIED, 0), 0);
    }

    private static void promise16UnknownWhat() {
        QapCompiler q = new QapCompiler(8, 4);
        for (int what : new int[] {Checks.MIN, -2, -1, 10, 11, 100, Checks.P}) {
            everyIndex("unknown", q, what, -1);
        }
    }
}
