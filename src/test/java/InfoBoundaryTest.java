/** Promise 16: a test for each sentence that names a boundary case. */
public final class InfoBoundaryTest {
    private static final int P = Checks.P;
    private static final int[] ANY_INDEX = {Checks.MIN, -1, 0, 1, 6, 7, 16, 32, P};
    private static final int[] NO_WIRE = {Checks.MIN, -32, -1, 7, 8, 9, 10, 31, 32, 33, P};

    public static void main(String[] args) {
        changesNothing();
        indexIgnored();
        unknownWhat();
        wires();
        constraints();
        compiled();
        hasQuotient();
        satisfied();
        kind();
        kindOutside();
        value();
        valueOutside();
        point();
        pointOutside();
        maxWires();
        maxConstraints();
        Checks.finish();
    }

    private static QapCompiler[] everyPhase() {
        return new QapCompiler[] {
            new QapCompiler(8, 4), Circuits.mixed(), Circuits.mixedCompiled(), Circuits.mixedDivided()
        };
    }

    private static void answers(QapCompiler[] objects, int what, int... want) {
        for (int i = 0; i < objects.length; i++) {
            Checks.due("info(" + what + ", 0) of object " + i, objects[i].info(what, 0), want[i]);
        }
    }

    private static void changesNothing() {
        Checks.sentence("Promise 16", "`info(what, index)` is a state getter; it changes nothing.");
        for (QapCompiler q : everyPhase()) {
            String before = Checks.all(q);
            for (int what = -1; what <= 10; what++) {
                for (int index : ANY_INDEX) {
                    int first = q.info(what, index);
                    String call = "info(" + what + ", " + index + ")";
                    Checks.same("after " + call, Checks.all(q), before);
                    Checks.due(call + " again", q.info(what, index), first);
                }
            }
        }
    }

    private static void indexIgnored() {
        Checks.sentence("Promise 16", "index is ignored except where used.");
        int[] selectors = {
            QapCompiler.INFO_WIRES, QapCompiler.INFO_CONSTRAINTS, QapCompiler.INFO_COMPILED,
            QapCompiler.INFO_HAS_QUOTIENT, QapCompiler.INFO_SATISFIED, QapCompiler.INFO_MAX_WIRES,
            QapCompiler.INFO_MAX_CONSTRAINTS
        };
        int[] want = {7, 3, 1, 1, 0, 10, 5};
        QapCompiler q = Circuits.mixedDivided();
        for (int i = 0; i < selectors.length; i++) {
            for (int index : ANY_INDEX) {
                Checks.due("info(" + selectors[i] + ", " + index + ")", q.info(selectors[i], index), want[i]);
            }
        }
    }

    private static void unknownWhat() {
        Checks.sentence("Promise 16", "Unknown what -> -1.");
        for (QapCompiler q : everyPhase()) {
            for (int what : new int[] {Checks.MIN, -10, -2, -1, 10, 11, 16, 256, P}) {
                for (int index : ANY_INDEX) {
                    Checks.refused(q, "info(" + what + ", " + index + ")", () -> q.info(what, index));
                }
            }
        }
    }

    private static void wires() {
        Checks.sentence("Promise 16", "INFO_WIRES: wireCount.");
        answers(everyPhase(), QapCompiler.INFO_WIRES, 1, 7, 7, 7);
        QapCompiler q = new QapCompiler(32, 4);
        for (int w = 1; w < 40; w++) {
            q.addInput();
            Checks.due("after " + w, q.info(QapCompiler.INFO_WIRES, 0), Math.min(w + 1, 32));
        }
    }

    private static void constraints() {
        Checks.sentence("Promise 16", "INFO_CONSTRAINTS: m.");
        answers(everyPhase(), QapCompiler.INFO_CONSTRAINTS, 0, 3, 3, 3);
        QapCompiler q = new QapCompiler(8, 16);
        for (int j = 1; j < 20; j++) {
            q.assertEqual(0, 0);
            Checks.due("after " + j, q.info(QapCompiler.INFO_CONSTRAINTS, 0), Math.min(j, 16));
        }
    }

    private static void compiled() {
        Checks.sentence("Promise 16", "INFO_COMPILED: 1 if COMPILED else 0.");
        answers(everyPhase(), QapCompiler.INFO_COMPILED, 0, 0, 1, 1);
    }

    private static void hasQuotient() {
        Checks.sentence("Promise 16", "INFO_HAS_QUOTIENT: 1 if the quotient exists else 0.");
        answers(everyPhase(), QapCompiler.INFO_HAS_QUOTIENT, 0, 0, 0, 1);
        QapCompiler q = Circuits.mixedDivided();
        q.setWitness(0, 1);
        Checks.due("after a refused setWitness", q.info(QapCompiler.INFO_HAS_QUOTIENT, 0), 1);
        q.solve();
        Checks.due("after solve", q.info(QapCompiler.INFO_HAS_QUOTIENT, 0), 0);
    }

    private static void satisfied() {
        Checks.sentence("Promise 16", "INFO_SATISFIED: 1 if SATISFIED else 0 "
            + "(any phase, current witness, constraints 0..m-1).");
        answers(everyPhase(), QapCompiler.INFO_SATISFIED, 1, 1, 1, 0);
        for (int m = 1; m <= 16; m++) {
            QapCompiler q = Circuits.sized(m);
            q.setWitness(1, 4);
            Checks.due("building, 4 * -4 is not 0", q.info(QapCompiler.INFO_SATISFIED, 0), 0);
            q.setWitness(2, -4);
            q.solve();
            Checks.due("building, solved", q.info(QapCompiler.INFO_SATISFIED, 0), 1);
            q.compile();
            Checks.due("compiled", q.info(QapCompiler.INFO_SATISFIED, 0), 1);
            q.setWitness(4 + (m - 1) / 2, 3);
            Checks.due("the last product wrong", q.info(QapCompiler.INFO_SATISFIED, 0), 0);
            q.divide();
            Checks.due("divided", q.info(QapCompiler.INFO_SATISFIED, 0), 0);
            q.solve();
            Checks.due("solved again", q.info(QapCompiler.INFO_SATISFIED, 0), 1);
            q.setWitness(2, 4);
            Checks.due("the assertions wrong", q.info(QapCompiler.INFO_SATISFIED, 0), m == 1 ? 1 : 0);
        }
    }

    private static void kind() {
        Checks.sentence("Promise 16", "INFO_KIND: kind of wire index");
        int[] kinds = {0, 1, 1, 2, 4, 3, 3};
        for (int w = 0; w < kinds.length; w++) {
            Checks.due("wire " + w, Circuits.mixed().info(QapCompiler.INFO_KIND, w), kinds[w]);
            Checks.due("wire " + w + " divided", Circuits.mixedDivided().info(QapCompiler.INFO_KIND, w), kinds[w]);
        }
    }

    private static void kindOutside() {
        Checks.sentence("Promise 16, kind", "-1 if index not in [0, wireCount).");
        outside(QapCompiler.INFO_KIND);
    }

    private static void outside(int what) {
        QapCompiler[] objects = {Circuits.mixed(), Circuits.mixedCompiled(), Circuits.mixedDivided()};
        for (QapCompiler q : objects) {
            for (int w : NO_WIRE) {
                Checks.refused(q, "info(" + what + ", " + w + ")", () -> q.info(what, w));
            }
            Checks.due("the last wire", q.info(what, 6) != -1, true);
        }
        QapCompiler fresh = new QapCompiler(8, 4);
        Checks.due("wire 0 of a new object", fresh.info(what, 0) != -1, true);
        Checks.refused(fresh, "wire 1 of a new object", () -> fresh.info(what, 1));
        QapCompiler full = new QapCompiler(32, 4);
        for (int w = 1; w < 32; w++) {
            full.addInput();
        }
        Checks.due("wire 31 of a full object", full.info(what, 31) != -1, true);
        Checks.refused(full, "wire 32 of a full object", () -> full.info(what, 32));
    }

    private static void value() {
        Checks.sentence("Promise 16", "INFO_VALUE: value(index)");
        QapCompiler q = Circuits.mixedDivided();
        int[] values = {1, 2, P - 7, P - 5, 15, 100, 11};
        for (int w = 0; w < values.length; w++) {
            Checks.due("wire " + w, q.info(QapCompiler.INFO_VALUE, w), values[w]);
        }
    }

    private static void valueOutside() {
        Checks.sentence("Promise 16, value", "-1 if index not in [0, wireCount).");
        outside(QapCompiler.INFO_VALUE);
    }

    private static void point() {
        Checks.sentence("Promise 16", "INFO_POINT: point[index]");
        QapCompiler q = new QapCompiler(8, 16);
        q.setPoint(0, 0);
        q.setPoint(15, -1);
        int[] points = {0, 2, 3, 4, 5, 6, 7, 8, 9, 10, 11, 12, 13, 14, 15, P - 1};
        for (int j = 0; j < 16; j++) {
            Checks.due("point " + j, q.info(QapCompiler.INFO_POINT, j), points[j]);
        }
    }

    private static void pointOutside() {
        Checks.sentence("Promise 16", "-1 if index not in [0, maxConstraints).");
        for (int size = 4; size <= 16; size++) {
            QapCompiler q = new QapCompiler(32, size);
            q.assertEqual(0, 0);
            for (int j : new int[] {Checks.MIN, -16, -1, size, size + 1, 16, 17, 31, 32, P}) {
                Checks.refused(q, "point " + j + " of " + size, () -> q.info(QapCompiler.INFO_POINT, j));
            }
            Checks.due("the last of " + size, q.info(QapCompiler.INFO_POINT, size - 1), size);
            q.compile();
            Checks.due("the last when compiled", q.info(QapCompiler.INFO_POINT, size - 1), size);
            Checks.due("one more when compiled", q.info(QapCompiler.INFO_POINT, size), -1);
        }
    }

    private static void maxWires() {
        Checks.sentence("Promise 16", "INFO_MAX_WIRES: clamped maxWires.");
        answers(everyPhase(), QapCompiler.INFO_MAX_WIRES, 8, 10, 10, 10);
        Checks.due("from 0", new QapCompiler(0, 7).info(QapCompiler.INFO_MAX_WIRES, 0), 8);
        Checks.due("from 99", new QapCompiler(99, 7).info(QapCompiler.INFO_MAX_WIRES, 0), 32);
    }

    private static void maxConstraints() {
        Checks.sentence("Promise 16", "INFO_MAX_CONSTRAINTS: clamped maxConstraints.");
        answers(everyPhase(), QapCompiler.INFO_MAX_CONSTRAINTS, 4, 5, 5, 5);
        Checks.due("from 0", new QapCompiler(9, 0).info(QapCompiler.INFO_MAX_CONSTRAINTS, 0), 4);
        Checks.due("from 99", new QapCompiler(9, 99).info(QapCompiler.INFO_MAX_CONSTRAINTS, 0), 16);
    }
}
