import java.util.function.BooleanSupplier;
import java.util.function.IntSupplier;

/** What the tests share: counting wrong answers, and reading all that can be seen of an object. */
final class Checks {
    static final int P = 2147483647;
    static final int MIN = -2147483648;

    private static int wrong = 0;
    private static String sentence = "";

    private Checks() {
    }

    /** Names the words of the document that the next checks stand for, so that a wrong answer tells them. */
    static void sentence(String where, String words) {
        sentence = where + " \"" + words + "\": ";
    }

    private static void tell(String line) {
        wrong++;
        System.out.println(sentence + line);
    }

    static void due(String call, long got, long want) {
        if (got != want) {
            tell(call + " answered " + got + ", due is " + want);
        }
    }

    static void due(String call, boolean got, boolean want) {
        due(call, got ? 1 : 0, want ? 1 : 0);
    }

    static void holds(String what, boolean held) {
        if (!held) {
            tell(what + " does not hold");
        }
    }

    static void same(String what, String got, String want) {
        if (!got.equals(want)) {
            tell(what + ":\n  is  " + got + "\n  due " + want);
        }
    }

    /** The call answers -1 and changes nothing that can be seen. */
    static void refused(QapCompiler q, String call, IntSupplier body) {
        answersWithoutChange(q, call, body, -1);
    }

    /** The call answers false and changes nothing that can be seen. */
    static void refusedFalse(QapCompiler q, String call, BooleanSupplier body) {
        answersWithoutChange(q, call, () -> body.getAsBoolean() ? 1 : 0, 0);
    }

    static void answersWithoutChange(QapCompiler q, String call, IntSupplier body, int want) {
        String before = all(q);
        due(call, body.getAsInt(), want);
        same("after " + call, all(q), before);
    }

    /** Wires, kinds, values and forms. */
    static String wires(QapCompiler q) {
        int n = q.info(QapCompiler.INFO_WIRES, 0);
        StringBuilder s = new StringBuilder("wires " + n + ":");
        for (int w = 0; w < n; w++) {
            s.append(" [").append(q.info(QapCompiler.INFO_KIND, w));
            s.append(' ').append(q.info(QapCompiler.INFO_VALUE, w)).append(" |");
            for (int v = 0; v < n; v++) {
                s.append(' ').append(q.linearForm(w, v));
            }
            s.append(']');
        }
        return s.toString();
    }

    static String constraints(QapCompiler q) {
        int n = q.info(QapCompiler.INFO_WIRES, 0);
        int m = q.info(QapCompiler.INFO_CONSTRAINTS, 0);
        StringBuilder s = new StringBuilder("constraints " + m + ":");
        for (int matrix = 0; matrix < 3; matrix++) {
            for (int j = 0; j < m; j++) {
                s.append(" [");
                for (int v = 0; v < n; v++) {
                    s.append(' ').append(q.matrixEntry(matrix, j, v));
                }
                s.append(']');
            }
        }
        return s.toString();
    }

    static String points(QapCompiler q) {
        StringBuilder s = new StringBuilder("points");
        for (int j = 0; j < q.info(QapCompiler.INFO_MAX_CONSTRAINTS, 0); j++) {
            s.append(' ').append(q.info(QapCompiler.INFO_POINT, j));
        }
        return s.toString();
    }

    static String polynomials(QapCompiler q) {
        StringBuilder s = new StringBuilder("columns");
        for (int matrix = 0; matrix < 3; matrix++) {
            for (int v = 0; v < q.info(QapCompiler.INFO_WIRES, 0); v++) {
                for (int k = 0; k < q.info(QapCompiler.INFO_CONSTRAINTS, 0); k++) {
                    s.append(' ').append(q.columnCoeff(matrix, v, k));
                }
            }
        }
        s.append("; polynomials");
        for (int which = 0; which < 7; which++) {
            s.append(" [");
            for (int k = 0; k < 32; k++) {
                s.append(' ').append(q.coeff(which, k));
            }
            s.append(" | ").append(q.evaluate(which, 1234567)).append(']');
        }
        return s.append("; check ").append(q.checkAt(1234567)).toString();
    }

    static String flags(QapCompiler q) {
        return "compiled " + q.info(QapCompiler.INFO_COMPILED, 0)
            + ", quotient " + q.info(QapCompiler.INFO_HAS_QUOTIENT, 0)
            + ", satisfied " + q.info(QapCompiler.INFO_SATISFIED, 0)
            + ", limits " + q.info(QapCompiler.INFO_MAX_WIRES, 0)
            + " " + q.info(QapCompiler.INFO_MAX_CONSTRAINTS, 0);
    }

    static String all(QapCompiler q) {
        return flags(q) + "; " + points(q) + "; " + wires(q) + "; " + constraints(q) + "; " + polynomials(q);
    }

    static void finish() {
        if (wrong != 0) {
            System.out.println(wrong + " answers are not as due");
            System.exit(1);
        }
    }
}
