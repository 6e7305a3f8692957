/**
 * The document's polynomials against their definitions. Each step takes a remainder, so no long overflows:
 * the factors are below p, and a product of two is below 2^62.
 */
final class Exact {
    private static final long P = Checks.P;

    private Exact() {
    }

    private static int point(QapCompiler q, int j) {
        return q.info(QapCompiler.INFO_POINT, j);
    }

    /** Z is the product of x - point[j] for j < m. */
    static void vanishing(QapCompiler q, int m) {
        long[] z = new long[m + 1];
        z[0] = 1;
        for (int j = 0; j < m; j++) {
            for (int k = j + 1; k > 0; k--) {
                z[k] = (z[k - 1] + (P - point(q, j)) * z[k]) % P;
            }
            z[0] = (P - point(q, j)) % P * z[0] % P;
        }
        for (int k = 0; k <= m; k++) {
            Checks.due("m " + m + ", Z at " + k, q.coeff(QapCompiler.POLY_Z, k), z[k]);
        }
    }

    /** Each column goes through its entries; with m coefficients at m points nothing else does. */
    static void columns(QapCompiler q, int m) {
        for (int matrix = 0; matrix < 3; matrix++) {
            for (int v = 0; v < q.info(QapCompiler.INFO_WIRES, 0); v++) {
                for (int j = 0; j < m && q.linearForm(0, v) != -1; j++) {
                    long sum = 0;
                    for (int k = m - 1; k >= 0; k--) {
                        sum = (sum * point(q, j) + q.columnCoeff(matrix, v, k)) % P;
                    }
                    String what = "m " + m + ", column " + v + " of " + matrix + " at point " + j;
                    Checks.due(what, sum, q.matrixEntry(matrix, j, v));
                }
            }
        }
    }

    /** A, B and C are the sums of the columns, each times the value of its variable. */
    static void weightedColumns(QapCompiler q, int m) {
        for (int matrix = 0; matrix < 3; matrix++) {
            for (int k = 0; k < m; k++) {
                long sum = 0;
                for (int v = 0; v < q.info(QapCompiler.INFO_WIRES, 0); v++) {
                    if (q.linearForm(0, v) != -1) {
                        long value = q.info(QapCompiler.INFO_VALUE, v);
                        sum = (sum + value * q.columnCoeff(matrix, v, k)) % P;
                    }
                }
                Checks.due("m " + m + ", polynomial " + matrix + " at " + k, q.coeff(matrix, k), sum);
            }
        }
    }

    /** P = A * B - C. */
    static void product(QapCompiler q, int m) {
        for (int k = 0; k < 2 * m - 1; k++) {
            long sum = k < m ? P - q.coeff(QapCompiler.POLY_C, k) : 0;
            for (int i = 0; i < m; i++) {
                if (k - i >= 0 && k - i < m) {
                    sum = (sum + (long) q.coeff(QapCompiler.POLY_A, i) * q.coeff(QapCompiler.POLY_B, k - i)) % P;
                }
            }
            Checks.due("m " + m + ", P at " + k, q.coeff(QapCompiler.POLY_P, k), sum % P);
        }
    }

    /** P = H * Z + R. */
    static void quotient(QapCompiler q, int m) {
        for (int k = 0; k < 2 * m - 1; k++) {
            long sum = k < m ? q.coeff(QapCompiler.POLY_R, k) : 0;
            for (int i = 0; i < m; i++) {
                if (k - i >= 0 && k - i <= m) {
                    sum = (sum + (long) q.coeff(QapCompiler.POLY_H, i) * q.coeff(QapCompiler.POLY_Z, k - i)) % P;
                }
            }
            Checks.due("m " + m + ", H * Z + R at " + k, sum, q.coeff(QapCompiler.POLY_P, k));
        }
    }

    /** Every polynomial's value at the edges is that of its coefficients. */
    static void evaluations(QapCompiler q) {
        for (int which = 0; which < 7; which++) {
            for (int x : Circuits.EDGES) {
                long sum = 0;
                long power = 1;
                for (int k = 0; k < 32 && q.coeff(which, k) != -1; k++) {
                    sum = (sum + q.coeff(which, k) * power) % P;
                    power = power * Circuits.reduced(x) % P;
                }
                Checks.due("evaluate(" + which + ", " + x + ")", q.evaluate(which, x), sum);
            }
        }
    }
}
