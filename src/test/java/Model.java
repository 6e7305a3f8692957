import java.math.BigInteger;
import java.util.ArrayList;
import java.util.Arrays;
import java.util.List;

/**
 * The document's definitions, word for word and without a thought for speed, over BigInteger:
 * what a QapCompiler is compared with. It interpolates by solving linear equations.
 */
final class Model {
    private static final BigInteger FIELD = BigInteger.valueOf(2147483647L);
    private static final BigInteger ZERO = BigInteger.ZERO;
    private static final BigInteger ONE = BigInteger.ONE;

    private record Wire(int kind, int a, int b) {
    }

    private record Constraint(boolean product, int a, int b, int w) {
    }

    private final int maxWires;
    private final int maxConstraints;
    private final List<Wire> wires = new ArrayList<>();
    private final List<BigInteger> stored = new ArrayList<>();
    private final List<Constraint> constraints = new ArrayList<>();
    private final BigInteger[] points;
    private boolean compiled = false;
    private BigInteger[] quotient = null;
    private BigInteger[] remainder = null;
    private BigInteger[][] inverse = null;

    Model(int maxWires, int maxConstraints) {
        this.maxWires = Math.max(8, Math.min(32, maxWires));
        this.maxConstraints = Math.max(4, Math.min(16, maxConstraints));
        points = new BigInteger[this.maxConstraints];
        for (int j = 0; j < points.length; j++) {
            points[j] = BigInteger.valueOf(j + 1);
        }
        make(0, 0, 0);
    }

    int addInput() {
        return compiled || wires.size() == maxWires ? -1 : make(1, 0, 0);
    }

    int addGate(int kind, int a, int b) {
        boolean known = kind == 2 || kind == 3 || kind == 4;
        if (compiled || !known || !isWire(a) || (kind != 4 && !isWire(b)) || wires.size() == maxWires) {
            return -1;
        }
        if (kind == 3 && constraints.size() == maxConstraints) {
            return -1;
        }
        int w = make(kind, a, b);
        if (kind == 3) {
            constraints.add(new Constraint(true, a, b, w));
        }
        return w;
    }

    int assertEqual(int a, int b) {
        if (compiled || !isWire(a) || !isWire(b) || constraints.size() == maxConstraints) {
            return -1;
        }
        constraints.add(new Constraint(false, a, b, 0));
        return constraints.size() - 1;
    }

    boolean setPoint(int j, int v) {
        if (compiled || j < 0 || j >= maxConstraints) {
            return false;
        }
        for (int k = 0; k < maxConstraints; k++) {
            if (k != j && points[k].equals(reduce(v))) {
                return false;
            }
        }
        points[j] = reduce(v);
        return true;
    }

    int compile() {
        if (compiled || constraints.isEmpty()) {
            return -1;
        }
        compiled = true;
        inverse = invertVandermonde();
        return constraints.size();
    }

    boolean setWitness(int w, int v) {
        if (!isWire(w) || (wires.get(w).kind() != 1 && wires.get(w).kind() != 3)) {
            return false;
        }
        stored.set(w, reduce(v));
        quotient = null;
        return true;
    }

    int solve() {
        List<BigInteger> before = new ArrayList<>(stored);
        for (int w = 0; w < wires.size(); w++) {
            Wire wire = wires.get(w);
            if (wire.kind() == 3) {
                stored.set(w, value(wire.a()).multiply(value(wire.b())).mod(FIELD));
            }
        }
        quotient = null;
        int changed = 0;
        for (int w = 0; w < wires.size(); w++) {
            changed += before.get(w).equals(stored.get(w)) ? 0 : 1;
        }
        return changed;
    }

    int linearForm(int w, int v) {
        return isWire(w) && isVariable(v) ? form(w)[v].intValueExact() : -1;
    }

    int matrixEntry(int matrix, int j, int v) {
        if (matrix < 0 || matrix > 2 || j < 0 || j >= constraints.size() || !isVariable(v)) {
            return -1;
        }
        return row(matrix, j)[v].intValueExact();
    }

    int columnCoeff(int matrix, int v, int k) {
        if (matrix < 0 || matrix > 2 || !compiled || !isVariable(v) || k < 0 || k >= constraints.size()) {
            return -1;
        }
        return column(matrix, v)[k].intValueExact();
    }

    int divide() {
        if (!compiled) {
            return -1;
        }
        int m = constraints.size();
        BigInteger[] rest = polynomial(4);
        BigInteger[] z = polynomial(3);
        quotient = zeros(m);
        for (int top = 2 * m - 2; top >= m; top--) {
            BigInteger factor = rest[top];
            quotient[top - m] = factor;
            for (int i = 0; i <= m; i++) {
                rest[top - i] = rest[top - i].subtract(factor.multiply(z[m - i])).mod(FIELD);
            }
        }
        remainder = Arrays.copyOf(rest, m);
        return Arrays.stream(remainder).allMatch(c -> c.signum() == 0) ? 1 : 0;
    }

    int coeff(int which, int k) {
        if (!readable(which)) {
            return -1;
        }
        BigInteger[] poly = polynomial(which);
        return k < 0 || k >= poly.length ? -1 : poly[k].intValueExact();
    }

    int evaluate(int which, int x) {
        return readable(which) ? at(polynomial(which), reduce(x)).intValueExact() : -1;
    }

    int checkAt(int x) {
        if (quotient == null) {
            return -1;
        }
        BigInteger r = reduce(x);
        return at(polynomial(4), r).equals(at(quotient, r).multiply(at(polynomial(3), r)).mod(FIELD)) ? 1 : 0;
    }

    int info(int what, int index) {
        switch (what) {
            case 0: return wires.size();
            case 1: return constraints.size();
            case 2: return compiled ? 1 : 0;
            case 3: return quotient != null ? 1 : 0;
            case 4: return satisfied() ? 1 : 0;
            case 5: return isWire(index) ? wires.get(index).kind() : -1;
            case 6: return isWire(index) ? value(index).intValueExact() : -1;
            case 7: return index >= 0 && index < maxConstraints ? points[index].intValueExact() : -1;
            case 8: return maxWires;
            case 9: return maxConstraints;
            default: return -1;
        }
    }

    private static BigInteger reduce(int v) {
        return BigInteger.valueOf(v).mod(FIELD);
    }

    private static BigInteger[] zeros(int length) {
        BigInteger[] poly = new BigInteger[length];
        Arrays.fill(poly, ZERO);
        return poly;
    }

    private static BigInteger at(BigInteger[] poly, BigInteger x) {
        BigInteger sum = ZERO;
        for (int k = 0; k < poly.length; k++) {
            sum = sum.add(poly[k].multiply(x.pow(k))).mod(FIELD);
        }
        return sum;
    }

    private int make(int kind, int a, int b) {
        wires.add(new Wire(kind, a, b));
        stored.add(ZERO);
        return wires.size() - 1;
    }

    private boolean isWire(int w) {
        return w >= 0 && w < wires.size();
    }

    private boolean isVariable(int v) {
        return isWire(v) && wires.get(v).kind() != 2 && wires.get(v).kind() != 4;
    }

    private boolean readable(int which) {
        return which >= 0 && which <= 6 && compiled && (which < 5 || quotient != null);
    }

    private BigInteger value(int w) {
        Wire wire = wires.get(w);
        switch (wire.kind()) {
            case 0: return ONE;
            case 2: return value(wire.a()).add(value(wire.b())).mod(FIELD);
            case 4: return reduce(wire.b()).multiply(value(wire.a())).mod(FIELD);
            default: return stored.get(w);
        }
    }

    private BigInteger[] form(int w) {
        Wire wire = wires.get(w);
        BigInteger[] form = zeros(wires.size());
        if (wire.kind() != 2 && wire.kind() != 4) {
            form[w] = ONE;
            return form;
        }
        BigInteger[] first = form(wire.a());
        BigInteger[] second = wire.kind() == 2 ? form(wire.b()) : null;
        for (int v = 0; v < form.length; v++) {
            form[v] = second == null ? first[v].multiply(reduce(wire.b())) : first[v].add(second[v]);
            form[v] = form[v].mod(FIELD);
        }
        return form;
    }

    private BigInteger[] row(int matrix, int j) {
        Constraint c = constraints.get(j);
        BigInteger[] row = zeros(wires.size());
        if (c.product()) {
            if (matrix == 2) {
                row[c.w()] = ONE;
                return row;
            }
            return form(matrix == 0 ? c.a() : c.b());
        }
        if (matrix == 1) {
            row[0] = ONE;
        } else if (matrix == 0) {
            BigInteger[] first = form(c.a());
            BigInteger[] second = form(c.b());
            for (int v = 0; v < row.length; v++) {
                row[v] = first[v].subtract(second[v]).mod(FIELD);
            }
        }
        return row;
    }

    private boolean satisfied() {
        for (Constraint c : constraints) {
            BigInteger left = c.product() ? value(c.a()).multiply(value(c.b())).mod(FIELD) : value(c.a());
            if (!left.equals(c.product() ? value(c.w()) : value(c.b()))) {
                return false;
            }
        }
        return true;
    }

    /** Gauss and Jordan on the matrix of the powers of the points. */
    private BigInteger[][] invertVandermonde() {
        int m = constraints.size();
        BigInteger[][] rows = new BigInteger[m][];
        for (int j = 0; j < m; j++) {
            rows[j] = zeros(2 * m);
            for (int k = 0; k < m; k++) {
                rows[j][k] = points[j].modPow(BigInteger.valueOf(k), FIELD);
            }
            rows[j][m + j] = ONE;
        }
        for (int k = 0; k < m; k++) {
            int pivot = k;
            while (rows[pivot][k].signum() == 0) {
                pivot++;
            }
            BigInteger[] chosen = rows[pivot];
            rows[pivot] = rows[k];
            BigInteger scale = chosen[k].modInverse(FIELD);
            for (int i = 0; i < 2 * m; i++) {
                chosen[i] = chosen[i].multiply(scale).mod(FIELD);
            }
            rows[k] = chosen;
            for (int j = 0; j < m; j++) {
                BigInteger factor = rows[j][k];
                for (int i = 0; j != k && i < 2 * m; i++) {
                    rows[j][i] = rows[j][i].subtract(factor.multiply(chosen[i])).mod(FIELD);
                }
            }
        }
        for (int k = 0; k < m; k++) {
            rows[k] = Arrays.copyOfRange(rows[k], m, 2 * m);
        }
        return rows;
    }

    private BigInteger[] column(int matrix, int v) {
        int m = constraints.size();
        BigInteger[] column = zeros(m);
        for (int j = 0; j < m; j++) {
            BigInteger entry = row(matrix, j)[v];
            for (int k = 0; k < m; k++) {
                column[k] = column[k].add(inverse[k][j].multiply(entry)).mod(FIELD);
            }
        }
        return column;
    }

    private BigInteger[] weighted(int matrix) {
        BigInteger[] sum = zeros(constraints.size());
        for (int v = 0; v < wires.size(); v++) {
            if (isVariable(v)) {
                BigInteger[] column = column(matrix, v);
                for (int k = 0; k < sum.length; k++) {
                    sum[k] = sum[k].add(value(v).multiply(column[k])).mod(FIELD);
                }
            }
        }
        return sum;
    }

    private BigInteger[] polynomial(int which) {
        switch (which) {
            case 3: return vanishing();
            case 4: return productMinusC();
            case 5: return quotient;
            case 6: return remainder;
            default: return weighted(which);
        }
    }

    private BigInteger[] vanishing() {
        BigInteger[] z = {ONE};
        for (int j = 0; j < constraints.size(); j++) {
            BigInteger[] longer = zeros(z.length + 1);
            for (int k = 0; k < z.length; k++) {
                longer[k + 1] = longer[k + 1].add(z[k]).mod(FIELD);
                longer[k] = longer[k].subtract(z[k].multiply(points[j])).mod(FIELD);
            }
            z = longer;
        }
        return z;
    }

    private BigInteger[] productMinusC() {
        int m = constraints.size();
        BigInteger[] a = weighted(0);
        BigInteger[] b = weighted(1);
        BigInteger[] c = weighted(2);
        BigInteger[] p = zeros(2 * m - 1);
        for (int i = 0; i < m; i++) {
            p[i] = p[i].subtract(c[i]).mod(FIELD);
            for (int k = 0; k < m; k++) {
                p[i + k] = p[i + k].add(a[i].multiply(b[k])).mod(FIELD);
            }
        }
        return p;
    }
}
