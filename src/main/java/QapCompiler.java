/** An arithmetic circuit over GF(P), compiled into a quadratic arithmetic program. */
public final class QapCompiler {
    public static final int P = 2147483647;
    public static final int REFUSED = -1;
    public static final int KIND_ONE = 0;
    public static final int KIND_INPUT = 1;
    public static final int KIND_ADD = 2;
    public static final int KIND_MUL = 3;
    public static final int KIND_CMUL = 4;
    public static final int MATRIX_A = 0;
    public static final int MATRIX_B = 1;
    public static final int MATRIX_C = 2;
    public static final int POLY_A = 0;
    public static final int POLY_B = 1;
    public static final int POLY_C = 2;
    public static final int POLY_Z = 3;
    public static final int POLY_P = 4;
    public static final int POLY_H = 5;
    public static final int POLY_R = 6;
    public static final int INFO_WIRES = 0;
    public static final int INFO_CONSTRAINTS = 1;
    public static final int INFO_COMPILED = 2;
    public static final int INFO_HAS_QUOTIENT = 3;
    public static final int INFO_SATISFIED = 4;
    public static final int INFO_KIND = 5;
    public static final int INFO_VALUE = 6;
    public static final int INFO_POINT = 7;
    public static final int INFO_MAX_WIRES = 8;
    public static final int INFO_MAX_CONSTRAINTS = 9;

    private static final int LEAST_WIRES = 8;
    private static final int MOST_WIRES = 32;
    private static final int LEAST_CONSTRAINTS = 4;
    private static final int MOST_CONSTRAINTS = 16;
    // The longest polynomial is P with 2 * 16 - 1 coefficients.
    private static final int POLY_STRIDE = 32;
    private static final int FORM_CELLS = 1024;
    private static final int MATRIX_CELLS = 1536;
    private static final int BASIS_CELLS = 256;
    private static final int POLY_CELLS = 224;
    private static final int INVERSE_EXPONENT = P - 2;
    private static final int EXPONENT_BITS = 31;

    private final int maxWires;
    private final int maxConstraints;
    private int wireCount;
    private int constraintCount;
    private boolean compiled;
    private boolean hasQuotient;

    private final int[] kinds = new int[MOST_WIRES];
    private final int[] leftOperands = new int[MOST_WIRES];
    private final int[] rightOperands = new int[MOST_WIRES];
    // The assignment x: 1 at wire 0, and 0 for ever at the wires that are no variables.
    private final int[] assignment = new int[MOST_WIRES];
    private final int[] forms = new int[FORM_CELLS];
    private final int[] matrices = new int[MATRIX_CELLS];
    private final int[] points = new int[MOST_CONSTRAINTS];
    // Row j is the polynomial that is 1 at point j and 0 at the other points in use.
    private final int[] basis = new int[BASIS_CELLS];
    // A row for each POLY_ constant. Once compiled, A, B, C, Z and P are always up to date.
    private final int[] polys = new int[POLY_CELLS];

    public QapCompiler(int maxWires, int maxConstraints) {
        this.maxWires = clamp(maxWires, LEAST_WIRES, MOST_WIRES);
        this.maxConstraints = clamp(maxConstraints, LEAST_CONSTRAINTS, MOST_CONSTRAINTS);
        for (int j = 0; j < MOST_CONSTRAINTS; j++) {
            points[j] = j + 1;
        }
        makeVariable(KIND_ONE);
        assignment[0] = 1;
    }

    public int addInput() {
        if (compiled || wireCount == maxWires) {
            return REFUSED;
        }
        return makeVariable(KIND_INPUT);
    }

    public int addGate(int kind, int a, int b) {
        if (compiled || !isGateKind(kind) || !isWire(a)) {
            return REFUSED;
        }
        if (kind != KIND_CMUL && !isWire(b)) {
            return REFUSED;
        }
        if (wireCount == maxWires) {
            return REFUSED;
        }
        if (kind == KIND_MUL && constraintCount == maxConstraints) {
            return REFUSED;
        }
        if (kind == KIND_MUL) {
            return makeProduct(a, b);
        }
        if (kind == KIND_ADD) {
            return makeSum(a, b);
        }
        int factor = reduce(b);
        return makeMultiple(a, factor);
    }

    public int assertEqual(int a, int b) {
        if (compiled || !isWire(a) || !isWire(b) || constraintCount == maxConstraints) {
            return REFUSED;
        }
        int j = constraintCount;
        int rowA = matrixRow(MATRIX_A, j);
        int rowB = matrixRow(MATRIX_B, j);
        for (int v = 0; v < wireCount; v++) {
            matrices[rowA + v] = subtract(forms[a * MOST_WIRES + v], forms[b * MOST_WIRES + v]);
        }
        matrices[rowB] = 1;
        constraintCount = j + 1;
        return j;
    }

    public boolean setPoint(int j, int v) {
        if (compiled || j < 0 || j >= maxConstraints) {
            return false;
        }
        int value = reduce(v);
        for (int k = 0; k < maxConstraints; k++) {
            if (k != j && points[k] == value) {
                return false;
            }
        }
        points[j] = value;
        return true;
    }

    public int compile() {
        if (compiled || constraintCount == 0) {
            return REFUSED;
        }
        buildVanishing();
        for (int j = 0; j < constraintCount; j++) {
            buildBasisRow(j);
        }
        compiled = true;
        refreshPolys();
        return constraintCount;
    }

    public boolean setWitness(int w, int v) {
        if (!isWire(w) || (kinds[w] != KIND_INPUT && kinds[w] != KIND_MUL)) {
            return false;
        }
        assignment[w] = reduce(v);
        witnessChanged();
        return true;
    }

    public int solve() {
        int changed = 0;
        for (int w = 0; w < wireCount; w++) {
            if (kinds[w] == KIND_MUL) {
                int left = wireValue(leftOperands[w]);
                int right = wireValue(rightOperands[w]);
                int product = multiply(left, right);
                if (product != assignment[w]) {
                    assignment[w] = product;
                    changed++;
                }
            }
        }
        witnessChanged();
        return changed;
    }

    public int linearForm(int w, int v) {
        if (!isWire(w) || !isVariable(v)) {
            return REFUSED;
        }
        return forms[w * MOST_WIRES + v];
    }

    public int matrixEntry(int matrix, int j, int v) {
        if (!isMatrix(matrix) || j < 0 || j >= constraintCount || !isVariable(v)) {
            return REFUSED;
        }
        return matrices[matrixRow(matrix, j) + v];
    }

    public int columnCoeff(int matrix, int v, int k) {
        if (!isMatrix(matrix) || !compiled || !isVariable(v) || k < 0 || k >= constraintCount) {
            return REFUSED;
        }
        int sum = 0;
        for (int j = 0; j < constraintCount; j++) {
            int row = matrixRow(matrix, j);
            int term = multiply(matrices[row + v], basis[j * MOST_CONSTRAINTS + k]);
            sum = add(sum, term);
        }
        return sum;
    }

    public int divide() {
        if (!compiled) {
            return REFUSED;
        }
        buildQuotient();
        hasQuotient = true;
        return remainderIsZero() ? 1 : 0;
    }

    public int coeff(int which, int k) {
        if (!isReadable(which) || k < 0 || k >= polyLength(which)) {
            return REFUSED;
        }
        return polys[which * POLY_STRIDE + k];
    }

    public int evaluate(int which, int x) {
        if (!isReadable(which)) {
            return REFUSED;
        }
        int r = reduce(x);
        return polyValue(which, r);
    }

    public int checkAt(int x) {
        if (!hasQuotient) {
            return REFUSED;
        }
        int r = reduce(x);
        int h = polyValue(POLY_H, r);
        int z = polyValue(POLY_Z, r);
        return polyValue(POLY_P, r) == multiply(h, z) ? 1 : 0;
    }

    public int info(int what, int index) {
        switch (what) {
            case INFO_WIRES:
                return wireCount;
            case INFO_CONSTRAINTS:
                return constraintCount;
            case INFO_COMPILED:
                return compiled ? 1 : 0;
            case INFO_HAS_QUOTIENT:
                return hasQuotient ? 1 : 0;
            case INFO_SATISFIED:
                return isSatisfied() ? 1 : 0;
            case INFO_KIND:
                return isWire(index) ? kinds[index] : REFUSED;
            case INFO_VALUE:
                return isWire(index) ? wireValue(index) : REFUSED;
            case INFO_POINT:
                return index >= 0 && index < maxConstraints ? points[index] : REFUSED;
            case INFO_MAX_WIRES:
                return maxWires;
            case INFO_MAX_CONSTRAINTS:
                return maxConstraints;
            default:
                return REFUSED;
        }
    }

    private static int clamp(int value, int least, int most) {
        if (value < least) {
            return least;
        }
        return value > most ? most : value;
    }

    private static int reduce(int v) {
        int r = v % P;
        return r < 0 ? r + P : r;
    }

    private static int add(int a, int b) {
        return (int) (((long) a + b) % P);
    }

    private static int subtract(int a, int b) {
        return a >= b ? a - b : a - b + P;
    }

    private static int multiply(int a, int b) {
        return (int) ((long) a * b % P);
    }

    // Fermat: a^(P-2) is the inverse of any a but 0.
    private static int invert(int a) {
        int result = 1;
        int square = a;
        for (int bit = 0; bit < EXPONENT_BITS; bit++) {
            if ((INVERSE_EXPONENT >> bit & 1) == 1) {
                result = multiply(result, square);
            }
            square = multiply(square, square);
        }
        return result;
    }

    private static boolean isGateKind(int kind) {
        return kind == KIND_ADD || kind == KIND_MUL || kind == KIND_CMUL;
    }

    private static boolean isMatrix(int matrix) {
        return matrix == MATRIX_A || matrix == MATRIX_B || matrix == MATRIX_C;
    }

    private static int matrixRow(int matrix, int j) {
        return (matrix * MOST_CONSTRAINTS + j) * MOST_WIRES;
    }

    private boolean isWire(int w) {
        return w >= 0 && w < wireCount;
    }

    private boolean isVariable(int v) {
        return isWire(v) && kinds[v] != KIND_ADD && kinds[v] != KIND_CMUL;
    }

    private int makeWire(int kind) {
        int w = wireCount;
        kinds[w] = kind;
        wireCount = w + 1;
        return w;
    }

    private int makeVariable(int kind) {
        int w = makeWire(kind);
        forms[w * MOST_WIRES + w] = 1;
        return w;
    }

    private int makeSum(int a, int b) {
        int w = makeWire(KIND_ADD);
        for (int v = 0; v < w; v++) {
            forms[w * MOST_WIRES + v] = add(forms[a * MOST_WIRES + v], forms[b * MOST_WIRES + v]);
        }
        return w;
    }

    private int makeMultiple(int a, int factor) {
        int w = makeWire(KIND_CMUL);
        for (int v = 0; v < w; v++) {
            forms[w * MOST_WIRES + v] = multiply(factor, forms[a * MOST_WIRES + v]);
        }
        return w;
    }

    private int makeProduct(int a, int b) {
        int w = makeVariable(KIND_MUL);
        leftOperands[w] = a;
        rightOperands[w] = b;
        int rowA = matrixRow(MATRIX_A, constraintCount);
        int rowB = matrixRow(MATRIX_B, constraintCount);
        int rowC = matrixRow(MATRIX_C, constraintCount);
        for (int v = 0; v < w; v++) {
            matrices[rowA + v] = forms[a * MOST_WIRES + v];
            matrices[rowB + v] = forms[b * MOST_WIRES + v];
        }
        matrices[rowC + w] = 1;
        constraintCount++;
        return w;
    }

    private int wireValue(int w) {
        int sum = 0;
        for (int v = 0; v < wireCount; v++) {
            int term = multiply(forms[w * MOST_WIRES + v], assignment[v]);
            sum = add(sum, term);
        }
        return sum;
    }

    private int rowValue(int matrix, int j) {
        int row = matrixRow(matrix, j);
        int sum = 0;
        for (int v = 0; v < wireCount; v++) {
            int term = multiply(matrices[row + v], assignment[v]);
            sum = add(sum, term);
        }
        return sum;
    }

    private boolean isSatisfied() {
        for (int j = 0; j < constraintCount; j++) {
            int a = rowValue(MATRIX_A, j);
            int b = rowValue(MATRIX_B, j);
            if (multiply(a, b) != rowValue(MATRIX_C, j)) {
                return false;
            }
        }
        return true;
    }

    private void witnessChanged() {
        hasQuotient = false;
        if (compiled) {
            refreshPolys();
        }
    }

    // Downwards in k, so that each step still reads the coefficients of the shorter product.
    private void buildVanishing() {
        int z = POLY_Z * POLY_STRIDE;
        polys[z] = 1;
        for (int j = 0; j < constraintCount; j++) {
            for (int k = j + 1; k > 0; k--) {
                int scaled = multiply(points[j], polys[z + k]);
                polys[z + k] = subtract(polys[z + k - 1], scaled);
            }
            int scaledLowest = multiply(points[j], polys[z]);
            polys[z] = subtract(0, scaledLowest);
        }
    }

    // Z / (x - point j) is 0 at every other point in use; it only has to be scaled to 1 at point j,
    // and it isn't 0 there, because the points are distinct.
    private void buildBasisRow(int j) {
        int row = j * MOST_CONSTRAINTS;
        int z = POLY_Z * POLY_STRIDE;
        int carried = 0;
        int atPoint = 0;
        for (int k = constraintCount - 1; k >= 0; k--) {
            int scaled = multiply(points[j], carried);
            carried = add(polys[z + k + 1], scaled);
            basis[row + k] = carried;
            int shifted = multiply(points[j], atPoint);
            atPoint = add(shifted, carried);
        }
        int scale = invert(atPoint);
        for (int k = 0; k < constraintCount; k++) {
            basis[row + k] = multiply(basis[row + k], scale);
        }
    }

    private void refreshPolys() {
        interpolate(MATRIX_A, POLY_A);
        interpolate(MATRIX_B, POLY_B);
        interpolate(MATRIX_C, POLY_C);
        buildProductMinusC();
    }

    // Interpolating the rows' values gives the same polynomial as summing the weighted columns.
    private void interpolate(int matrix, int which) {
        int poly = which * POLY_STRIDE;
        for (int k = 0; k < constraintCount; k++) {
            polys[poly + k] = 0;
        }
        for (int j = 0; j < constraintCount; j++) {
            int value = rowValue(matrix, j);
            for (int k = 0; k < constraintCount; k++) {
                int term = multiply(value, basis[j * MOST_CONSTRAINTS + k]);
                polys[poly + k] = add(polys[poly + k], term);
            }
        }
    }

    private void buildProductMinusC() {
        int a = POLY_A * POLY_STRIDE;
        int b = POLY_B * POLY_STRIDE;
        int c = POLY_C * POLY_STRIDE;
        int p = POLY_P * POLY_STRIDE;
        for (int k = 0; k < POLY_STRIDE; k++) {
            polys[p + k] = subtract(0, polys[c + k]);
        }
        for (int i = 0; i < constraintCount; i++) {
            for (int k = 0; k < constraintCount; k++) {
                int term = multiply(polys[a + i], polys[b + k]);
                polys[p + i + k] = add(polys[p + i + k], term);
            }
        }
    }

    // Long division in the row of R, which starts as P; Z is monic, so no inverse is needed.
    private void buildQuotient() {
        int z = POLY_Z * POLY_STRIDE;
        int p = POLY_P * POLY_STRIDE;
        int h = POLY_H * POLY_STRIDE;
        int r = POLY_R * POLY_STRIDE;
        for (int k = 0; k < POLY_STRIDE; k++) {
            polys[r + k] = polys[p + k];
        }
        for (int i = constraintCount - 2; i >= 0; i--) {
            int lead = polys[r + i + constraintCount];
            polys[h + i] = lead;
            for (int k = 0; k <= constraintCount; k++) {
                int term = multiply(lead, polys[z + k]);
                polys[r + i + k] = subtract(polys[r + i + k], term);
            }
        }
    }

    private boolean remainderIsZero() {
        for (int k = 0; k < constraintCount; k++) {
            if (polys[POLY_R * POLY_STRIDE + k] != 0) {
                return false;
            }
        }
        return true;
    }

    private boolean isReadable(int which) {
        if (which < POLY_A || which > POLY_R || !compiled) {
            return false;
        }
        return hasQuotient || (which != POLY_H && which != POLY_R);
    }

    private int polyLength(int which) {
        if (which == POLY_Z) {
            return constraintCount + 1;
        }
        return which == POLY_P ? 2 * constraintCount - 1 : constraintCount;
    }

    private int polyValue(int which, int r) {
        int sum = 0;
        for (int k = polyLength(which) - 1; k >= 0; k--) {
            int shifted = multiply(sum, r);
            sum = add(shifted, polys[which * POLY_STRIDE + k]);
        }
        return sum;
    }
}
