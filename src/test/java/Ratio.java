import java.math.BigInteger;

/** A fraction for the model, always without a common divisor. */
final class Ratio {
    static final Ratio ZERO = of(0);
    static final Ratio ONE = of(1);

    final BigInteger above;
    final BigInteger below;

    Ratio(BigInteger above, BigInteger below) {
        BigInteger common = above.gcd(below);
        BigInteger divisor = below.signum() < 0 ? common.negate() : common;
        this.above = above.divide(divisor);
        this.below = below.divide(divisor);
    }

    static Ratio of(long above) {
        return of(above, 1);
    }

    static Ratio of(long above, long below) {
        return new Ratio(BigInteger.valueOf(above), BigInteger.valueOf(below));
    }

    Ratio plus(Ratio other) {
        return new Ratio(above.multiply(other.below).add(other.above.multiply(below)), below.multiply(other.below));
    }

    Ratio minus(Ratio other) {
        return plus(new Ratio(other.above.negate(), other.below));
    }

    Ratio times(Ratio other) {
        return new Ratio(above.multiply(other.above), below.multiply(other.below));
    }

    Ratio by(Ratio other) {
        return new Ratio(above.multiply(other.below), below.multiply(other.above));
    }

    Ratio power(int exponent) {
        return new Ratio(above.pow(exponent), below.pow(exponent));
    }

    int sign() {
        return above.signum();
    }

    int compare(Ratio other) {
        return minus(other).sign();
    }

    boolean same(Ratio other) {
        return compare(other) == 0;
    }

    /** Solves equations by Gauss: rows of n coefficients and the right side; null if there is not just one answer. */
    static Ratio[] solve(Ratio[][] rows) {
        int n = rows.length;
        for (int column = 0; column < n; column++) {
            int pivot = column;
            while (pivot < n && rows[pivot][column].sign() == 0) {
                pivot++;
            }
            if (pivot == n) {
                return null;
            }
            Ratio[] row = rows[pivot];
            rows[pivot] = rows[column];
            rows[column] = row;
            for (int other = 0; other < n; other++) {
                if (other != column && rows[other][column].sign() != 0) {
                    Ratio factor = rows[other][column].by(row[column]);
                    for (int k = column; k <= n; k++) {
                        rows[other][k] = rows[other][k].minus(factor.times(row[k]));
                    }
                }
            }
        }
        Ratio[] answer = new Ratio[n];
        for (int i = 0; i < n; i++) {
            answer[i] = rows[i][n].by(rows[i][i]);
        }
        return answer;
    }

    static Ratio[][] zeros(int rows, int columns) {
        Ratio[][] all = new Ratio[rows][columns];
        for (Ratio[] row : all) {
            java.util.Arrays.fill(row, ZERO);
        }
        return all;
    }
}
