/** What several tests count the plain way, going through all numbers. */
final class ByHand {
    private ByHand() {
    }

    /** How many wheels two numbers have alike. */
    static int right(int one, int other) {
        int right = 0;
        for (int ten = 1; ten <= 100; ten *= 10) {
            right += one / ten % 10 == other / ten % 10 ? 1 : 0;
        }
        return right;
    }

    /** How many numbers are so many steps at most from what is shown. */
    static int within(int shown, int n) {
        int numbers = 0;
        for (int number = 0; number < 1000; number++) {
            int steps = 0;
            for (int ten = 1; ten <= 100; ten *= 10) {
                int apart = Math.abs(number / ten % 10 - shown / ten % 10);
                steps += Math.min(apart, 10 - apart);
            }
            numbers += steps <= n ? 1 : 0;
        }
        return numbers;
    }

    /** How many numbers agree with all that was heard: pairs of a number and how many wheels were right. */
    static int possible(int[][] heard) {
        int many = 0;
        for (int code = 0; code < 1000; code++) {
            many += agrees(code, heard) ? 1 : 0;
        }
        return many;
    }

    private static boolean agrees(int code, int[][] heard) {
        for (int[] h : heard) {
            if (right(code, h[0]) != h[1]) {
                return false;
            }
        }
        return true;
    }

    /** The next number to try, from the greatest down: so the least of several comes last. */
    static int question(int[][] heard) {
        int possible = possible(heard);
        if (possible < 2 || possible > 250) {
            return GateChain.NONE;
        }
        int best = GateChain.NONE;
        int least = 1001;
        for (int tried = 999; tried >= 0; tried--) {
            int greatest = greatestPart(tried, heard);
            if (greatest <= least) {
                least = greatest;
                best = tried;
            }
        }
        return best;
    }

    private static int greatestPart(int tried, int[][] heard) {
        int[] parts = new int[4];
        for (int code = 0; code < 1000; code++) {
            if (agrees(code, heard)) {
                parts[right(code, tried)]++;
            }
        }
        return Math.max(Math.max(parts[0], parts[1]), Math.max(parts[2], parts[3]));
    }
}
