import java.util.TreeSet;

/** Arguments at and next to every edge that a range, a sign, a mask or a narrower type can have. */
final class Numbers {
    static final int[] NOT_A_CONTEXT = outside(0, 3);
    static final int[] NOT_A_CELL = outside(0, 7);
    static final int[] VALUES = values();

    private Numbers() {
    }

    private static int[] outside(int first, int last) {
        TreeSet<Integer> all = new TreeSet<>();
        for (int i = -300; i <= 300; i++) {
            all.add(i);
        }
        addPowers(all, 9);
        all.removeIf(i -> i >= first && i <= last);
        return toArray(all);
    }

    /** Values of m: the edges of int, char and short, and those of the document's examples. */
    private static int[] values() {
        TreeSet<Integer> all = new TreeSet<>();
        for (int i = -6; i <= 40; i++) {
            all.add(i);
        }
        for (int i = 111; i <= 125; i++) {
            all.add(i);
        }
        addPowers(all, 1);
        for (int i = -6; i <= 6; i++) {
            all.add(65536 + i);
            all.add(-65536 + i);
            all.add(3 * 65536 + i);
        }
        return toArray(all);
    }

    /** Each power of two, its negative, and what lies near them, with int's wrap-around. */
    private static void addPowers(TreeSet<Integer> all, int near) {
        for (int bit = 0; bit <= 31; bit++) {
            for (int i = -near; i <= near; i++) {
                all.add((1 << bit) + i);
                all.add(-(1 << bit) + i);
            }
        }
    }

    private static int[] toArray(TreeSet<Integer> all) {
        return all.stream().mapToInt(Integer::intValue).toArray();
    }
}
