import java.util.ArrayList;
import java.util.List;

/** Stacks as rows of sizes from the top on, below 0 if burnt side up, and the texts that tell them. */
final class Texts {
    private Texts() {
    }

    static String cakes(int... stack) {
        StringBuilder text = new StringBuilder();
        for (int cake : stack) {
            text.append("cake ").append(Math.abs(cake)).append(cake < 0 ? " up;" : ";");
        }
        return text.toString();
    }

    /** All stacks of so many in the order of their numbers: by sizes first, then by sides. */
    static List<int[]> stacks(int n) {
        List<int[]> orders = new ArrayList<>();
        orders(new int[n], 0, orders);
        List<int[]> all = new ArrayList<>();
        for (int[] order : orders) {
            sides(order.clone(), 0, all);
        }
        return all;
    }

    private static void orders(int[] begun, int at, List<int[]> into) {
        if (at == begun.length) {
            into.add(begun.clone());
            return;
        }
        for (int size = 1; size <= begun.length; size++) {
            boolean laid = false;
            for (int i = 0; i < at; i++) {
                laid |= begun[i] == size;
            }
            if (!laid) {
                begun[at] = size;
                orders(begun, at + 1, into);
            }
        }
    }

    private static void sides(int[] stack, int at, List<int[]> into) {
        if (at == stack.length) {
            into.add(stack.clone());
            return;
        }
        sides(stack, at + 1, into);
        stack[at] = -stack[at];
        sides(stack, at + 1, into);
        stack[at] = -stack[at];
    }
}
