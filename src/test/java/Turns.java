import java.util.Arrays;
import java.util.List;

/** Where each turn leads from each stack of so many, and by which work, as by() tells; -1 where it can't be. */
final class Turns {
    /** Work counts so many in fewest(), a turn 1. */
    static final int WORK = 10000;

    final int[][] to;
    final int[][] work;

    Turns(String head, String laws, int cakes) {
        List<int[]> stacks = Texts.stacks(cakes);
        to = new int[stacks.size()][cakes + 1];
        work = new int[stacks.size()][cakes + 1];
        GriddleTurn x = new GriddleTurn();
        for (int s = 0; s < to.length; s++) {
            // an object is for 512 calls
            x = s % 16 == 0 ? new GriddleTurn() : x;
            Check.tell(x, head + Texts.cakes(stacks.get(s)) + laws);
            to[s][0] = -1;
            for (int k = 1; k <= cakes; k++) {
                boolean can = x.by(k, 0) >= 0;
                to[s][k] = can ? x.by(k, 0) : -1;
                work[s][k] = can ? x.by(k, 3) : -1;
            }
        }
    }

    /** The least work from each stack to those that are aimed at, -1 if it can't be. */
    int[] least(boolean[] aimed) {
        return least(aimed, 1, 0);
    }

    /** So, but of like work the fewest turns, too: WORK times the one and the other one. */
    int[] fewest(boolean[] aimed) {
        return least(aimed, WORK, 1);
    }

    /** Looked through till nothing changes. */
    private int[] least(boolean[] aimed, int ofWork, int ofTurn) {
        int[] least = new int[to.length];
        for (int s = 0; s < least.length; s++) {
            least[s] = aimed[s] ? 0 : -1;
        }
        boolean changed = true;
        while (changed) {
            changed = false;
            for (int s = 0; s < least.length; s++) {
                for (int k = 1; k < to[s].length; k++) {
                    int then = to[s][k];
                    int more = work[s][k] * ofWork + ofTurn;
                    if (then >= 0 && least[then] >= 0 && (least[s] < 0 || least[then] + more < least[s])) {
                        least[s] = least[then] + more;
                        changed = true;
                    }
                }
            }
        }
        return least;
    }

    /** Within how many turns what is there can be forced, the first one turning next; -1 never. */
    int[] forced(boolean[] there) {
        int[] own = new int[to.length];
        boolean[] ownSo = there.clone();
        boolean[] otherSo = there.clone();
        for (int s = 0; s < own.length; s++) {
            own[s] = there[s] ? 0 : -1;
        }
        boolean changed = true;
        for (int n = 1; changed; n++) {
            boolean[] ownThen = ownSo.clone();
            boolean[] otherThen = otherSo.clone();
            for (int s = 0; s < own.length; s++) {
                boolean can = false;
                boolean some = false;
                boolean every = true;
                for (int then : to[s]) {
                    can |= then >= 0;
                    some |= then >= 0 && otherSo[then];
                    every &= then < 0 || ownSo[then];
                }
                ownThen[s] |= some;
                otherThen[s] |= can && every;
                own[s] = own[s] < 0 && ownThen[s] ? n : own[s];
            }
            changed = !Arrays.equals(ownSo, ownThen) || !Arrays.equals(otherSo, otherThen);
            ownSo = ownThen;
            otherSo = otherThen;
        }
        return own;
    }
}
