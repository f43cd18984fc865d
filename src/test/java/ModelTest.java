/**
 * Long runs of mixed calls against a plain model of the document, which keeps what each block
 * really holds and so needs no reckoning. The runs come from a fixed row of numbers: every run of
 * this test makes the same calls.
 */
public final class ModelTest {
    private static final int RUNS = 4000;
    private static final int CALLS = 512;
    private static final int BLOCKS = 6;
    private static final int PLACES = 8;

    private long seed;
    private final ParityArchive archive = new ParityArchive();
    private final int[][] really = new int[BLOCKS][PLACES];
    private final int[] state = new int[BLOCKS];
    private boolean[] recoveryGood = new boolean[0];

    private ModelTest(long seed) {
        this.seed = seed;
    }

    public static void main(String[] args) {
        for (int run = 0; run < RUNS; run++) {
            new ModelTest(run * 7919L + 1).run(run);
        }
        Due.end();
    }

    private void run(int run) {
        // Losses are rarer in some runs, so that repairs succeed as often as they fail.
        int lossCalls = 1 + run % 4;
        for (int call = 0; call < CALLS; call++) {
            step("run " + run + ", call " + call + ": ", lossCalls);
        }
    }

    private int next(int bound) {
        seed = seed * 6364136223846793005L + 1442695040888963407L;
        return (int) ((seed >>> 33) % bound);
    }

    /** Mostly a number of 0 to bound - 1, now and then one beside that. */
    private int number(int bound) {
        int kind = next(40);
        if (kind == 0) {
            return -1 - next(3);
        }
        if (kind == 1) {
            return bound + next(3);
        }
        return next(bound);
    }

    private void step(String at, int lossCalls) {
        int kind = next(16 + lossCalls * 2);
        int block = number(BLOCKS);
        int place = number(PLACES);
        String where = at + "(" + block + ", " + place + ") ";
        if (kind < 5) {
            int value = number(256);
            Due.due(where + "write " + value, archive.write(block, place, value), write(block, place, value));
        } else if (kind < 9) {
            Due.due(where + "read", archive.read(block, place), read(block, place));
        } else if (kind == 9) {
            Due.due(where + "state", archive.state(block), isBlock(block) ? state[block] : ParityArchive.BAD_BLOCK);
        } else if (kind == 10) {
            Due.due(at + "spare", archive.spare(), spare());
        } else if (kind == 11) {
            Due.due(at + "margin", archive.margin(), margin());
        } else if (kind < 14) {
            Due.due(at + "repair", archive.repair(), repair());
        } else if (kind == 14) {
            int m = number(5);
            Due.due(at + "protect " + m, archive.protect(m), protect(m));
        } else if (kind == 15) {
            rareStep(at);
        } else {
            lossStep(where, block, place, kind);
        }
    }

    private void rareStep(String at) {
        if (next(4) == 0) {
            Due.due(at + "giveUp", archive.giveUp(), giveUp());
        } else {
            int r = number(4);
            Due.due(at + "loseRecovery " + r, archive.loseRecovery(r), loseRecovery(r));
        }
    }

    private void lossStep(String where, int block, int place, int kind) {
        if (kind % 2 == 0) {
            Due.due(where + "lose", archive.lose(block), lose(block));
        } else {
            int bits = next(8) == 0 ? 256 * next(9) : next(1 << 20) - (1 << 19);
            Due.due(where + "spoil " + bits, archive.spoil(block, place, bits), spoil(block, place, bits));
        }
    }

    private static boolean isBlock(int block) {
        return block >= 0 && block < BLOCKS;
    }

    private int refusal(int block, int place) {
        if (!isBlock(block)) {
            return ParityArchive.BAD_BLOCK;
        }
        return place < 0 || place >= PLACES ? ParityArchive.BAD_PLACE : 0;
    }

    private int broken() {
        int count = 0;
        for (int s : state) {
            count += s == ParityArchive.GOOD ? 0 : 1;
        }
        return count;
    }

    private int spare() {
        int count = 0;
        for (boolean good : recoveryGood) {
            count += good ? 1 : 0;
        }
        return count;
    }

    private int margin() {
        if (broken() > spare()) {
            return ParityArchive.TOO_MANY;
        }
        return Math.min(spare() - broken(), BLOCKS - broken());
    }

    private int write(int block, int place, int value) {
        int refusal = refusal(block, place);
        if (refusal != 0) {
            return refusal;
        }
        if (value < 0 || value > 255) {
            return ParityArchive.BAD_VALUE;
        }
        if (state[block] != ParityArchive.GOOD) {
            return ParityArchive.NOT_GOOD;
        }
        int before = really[block][place];
        really[block][place] = value;
        return before;
    }

    private int read(int block, int place) {
        int refusal = refusal(block, place);
        if (refusal != 0) {
            return refusal;
        }
        return state[block] == ParityArchive.GOOD ? really[block][place] : ParityArchive.NOT_GOOD;
    }

    private int protect(int m) {
        if (m < 0 || m > 4) {
            return ParityArchive.BAD_VALUE;
        }
        if (broken() > 0) {
            return ParityArchive.NOT_GOOD;
        }
        recoveryGood = new boolean[m];
        java.util.Arrays.fill(recoveryGood, true);
        return m;
    }

    private int lose(int block) {
        if (!isBlock(block)) {
            return ParityArchive.BAD_BLOCK;
        }
        int before = state[block];
        state[block] = ParityArchive.LOST;
        return before;
    }

    private int loseRecovery(int r) {
        if (r < 0 || r >= recoveryGood.length) {
            return ParityArchive.NO_BLOCK;
        }
        int before = recoveryGood[r] ? ParityArchive.GOOD : ParityArchive.LOST;
        recoveryGood[r] = false;
        return before;
    }

    private int spoil(int block, int place, int bits) {
        int refusal = refusal(block, place);
        if (refusal != 0) {
            return refusal;
        }
        if (state[block] != ParityArchive.GOOD) {
            return ParityArchive.NOT_GOOD;
        }
        state[block] = (bits & 255) == 0 ? ParityArchive.GOOD : ParityArchive.SPOILED;
        return state[block];
    }

    private int repair() {
        int broken = broken();
        if (broken > spare()) {
            return ParityArchive.TOO_MANY;
        }
        java.util.Arrays.fill(state, ParityArchive.GOOD);
        java.util.Arrays.fill(recoveryGood, true);
        return broken;
    }

    private int giveUp() {
        int broken = broken();
        for (int b = 0; b < BLOCKS; b++) {
            if (state[b] != ParityArchive.GOOD) {
                really[b] = new int[PLACES];
                state[b] = ParityArchive.GOOD;
            }
        }
        recoveryGood = new boolean[0];
        return broken;
    }
}
