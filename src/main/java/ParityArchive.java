/**
 * An archive of six data blocks of eight bytes, protected by up to four recovery blocks.
 *
 * Bytes are reckoned with as the elements of the field of 256 elements, where adding and taking
 * away are both '^'. Each byte of a recovery block is a weighted sum of the data bytes at the same
 * place. The weights form a Cauchy matrix, because every square part of one can be inverted: so
 * any recovery blocks can stand in for equally many data blocks, whichever they are.
 */
public final class ParityArchive {
    public static final int BAD_BLOCK = -1;
    public static final int BAD_PLACE = -2;
    public static final int BAD_VALUE = -3;
    public static final int NOT_GOOD = -4;
    public static final int NO_BLOCK = -5;
    public static final int TOO_MANY = -6;
    public static final int GOOD = 0;
    public static final int LOST = 1;
    public static final int SPOILED = 2;

    private static final int BLOCKS = 6;
    private static final int PLACES = 8;
    private static final int MOST_RECOVERY = 4;
    private static final int BYTE_BITS = 8;
    private static final int BYTE_MASK = 255;

    private static final int DATA_BYTES = BLOCKS * PLACES;
    private static final int RECOVERY_BYTES = MOST_RECOVERY * PLACES;
    private static final int WEIGHTS = MOST_RECOVERY * BLOCKS;
    private static final int GRID_WIDTH = PLACES + MOST_RECOVERY;
    private static final int GRID_SIZE = MOST_RECOVERY * GRID_WIDTH;

    // x^8 + x^4 + x^3 + x^2 + 1 has no factors, so every byte but 0 has an inverse modulo it.
    private static final int FIELD_POLYNOMIAL = 0x11D;

    private final int[] data = new int[DATA_BYTES];
    private final int[] dataState = new int[BLOCKS];
    private final int[] recoveryData = new int[RECOVERY_BYTES];
    private final int[] recoveryState = new int[MOST_RECOVERY];
    private int recoveryCount = 0;

    private final int[] weights = new int[WEIGHTS];

    // Used within one repair only; they are fields because a method may make no array.
    private final int[] brokenBlocks = new int[BLOCKS];
    private final int[] helpers = new int[MOST_RECOVERY];
    private final int[] grid = new int[GRID_SIZE];

    public ParityArchive() {
        for (int r = 0; r < MOST_RECOVERY; r++) {
            for (int block = 0; block < BLOCKS; block++) {
                // Numbering the recovery blocks on from the data blocks keeps the two apart, so
                // that this is never the inverse of 0.
                weights[r * BLOCKS + block] = inverse((BLOCKS + r) ^ block);
            }
        }
    }

    public int write(int block, int place, int value) {
        if (!isBlock(block)) {
            return BAD_BLOCK;
        }
        if (!isPlace(place)) {
            return BAD_PLACE;
        }
        if (value < 0 || value > BYTE_MASK) {
            return BAD_VALUE;
        }
        if (dataState[block] != GOOD) {
            return NOT_GOOD;
        }
        int before = data[block * PLACES + place];
        data[block * PLACES + place] = value;
        updateRecovery(block, place, before ^ value);
        return before;
    }

    public int protect(int m) {
        if (m < 0 || m > MOST_RECOVERY) {
            return BAD_VALUE;
        }
        if (countBroken() > 0) {
            return NOT_GOOD;
        }
        recoveryCount = m;
        makeRecovery();
        return m;
    }

    public int lose(int block) {
        if (!isBlock(block)) {
            return BAD_BLOCK;
        }
        int before = dataState[block];
        clearBlock(block);
        dataState[block] = LOST;
        return before;
    }

    public int loseRecovery(int recovery) {
        if (recovery < 0 || recovery >= recoveryCount) {
            return NO_BLOCK;
        }
        int before = recoveryState[recovery];
        clearRecovery(recovery);
        recoveryState[recovery] = LOST;
        return before;
    }

    public int spoil(int block, int place, int bits) {
        if (!isBlock(block)) {
            return BAD_BLOCK;
        }
        if (!isPlace(place)) {
            return BAD_PLACE;
        }
        if (dataState[block] != GOOD) {
            return NOT_GOOD;
        }
        int turned = bits & BYTE_MASK;
        if (turned != 0) {
            // The recovery blocks stay as they are: they tell what the block really holds.
            data[block * PLACES + place] ^= turned;
            dataState[block] = SPOILED;
        }
        return dataState[block];
    }

    public int repair() {
        int broken = countBroken();
        if (broken > countGoodRecovery()) {
            return TOO_MANY;
        }
        listBroken();
        listHelpers();
        fillGrid(broken);
        solveGrid(broken);
        takeFromGrid(broken);
        makeRecovery();
        return broken;
    }

    public int giveUp() {
        int broken = 0;
        for (int block = 0; block < BLOCKS; block++) {
            if (dataState[block] != GOOD) {
                clearBlock(block);
                dataState[block] = GOOD;
                broken++;
            }
        }
        recoveryCount = 0;
        return broken;
    }

    public int read(int block, int place) {
        if (!isBlock(block)) {
            return BAD_BLOCK;
        }
        if (!isPlace(place)) {
            return BAD_PLACE;
        }
        if (dataState[block] != GOOD) {
            return NOT_GOOD;
        }
        return data[block * PLACES + place];
    }

    public int state(int block) {
        if (!isBlock(block)) {
            return BAD_BLOCK;
        }
        return dataState[block];
    }

    public int spare() {
        return countGoodRecovery();
    }

    public int margin() {
        int left = countGoodRecovery() - countBroken();
        // Never more than the good data blocks, as there are fewer recovery than data blocks.
        return left < 0 ? TOO_MANY : left;
    }

    private static boolean isBlock(int block) {
        return block >= 0 && block < BLOCKS;
    }

    private static boolean isPlace(int place) {
        return place >= 0 && place < PLACES;
    }

    private int countBroken() {
        int count = 0;
        for (int block = 0; block < BLOCKS; block++) {
            if (dataState[block] != GOOD) {
                count++;
            }
        }
        return count;
    }

    private int countGoodRecovery() {
        int count = 0;
        for (int r = 0; r < recoveryCount; r++) {
            if (recoveryState[r] == GOOD) {
                count++;
            }
        }
        return count;
    }

    private void clearBlock(int block) {
        for (int place = 0; place < PLACES; place++) {
            data[block * PLACES + place] = 0;
        }
    }

    private void clearRecovery(int r) {
        for (int place = 0; place < PLACES; place++) {
            recoveryData[r * PLACES + place] = 0;
        }
    }

    // Works from the change alone, because other data blocks may be lost or spoiled at the time.
    private void updateRecovery(int block, int place, int change) {
        for (int r = 0; r < recoveryCount; r++) {
            if (recoveryState[r] == GOOD) {
                recoveryData[r * PLACES + place] ^= multiply(weights[r * BLOCKS + block], change);
            }
        }
    }

    // Right only while all data blocks are good.
    private void makeRecovery() {
        for (int r = 0; r < recoveryCount; r++) {
            for (int place = 0; place < PLACES; place++) {
                recoveryData[r * PLACES + place] = sumOfGoodBlocks(r, place);
            }
            recoveryState[r] = GOOD;
        }
    }

    private int sumOfGoodBlocks(int r, int place) {
        int sum = 0;
        for (int block = 0; block < BLOCKS; block++) {
            if (dataState[block] == GOOD) {
                sum ^= multiply(weights[r * BLOCKS + block], data[block * PLACES + place]);
            }
        }
        return sum;
    }

    private void listBroken() {
        int count = 0;
        for (int block = 0; block < BLOCKS; block++) {
            if (dataState[block] != GOOD) {
                brokenBlocks[count] = block;
                count++;
            }
        }
    }

    private void listHelpers() {
        int count = 0;
        for (int r = 0; r < recoveryCount; r++) {
            if (recoveryState[r] == GOOD) {
                helpers[count] = r;
                count++;
            }
        }
    }

    // One row an equation: first the eight sums that the broken blocks' bytes must give, one for
    // each place, then the weights of the broken blocks in them.
    private void fillGrid(int broken) {
        for (int row = 0; row < broken; row++) {
            int r = helpers[row];
            int start = row * GRID_WIDTH;
            for (int place = 0; place < PLACES; place++) {
                grid[start + place] = recoveryData[r * PLACES + place] ^ sumOfGoodBlocks(r, place);
            }
            for (int i = 0; i < broken; i++) {
                grid[start + PLACES + i] = weights[r * BLOCKS + brokenBlocks[i]];
            }
        }
    }

    // Rows need no swapping: the upper left parts of a Cauchy matrix can all be inverted, and so
    // no pivot is 0.
    private void solveGrid(int broken) {
        for (int pivot = 0; pivot < broken; pivot++) {
            scaleRow(pivot, broken);
            for (int row = 0; row < broken; row++) {
                if (row != pivot) {
                    clearColumn(row, pivot, broken);
                }
            }
        }
    }

    private void scaleRow(int pivot, int broken) {
        int start = pivot * GRID_WIDTH;
        int factor = inverse(grid[start + PLACES + pivot]);
        for (int column = 0; column < PLACES + broken; column++) {
            grid[start + column] = multiply(factor, grid[start + column]);
        }
    }

    private void clearColumn(int row, int pivot, int broken) {
        int start = row * GRID_WIDTH;
        int pivotStart = pivot * GRID_WIDTH;
        int factor = grid[start + PLACES + pivot];
        for (int column = 0; column < PLACES + broken; column++) {
            grid[start + column] ^= multiply(factor, grid[pivotStart + column]);
        }
    }

    private void takeFromGrid(int broken) {
        for (int row = 0; row < broken; row++) {
            int block = brokenBlocks[row];
            for (int place = 0; place < PLACES; place++) {
                data[block * PLACES + place] = grid[row * GRID_WIDTH + place];
            }
            dataState[block] = GOOD;
        }
    }

    private static int multiply(int a, int b) {
        int product = 0;
        int shifted = a;
        for (int bit = 0; bit < BYTE_BITS; bit++) {
            if (((b >> bit) & 1) != 0) {
                product ^= shifted;
            }
            shifted <<= 1;
            if (shifted > BYTE_MASK) {
                shifted ^= FIELD_POLYNOMIAL;
            }
        }
        return product;
    }

    // The power 255 of every element but 0 is 1, so its inverse is the power 254, which is
    // 2 + 4 + 8 + ... + 128.
    private static int inverse(int a) {
        int power = a;
        int result = 1;
        for (int bit = 1; bit < BYTE_BITS; bit++) {
            power = multiply(power, power);
            result = multiply(result, power);
        }
        return result;
    }
}
