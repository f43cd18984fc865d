import java.util.ArrayList;
import java.util.List;

/** A past of an archive: so many recovery blocks, and these blocks lost or spoiled since. */
final class Scene {
    static final int BLOCKS = 6;
    static final int PLACES = 8;
    static final int MOST_RECOVERY = 4;

    /** Nothing, one, some, one too many for four recovery blocks, and all: {lost, spoiled}. */
    private static final int[][] BROKEN = {
        {0, 0}, {0b000001, 0}, {0b100000, 0}, {0, 0b000001}, {0, 0b100000}, {0b000010, 0b010000},
        {0b101000, 0b000001}, {0b001001, 0b100100}, {0b010101, 0b101000}, {0b111111, 0},
        {0, 0b111111}, {0b011010, 0b100101}};

    static final List<Scene> ALL = all();

    final int recovery;
    final int lostRecovery;
    final int lost;
    final int spoiled;

    Scene(int recovery, int lostRecovery, int lost, int spoiled) {
        this.recovery = recovery;
        this.lostRecovery = lostRecovery;
        this.lost = lost;
        this.spoiled = spoiled;
    }

    private static List<Scene> all() {
        List<Scene> scenes = new ArrayList<>();
        for (int m = 0; m <= MOST_RECOVERY; m++) {
            for (int[] broken : BROKEN) {
                scenes.add(new Scene(m, 0, broken[0], broken[1]));
                if (m > 0) {
                    scenes.add(new Scene(m, (1 << m) - 1, broken[0], broken[1]));
                }
                if (m > 1) {
                    scenes.add(new Scene(m, 1, broken[0], broken[1]));
                }
            }
        }
        return scenes;
    }

    /** The byte written there: it tells block and place apart, and is never 0. */
    static int mark(int block, int place) {
        return (block * 41 + place * 5 + 7) & 255;
    }

    /** Where, and in which bits, a block is spoiled if it is. */
    static int spoiledPlace(int block) {
        return (block + 3) % PLACES;
    }

    static int spoiledBits(int block) {
        return 1 << block;
    }

    ParityArchive make() {
        ParityArchive x = new ParityArchive();
        for (int b = 0; b < BLOCKS; b++) {
            for (int p = 0; p < PLACES; p++) {
                x.write(b, p, mark(b, p));
            }
        }
        x.protect(recovery);
        for (int r = 0; r < recovery; r++) {
            if ((lostRecovery >> r & 1) != 0) {
                x.loseRecovery(r);
            }
        }
        for (int b = 0; b < BLOCKS; b++) {
            if (state(b) == ParityArchive.LOST) {
                x.lose(b);
            } else if (state(b) == ParityArchive.SPOILED) {
                x.spoil(b, spoiledPlace(b), spoiledBits(b));
            }
        }
        return x;
    }

    int state(int block) {
        if ((lost >> block & 1) != 0) {
            return ParityArchive.LOST;
        }
        return (spoiled >> block & 1) != 0 ? ParityArchive.SPOILED : ParityArchive.GOOD;
    }

    boolean isGood(int block) {
        return state(block) == ParityArchive.GOOD;
    }

    int broken() {
        return Integer.bitCount(lost | spoiled);
    }

    int spare() {
        return recovery - Integer.bitCount(lostRecovery);
    }

    @Override
    public String toString() {
        return recovery + " recovery, lost of these " + bits(lostRecovery)
                + ", data lost " + bits(lost) + ", spoiled " + bits(spoiled);
    }

    private static String bits(int set) {
        List<Integer> numbers = new ArrayList<>();
        for (int i = 0; i < BLOCKS; i++) {
            if ((set >> i & 1) != 0) {
                numbers.add(i);
            }
        }
        return numbers.toString();
    }
}
