/**
 * Every set of broken data blocks with every set of lost recovery blocks: that any good recovery
 * blocks can stand in for any broken data blocks is what the weights have to bring about.
 */
public final class EveryLossTest {
    private static final int BLOCKS = 6;
    private static final int PLACES = 8;

    public static void main(String[] args) {
        for (int m = 0; m <= 4; m++) {
            for (int lostRecovery = 0; lostRecovery < 1 << m; lostRecovery++) {
                for (int broken = 0; broken < 1 << BLOCKS; broken++) {
                    for (int way = 0; way < 4; way++) {
                        breakAndRepair(m, lostRecovery, broken, way);
                    }
                }
            }
        }
        Due.end();
    }

    private static int content(int block, int place, int way) {
        return (block * 73 + place * 29 + way * 101 + block * place * 11 + 5) & 255;
    }

    private static void breakAndRepair(int m, int lostRecovery, int broken, int way) {
        String when = m + " recovery, lost " + lostRecovery + ", broken " + broken + ", way " + way;
        ParityArchive x = new ParityArchive();
        // Protected half-way through the writing, so that both ways of making recovery are used.
        for (int b = 0; b < BLOCKS; b++) {
            if (b == way) {
                Due.due(when + ": protect", x.protect(m), m);
            }
            for (int p = 0; p < PLACES; p++) {
                x.write(b, p, content(b, p, way));
            }
        }
        for (int r = 0; r < m; r++) {
            if ((lostRecovery >> r & 1) != 0) {
                x.loseRecovery(r);
            }
        }
        for (int b = 0; b < BLOCKS; b++) {
            if ((broken >> b & 1) != 0) {
                breakBlock(x, b, way);
            }
        }
        int count = Integer.bitCount(broken);
        int good = m - Integer.bitCount(lostRecovery);
        boolean enough = count <= good;
        Due.due(when + ": spare", x.spare(), good);
        Due.due(when + ": margin", x.margin(), enough ? good - count : ParityArchive.TOO_MANY);
        Due.due(when + ": repair", x.repair(), enough ? count : ParityArchive.TOO_MANY);
        Due.due(when + ": spare after", x.spare(), enough ? m : good);
        for (int b = 0; b < BLOCKS; b++) {
            boolean isGood = enough || (broken >> b & 1) == 0;
            for (int p = 0; p < PLACES; p++) {
                Due.due(when + ": read(" + b + ", " + p + ")", x.read(b, p),
                        isGood ? content(b, p, way) : ParityArchive.NOT_GOOD);
            }
        }
    }

    private static void breakBlock(ParityArchive x, int block, int way) {
        if (((block ^ way) & 1) == 0) {
            x.lose(block);
        } else {
            x.spoil(block, (block + way) & 7, 1 + block * 50);
        }
    }
}
