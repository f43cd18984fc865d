/** Each promise of the document by itself: ordinary inputs, the named edges, wrong inputs. */
public final class PromiseTest {
    private static final int BLOCKS = 6;
    private static final int PLACES = 8;
    private static final int[] NO_BLOCKS = {-1, 6, 7, 100, Integer.MIN_VALUE, Integer.MAX_VALUE};
    private static final int[] NO_PLACES = {-1, 8, 9, 100, Integer.MIN_VALUE, Integer.MAX_VALUE};

    public static void main(String[] args) {
        promise1NewObject();
        promise2Write();
        promise2WriteRefuses();
        promise2WriteKeepsRecoveryUpToDate();
        promise3Protect();
        promise3ProtectRefuses();
        promise4Lose();
        promise5LoseRecovery();
        promise6Spoil();
        promise6SpoilRefuses();
        promise7Repair();
        promise7RepairRefuses();
        promise7RepairMakesRecoveryGood();
        promise8GiveUp();
        promise9Read();
        promise10State();
        promise11Spare();
        promise12Margin();
        queriesChangeNothing();
        Due.end();
    }

    private static void due(String call, long got, long want) {
        Due.due(call, got, want);
    }

    /** A byte that tells its block and place, and is never 0. */
    private static int mark(int block, int place) {
        return (block * 41 + place * 5 + 7) & 255;
    }

    private static ParityArchive marked() {
        ParityArchive x = new ParityArchive();
        for (int b = 0; b < BLOCKS; b++) {
            for (int p = 0; p < PLACES; p++) {
                x.write(b, p, mark(b, p));
            }
        }
        return x;
    }

    private static ParityArchive markedWith(int recoveryBlocks) {
        ParityArchive x = marked();
        due("protect(" + recoveryBlocks + ")", x.protect(recoveryBlocks), recoveryBlocks);
        return x;
    }

    private static void dueMarks(String when, ParityArchive x) {
        for (int b = 0; b < BLOCKS; b++) {
            dueMarksOf(when, x, b);
        }
    }

    private static void dueMarksOf(String when, ParityArchive x, int b) {
        due(when + ": state(" + b + ")", x.state(b), ParityArchive.GOOD);
        for (int p = 0; p < PLACES; p++) {
            due(when + ": read(" + b + ", " + p + ")", x.read(b, p), mark(b, p));
        }
    }

    private static void promise1NewObject() {
        ParityArchive x = new ParityArchive();
        for (int b = 0; b < BLOCKS; b++) {
            due("new: state(" + b + ")", x.state(b), ParityArchive.GOOD);
            for (int p = 0; p < PLACES; p++) {
                due("new: read(" + b + ", " + p + ")", x.read(b, p), 0);
            }
        }
        due("new: spare()", x.spare(), 0);
        due("new: margin()", x.margin(), 0);
        due("new: loseRecovery(0)", x.loseRecovery(0), ParityArchive.NO_BLOCK);
        due("new: repair()", x.repair(), 0);
        due("new: giveUp()", x.giveUp(), 0);
        ParityArchive other = new ParityArchive();
        x.write(0, 0, 9);
        due("another object: read(0, 0)", other.read(0, 0), 0);
    }

    private static void promise2Write() {
        ParityArchive x = new ParityArchive();
        for (int b = 0; b < BLOCKS; b++) {
            for (int p = 0; p < PLACES; p++) {
                due("first write", x.write(b, p, mark(b, p)), 0);
            }
        }
        dueMarks("after the first writes", x);
        due("write(5, 7, 255)", x.write(5, 7, 255), mark(5, 7));
        due("write(5, 7, 0)", x.write(5, 7, 0), 255);
        due("write(5, 7, 0) again", x.write(5, 7, 0), 0);
        due("write(5, 7, mark)", x.write(5, 7, mark(5, 7)), 0);
        dueMarks("after all writes", x);
    }

    private static void promise2WriteRefuses() {
        ParityArchive x = markedWith(1);
        for (int bad : NO_BLOCKS) {
            due("write(" + bad + ", 0, 1)", x.write(bad, 0, 1), ParityArchive.BAD_BLOCK);
            due("write(" + bad + ", -1, -1)", x.write(bad, -1, -1), ParityArchive.BAD_BLOCK);
        }
        for (int bad : NO_PLACES) {
            due("write(0, " + bad + ", 1)", x.write(0, bad, 1), ParityArchive.BAD_PLACE);
            due("write(0, " + bad + ", 256)", x.write(0, bad, 256), ParityArchive.BAD_PLACE);
        }
        for (int bad : new int[] {-1, 256, 257, Integer.MIN_VALUE, Integer.MAX_VALUE}) {
            due("write(0, 0, " + bad + ")", x.write(0, 0, bad), ParityArchive.BAD_VALUE);
        }
        dueMarks("after refused writes", x);
        x.lose(2);
        due("lost: write(2, 0, 1)", x.write(2, 0, 1), ParityArchive.NOT_GOOD);
        due("lost: write(2, 8, 1)", x.write(2, 8, 1), ParityArchive.BAD_PLACE);
        due("lost: write(2, 0, 256)", x.write(2, 0, 256), ParityArchive.BAD_VALUE);
        due("lost, refused: state(2)", x.state(2), ParityArchive.LOST);
        due("lost, refused: repair()", x.repair(), 1);
        dueMarks("after a repair of the lost block", x);
        x.spoil(3, 4, 16);
        due("spoiled: write(3, 4, 1)", x.write(3, 4, 1), ParityArchive.NOT_GOOD);
        due("spoiled: write(3, 4, -1)", x.write(3, 4, -1), ParityArchive.BAD_VALUE);
        due("spoiled, refused: state(3)", x.state(3), ParityArchive.SPOILED);
        due("spoiled, refused: repair()", x.repair(), 1);
        dueMarks("after a repair of the spoiled block", x);
    }

    private static void promise2WriteKeepsRecoveryUpToDate() {
        ParityArchive x = new ParityArchive();
        x.protect(4);
        x.lose(0);
        x.spoil(1, 1, 1);
        x.loseRecovery(0);
        for (int b = 2; b < BLOCKS; b++) {
            for (int p = 0; p < PLACES; p++) {
                x.write(b, p, mark(b, p));
            }
        }
        due("written beside broken blocks: repair()", x.repair(), 2);
        for (int p = 0; p < PLACES; p++) {
            due("read(0, " + p + ")", x.read(0, p), 0);
            due("read(1, " + p + ")", x.read(1, p), 0);
        }
        for (int b = 2; b < BLOCKS; b++) {
            x.lose(b);
        }
        due("the written blocks lost: repair()", x.repair(), 4);
        for (int b = 2; b < BLOCKS; b++) {
            dueMarksOf("written beside broken blocks", x, b);
        }
    }

    private static void promise3Protect() {
        ParityArchive x = marked();
        for (int m : new int[] {0, 4, 1, 3, 2, 0, 2}) {
            due("protect(" + m + ")", x.protect(m), m);
            due("protect(" + m + "): spare()", x.spare(), m);
            due("protect(" + m + "): loseRecovery(m)", x.loseRecovery(m), ParityArchive.NO_BLOCK);
            for (int r = 0; r < m; r++) {
                due("protect(" + m + "): loseRecovery(" + r + ")", x.loseRecovery(r), ParityArchive.GOOD);
            }
            due("protect(" + m + "), all lost: spare()", x.spare(), 0);
            due("protect(" + m + ") again", x.protect(m), m);
            due("protect(" + m + ") again: spare()", x.spare(), m);
            for (int b = 0; b < m; b++) {
                x.lose(b);
            }
            due("protect(" + m + "): repair()", x.repair(), m);
            dueMarks("protect(" + m + ")", x);
        }
    }

    private static void promise3ProtectRefuses() {
        ParityArchive x = markedWith(2);
        for (int bad : new int[] {-1, 5, 6, Integer.MIN_VALUE, Integer.MAX_VALUE}) {
            due("protect(" + bad + ")", x.protect(bad), ParityArchive.BAD_VALUE);
        }
        due("refused: spare()", x.spare(), 2);
        x.loseRecovery(0);
        x.spoil(5, 0, 128);
        for (int m = 0; m <= 4; m++) {
            due("spoiled: protect(" + m + ")", x.protect(m), ParityArchive.NOT_GOOD);
        }
        due("spoiled: protect(5)", x.protect(5), ParityArchive.BAD_VALUE);
        due("spoiled: protect(-1)", x.protect(-1), ParityArchive.BAD_VALUE);
        due("spoiled, refused: spare()", x.spare(), 1);
        x.lose(5);
        due("lost: protect(0)", x.protect(0), ParityArchive.NOT_GOOD);
        due("lost: protect(4)", x.protect(4), ParityArchive.NOT_GOOD);
        due("lost, refused: spare()", x.spare(), 1);
        due("lost, refused: loseRecovery(2)", x.loseRecovery(2), ParityArchive.NO_BLOCK);
        due("lost, refused: repair()", x.repair(), 1);
        dueMarks("after refused protects", x);
    }

    private static void promise4Lose() {
        for (int b = 0; b < BLOCKS; b++) {
            ParityArchive x = markedWith(1);
            due("lose(" + b + ")", x.lose(b), ParityArchive.GOOD);
            due("lose(" + b + "): state", x.state(b), ParityArchive.LOST);
            due("lose(" + b + ") again", x.lose(b), ParityArchive.LOST);
            due("lose(" + b + ") again: state", x.state(b), ParityArchive.LOST);
            due("lose(" + b + "): margin()", x.margin(), 0);
            due("lose(" + b + "): repair()", x.repair(), 1);
            x.spoil(b, 3, 8);
            due("spoiled: lose(" + b + ")", x.lose(b), ParityArchive.SPOILED);
            due("spoiled: lose(" + b + "): state", x.state(b), ParityArchive.LOST);
            due("spoiled: lose(" + b + "): repair()", x.repair(), 1);
            dueMarks("lose(" + b + ")", x);
        }
        ParityArchive x = markedWith(1);
        for (int bad : NO_BLOCKS) {
            due("lose(" + bad + ")", x.lose(bad), ParityArchive.BAD_BLOCK);
        }
        due("refused: spare()", x.spare(), 1);
        dueMarks("after refused loses", x);
    }

    private static void promise5LoseRecovery() {
        ParityArchive x = markedWith(3);
        for (int bad : new int[] {-1, 3, 4, 5, Integer.MIN_VALUE, Integer.MAX_VALUE}) {
            due("loseRecovery(" + bad + ")", x.loseRecovery(bad), ParityArchive.NO_BLOCK);
        }
        due("refused: spare()", x.spare(), 3);
        due("loseRecovery(1)", x.loseRecovery(1), ParityArchive.GOOD);
        due("loseRecovery(1) again", x.loseRecovery(1), ParityArchive.LOST);
        due("one lost: spare()", x.spare(), 2);
        due("loseRecovery(2)", x.loseRecovery(2), ParityArchive.GOOD);
        due("loseRecovery(0)", x.loseRecovery(0), ParityArchive.GOOD);
        due("loseRecovery(0) again", x.loseRecovery(0), ParityArchive.LOST);
        due("all lost: spare()", x.spare(), 0);
        dueMarks("after losing recovery blocks", x);
        x.protect(1);
        due("protect(1): loseRecovery(1)", x.loseRecovery(1), ParityArchive.NO_BLOCK);
        due("protect(1): loseRecovery(0)", x.loseRecovery(0), ParityArchive.GOOD);
        x.protect(4);
        due("protect(4): loseRecovery(3)", x.loseRecovery(3), ParityArchive.GOOD);
        due("protect(4): loseRecovery(4)", x.loseRecovery(4), ParityArchive.NO_BLOCK);
    }

    private static void promise6Spoil() {
        for (int bits : new int[] {1, 128, 255, -1, 257, Integer.MAX_VALUE, -255, 0x7F00_0010}) {
            for (int b = 0; b < BLOCKS; b++) {
                ParityArchive x = markedWith(1);
                due("spoil(" + b + ", 7, " + bits + ")", x.spoil(b, 7, bits), ParityArchive.SPOILED);
                due("spoil: state", x.state(b), ParityArchive.SPOILED);
                due("spoil: read(" + b + ", 0)", x.read(b, 0), ParityArchive.NOT_GOOD);
                due("spoil: repair()", x.repair(), 1);
                dueMarks("spoil(" + b + ", 7, " + bits + ")", x);
            }
        }
        ParityArchive x = markedWith(1);
        for (int bits : new int[] {0, 256, 512, -256, Integer.MIN_VALUE, 0x7FFF_FF00}) {
            due("spoil(2, 0, " + bits + ")", x.spoil(2, 0, bits), ParityArchive.GOOD);
        }
        dueMarks("after spoiling no bits", x);
    }

    private static void promise6SpoilRefuses() {
        ParityArchive x = markedWith(2);
        for (int bad : NO_BLOCKS) {
            due("spoil(" + bad + ", 0, 1)", x.spoil(bad, 0, 1), ParityArchive.BAD_BLOCK);
            due("spoil(" + bad + ", -1, 1)", x.spoil(bad, -1, 1), ParityArchive.BAD_BLOCK);
        }
        for (int bad : NO_PLACES) {
            due("spoil(0, " + bad + ", 1)", x.spoil(0, bad, 1), ParityArchive.BAD_PLACE);
            due("spoil(0, " + bad + ", 0)", x.spoil(0, bad, 0), ParityArchive.BAD_PLACE);
        }
        dueMarks("after refused spoils", x);
        x.lose(1);
        x.spoil(4, 4, 4);
        for (int bits : new int[] {0, 4, 256}) {
            due("lost: spoil(1, 0, " + bits + ")", x.spoil(1, 0, bits), ParityArchive.NOT_GOOD);
            due("spoiled: spoil(4, 4, " + bits + ")", x.spoil(4, 4, bits), ParityArchive.NOT_GOOD);
        }
        due("lost: spoil(1, 8, 1)", x.spoil(1, 8, 1), ParityArchive.BAD_PLACE);
        due("spoiled: spoil(4, -1, 1)", x.spoil(4, -1, 1), ParityArchive.BAD_PLACE);
        due("refused: state(1)", x.state(1), ParityArchive.LOST);
        due("refused: state(4)", x.state(4), ParityArchive.SPOILED);
        due("refused: repair()", x.repair(), 2);
        dueMarks("after refused spoils of broken blocks", x);
    }

    private static void promise7Repair() {
        ParityArchive x = markedWith(4);
        due("nothing broken: repair()", x.repair(), 0);
        x.lose(0);
        x.spoil(2, 0, 255);
        x.lose(3);
        x.spoil(5, 7, 1);
        due("four broken: repair()", x.repair(), 4);
        dueMarks("four broken", x);
        due("repaired: repair()", x.repair(), 0);
        due("repaired: write(3, 3, 200)", x.write(3, 3, 200), mark(3, 3));
        x.lose(3);
        due("written and lost: repair()", x.repair(), 1);
        due("written and lost: read(3, 3)", x.read(3, 3), 200);
    }

    private static void promise7RepairRefuses() {
        ParityArchive x = markedWith(2);
        x.lose(0);
        x.spoil(1, 1, 1);
        x.lose(2);
        due("three broken, two good: repair()", x.repair(), ParityArchive.TOO_MANY);
        due("refused: state(0)", x.state(0), ParityArchive.LOST);
        due("refused: state(1)", x.state(1), ParityArchive.SPOILED);
        due("refused: state(2)", x.state(2), ParityArchive.LOST);
        due("refused: spare()", x.spare(), 2);
        x = markedWith(2);
        x.lose(4);
        x.spoil(5, 0, 1);
        x.loseRecovery(1);
        due("two broken, one good: repair()", x.repair(), ParityArchive.TOO_MANY);
        due("refused: spare()", x.spare(), 1);
        due("refused: loseRecovery(1)", x.loseRecovery(1), ParityArchive.LOST);
        due("refused: read(3, 3)", x.read(3, 3), mark(3, 3));
        x = marked();
        x.lose(0);
        due("one broken, none there: repair()", x.repair(), ParityArchive.TOO_MANY);
    }

    private static void promise7RepairMakesRecoveryGood() {
        ParityArchive x = markedWith(3);
        for (int r = 0; r < 3; r++) {
            x.loseRecovery(r);
        }
        x.write(1, 1, 77);
        due("recovery lost, nothing broken: repair()", x.repair(), 0);
        due("recovery made again: spare()", x.spare(), 3);
        for (int b = 1; b < 4; b++) {
            x.lose(b);
        }
        due("recovery made again: repair()", x.repair(), 3);
        due("recovery made again: read(1, 1)", x.read(1, 1), 77);
        x.write(1, 1, mark(1, 1));
        x.loseRecovery(0);
        x.loseRecovery(2);
        x.spoil(5, 5, 5);
        due("one good recovery block: repair()", x.repair(), 1);
        due("one good recovery block: spare()", x.spare(), 3);
        dueMarks("one good recovery block", x);
    }

    private static void promise8GiveUp() {
        ParityArchive x = markedWith(4);
        x.lose(1);
        x.spoil(4, 2, 3);
        due("giveUp()", x.giveUp(), 2);
        for (int b = 0; b < BLOCKS; b++) {
            due("given up: state(" + b + ")", x.state(b), ParityArchive.GOOD);
            for (int p = 0; p < PLACES; p++) {
                int want = b == 1 || b == 4 ? 0 : mark(b, p);
                due("given up: read(" + b + ", " + p + ")", x.read(b, p), want);
            }
        }
        due("given up: spare()", x.spare(), 0);
        due("given up: loseRecovery(0)", x.loseRecovery(0), ParityArchive.NO_BLOCK);
        due("given up: repair()", x.repair(), 0);
        due("given up: spare() after repair()", x.spare(), 0);
        due("given up: write(4, 2, 9)", x.write(4, 2, 9), 0);
        due("given up: protect(2)", x.protect(2), 2);
        x.lose(1);
        x.lose(4);
        due("given up, lost: repair()", x.repair(), 2);
        due("given up: read(1, 0)", x.read(1, 0), 0);
        due("given up: read(4, 2)", x.read(4, 2), 9);
        due("nothing broken: giveUp()", x.giveUp(), 0);
        due("nothing broken: spare()", x.spare(), 0);
        x.lose(0);
        due("nothing left: repair()", x.repair(), ParityArchive.TOO_MANY);
        for (int b = 0; b < BLOCKS; b++) {
            x.lose(b);
        }
        due("all lost: giveUp()", x.giveUp(), 6);
        due("all lost: read(3, 3)", x.read(3, 3), 0);
    }

    private static void promise9Read() {
        ParityArchive x = marked();
        dueMarks("read", x);
        for (int bad : NO_BLOCKS) {
            due("read(" + bad + ", 0)", x.read(bad, 0), ParityArchive.BAD_BLOCK);
            due("read(" + bad + ", 8)", x.read(bad, 8), ParityArchive.BAD_BLOCK);
        }
        x.lose(0);
        x.spoil(5, 0, 1);
        for (int b = 0; b < BLOCKS; b++) {
            for (int bad : NO_PLACES) {
                due("read(" + b + ", " + bad + ")", x.read(b, bad), ParityArchive.BAD_PLACE);
            }
        }
        for (int p = 0; p < PLACES; p++) {
            due("lost: read(0, " + p + ")", x.read(0, p), ParityArchive.NOT_GOOD);
            due("spoiled: read(5, " + p + ")", x.read(5, p), ParityArchive.NOT_GOOD);
            due("good: read(3, " + p + ")", x.read(3, p), mark(3, p));
        }
    }

    private static void promise10State() {
        ParityArchive x = new ParityArchive();
        x.lose(0);
        x.spoil(3, 0, 1);
        due("state(0)", x.state(0), ParityArchive.LOST);
        due("state(1)", x.state(1), ParityArchive.GOOD);
        due("state(3)", x.state(3), ParityArchive.SPOILED);
        due("state(5)", x.state(5), ParityArchive.GOOD);
        for (int bad : NO_BLOCKS) {
            due("state(" + bad + ")", x.state(bad), ParityArchive.BAD_BLOCK);
        }
    }

    private static void promise11Spare() {
        ParityArchive x = markedWith(4);
        for (int r = 0; r < 4; r++) {
            due("spare()", x.spare(), 4 - r);
            x.lose(r);
            due("a data block lost: spare()", x.spare(), 4 - r);
            x.loseRecovery(r);
        }
        due("all lost: spare()", x.spare(), 0);
        x.giveUp();
        due("given up: spare()", x.spare(), 0);
        x.protect(3);
        due("protect(3): spare()", x.spare(), 3);
        x.protect(0);
        due("protect(0): spare()", x.spare(), 0);
    }

    private static void promise12Margin() {
        for (int m = 0; m <= 4; m++) {
            ParityArchive x = markedWith(m);
            for (int b = 0; b < BLOCKS; b++) {
                due(m + " recovery, " + b + " broken: margin()", x.margin(),
                        b <= m ? m - b : ParityArchive.TOO_MANY);
                if (b % 2 == 0) {
                    x.lose(b);
                } else {
                    x.spoil(b, b, 1);
                }
            }
            due(m + " recovery, all broken: margin()", x.margin(), ParityArchive.TOO_MANY);
        }
        ParityArchive x = markedWith(3);
        x.loseRecovery(1);
        due("two good: margin()", x.margin(), 2);
        x.lose(5);
        due("two good, one broken: margin()", x.margin(), 1);
        x.loseRecovery(0);
        due("one good, one broken: margin()", x.margin(), 0);
        x.loseRecovery(2);
        due("none good, one broken: margin()", x.margin(), ParityArchive.TOO_MANY);
    }

    private static void queriesChangeNothing() {
        ParityArchive x = markedWith(3);
        x.lose(0);
        x.spoil(1, 2, 3);
        x.loseRecovery(2);
        for (int round = 0; round < 3; round++) {
            due("asked again: read(0, 0)", x.read(0, 0), ParityArchive.NOT_GOOD);
            due("asked again: read(9, 9)", x.read(9, 9), ParityArchive.BAD_BLOCK);
            due("asked again: read(4, 4)", x.read(4, 4), mark(4, 4));
            due("asked again: state(0)", x.state(0), ParityArchive.LOST);
            due("asked again: state(1)", x.state(1), ParityArchive.SPOILED);
            due("asked again: spare()", x.spare(), 2);
            due("asked again: margin()", x.margin(), 0);
        }
        due("asked: repair()", x.repair(), 2);
        dueMarks("asked", x);
    }
}
