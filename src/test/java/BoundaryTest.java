/**
 * Each sentence of the document that names a boundary case of a call that is not refused: the last
 * value that is taken at either end, nothing there, all there, a wrap-around. RefusalTest has the
 * sentences about refused calls.
 */
public final class BoundaryTest {
    private static final int BLOCKS = Scene.BLOCKS;
    private static final int PLACES = Scene.PLACES;
    private static final int MOST_RECOVERY = Scene.MOST_RECOVERY;
    private static final int ALL_BLOCKS = (1 << BLOCKS) - 1;
    private static final int LAST_CALL = 512;

    public static void main(String[] args) {
        newObjectHoldsZeros();
        newObjectHasNoRecovery();
        writeTakesTheEnds();
        writeAnswersTheByteBefore();
        writeKeepsGoodRecoveryUpToDate();
        writeBesideBrokenBlocks();
        protectTakesTheEnds();
        protectReplacesWhatWasThere();
        protectIsMadeOfWhatTheDataHold();
        loseTakesTheEnds();
        loseWhateverItWasBefore();
        loseOfAll();
        loseRecoveryTakesTheEnds();
        loseRecoveryOfLost();
        spoilTakesTheEnds();
        spoilOfBitsWrapsAround();
        spoilOfNoBitsChangesNothing();
        repairOfAsManyAsMayBe();
        repairOfNothing();
        repairMakesRecoveryGood();
        repairAnswersHowMany();
        whatABlockReallyHolds();
        giveUpOfNothing();
        giveUpOfAll();
        giveUpOfWhatCouldBeRepaired();
        giveUpReallyHoldsZeros();
        giveUpLeavesNoRecovery();
        readTakesTheEnds();
        stateTakesTheEnds();
        spareCountsGoodOnes();
        marginIsTheLastNumberThatSucceeds();
        marginAtMostTheGoodBlocks();
        queriesChangeNothing();
        lastCallAnswers();
        Due.end();
    }

    private static void due(String call, long got, long want) {
        Due.due(call, got, want);
    }

    private static ParityArchive marked(int recovery) {
        return new Scene(recovery, 0, 0, 0).make();
    }

    private static boolean has(int set, int number) {
        return (set >> number & 1) != 0;
    }

    private static void loseEach(ParityArchive x, int blocks) {
        for (int b = 0; b < BLOCKS; b++) {
            if (has(blocks, b)) {
                x.lose(b);
            }
        }
    }

    /** All blocks are good; those of the set hold zeros and the others their marks. */
    private static void dueMarksBut(int zeros, String when, ParityArchive x) {
        for (int b = 0; b < BLOCKS; b++) {
            due(when + ": state(" + b + ")", x.state(b), ParityArchive.GOOD);
            for (int p = 0; p < PLACES; p++) {
                int want = has(zeros, b) ? 0 : Scene.mark(b, p);
                due(when + ": read(" + b + ", " + p + ")", x.read(b, p), want);
            }
        }
    }

    private static void dueMarks(String when, ParityArchive x) {
        dueMarksBut(0, when, x);
    }

    private static void newObjectHoldsZeros() {
        Due.sentence("Promise 1", "All data blocks hold zeros and are good");
        dueMarksBut(ALL_BLOCKS, "new", new ParityArchive());
        ParityArchive x = new ParityArchive();
        x.protect(4);
        loseEach(x, 0b101101);
        due("new, four lost: repair()", x.repair(), 4);
        dueMarksBut(ALL_BLOCKS, "new, repaired", x);
    }

    private static void newObjectHasNoRecovery() {
        Due.sentence("Promise 1", "there are no recovery blocks");
        for (int r = 0; r <= MOST_RECOVERY; r++) {
            due("loseRecovery(" + r + ")", new ParityArchive().loseRecovery(r), ParityArchive.NO_BLOCK);
        }
        ParityArchive x = new ParityArchive();
        due("spare()", x.spare(), 0);
        due("margin()", x.margin(), 0);
        due("repair()", x.repair(), 0);
        due("after repair(): spare()", x.spare(), 0);
        x.lose(0);
        due("after lose(0): margin()", x.margin(), ParityArchive.TOO_MANY);
        due("after lose(0): repair()", x.repair(), ParityArchive.TOO_MANY);
    }

    private static void writeTakesTheEnds() {
        Due.sentence("Promise 2", "Writes a byte of a data block");
        for (int b = 0; b < BLOCKS; b++) {
            for (int p = 0; p < PLACES; p++) {
                for (int value : new int[] {0, 255}) {
                    ParityArchive x = marked(1);
                    String call = "write(" + b + ", " + p + ", " + value + ")";
                    due(call, x.write(b, p, value), Scene.mark(b, p));
                    due(call + ": read", x.read(b, p), value);
                    // Back again: had it written over a neighbour too, that one would show.
                    due(call + " and back", x.write(b, p, Scene.mark(b, p)), value);
                    dueMarks(call, x);
                }
            }
        }
    }

    private static void writeAnswersTheByteBefore() {
        Due.sentence("Promise 2", "Else answers the byte that was there");
        for (int block : new int[] {0, 5}) {
            ParityArchive x = new ParityArchive();
            due("first write of " + block, x.write(block, 7, 255), 0);
            for (int value = 254; value >= 0; value--) {
                due("write of " + value, x.write(block, 7, value), value + 1);
            }
            due("write of 0 on 0", x.write(block, 7, 0), 0);
            due("write of 255 on 0", x.write(block, 7, 255), 0);
            due("write of 255 on 255", x.write(block, 7, 255), 255);
        }
    }

    private static void writeKeepsGoodRecoveryUpToDate() {
        Due.sentence("Terms", "Writing to a good data block keeps all good recovery blocks up to date");
        for (int only = 0; only < MOST_RECOVERY; only++) {
            for (int block = 0; block < BLOCKS; block++) {
                ParityArchive x = new ParityArchive();
                x.protect(4);
                for (int p = 0; p < PLACES; p++) {
                    x.write(block, p, 255);
                    x.write(block, p, Scene.mark(block, p));
                }
                for (int r = 0; r < MOST_RECOVERY; r++) {
                    if (r != only) {
                        x.loseRecovery(r);
                    }
                }
                x.lose(block);
                due("only recovery " + only + " left: repair()", x.repair(), 1);
                dueMarksBut(ALL_BLOCKS ^ 1 << block, "only recovery " + only + " left", x);
            }
        }
    }

    private static void writeBesideBrokenBlocks() {
        Due.sentence("Terms", "Writing to a good data block keeps all good recovery blocks up to date");
        for (int good = 0; good < BLOCKS; good++) {
            int others = ALL_BLOCKS ^ 1 << good ^ 1 << (good + 1) % BLOCKS;
            for (Scene scene : new Scene[] {new Scene(4, 0, others, 0), new Scene(4, 0, 0, others)}) {
                ParityArchive x = scene.make();
                for (int p = 0; p < PLACES; p++) {
                    due("write(" + good + ", " + p + ", 0)", x.write(good, p, 0), Scene.mark(good, p));
                }
                due(scene + ": repair()", x.repair(), 4);
                dueMarksBut(1 << good, scene + ", written to " + good, x);
                x.lose(good);
                due(scene + ": repair() of the written one", x.repair(), 1);
                dueMarksBut(1 << good, scene + ", written to " + good + " and lost it", x);
            }
        }
    }

    private static void protectTakesTheEnds() {
        Due.sentence("Promise 3", "There are m recovery blocks from now on (0 to m - 1), all good");
        for (int m = 0; m <= MOST_RECOVERY; m++) {
            ParityArchive x = marked(0);
            due("protect(" + m + ")", x.protect(m), m);
            due("protect(" + m + "): spare()", x.spare(), m);
            for (int r = 0; r <= MOST_RECOVERY; r++) {
                due("protect(" + m + "): loseRecovery(" + r + ")", x.loseRecovery(r),
                        r < m ? ParityArchive.GOOD : ParityArchive.NO_BLOCK);
            }
            dueMarks("protect(" + m + ")", x);
        }
    }

    private static void protectReplacesWhatWasThere() {
        Due.sentence("Promise 3", "There are m recovery blocks from now on");
        for (int before = 0; before <= MOST_RECOVERY; before++) {
            for (int lost = 0; lost < 1 << before; lost++) {
                for (int m = 0; m <= MOST_RECOVERY; m++) {
                    Scene scene = new Scene(before, lost, 0, 0);
                    String call = scene + ": protect(" + m + ")";
                    ParityArchive x = scene.make();
                    due(call, x.protect(m), m);
                    due(call + ": spare()", x.spare(), m);
                    due(call + ": loseRecovery(m)", x.loseRecovery(m), ParityArchive.NO_BLOCK);
                    loseEach(x, (1 << m) - 1);
                    due(call + ": repair()", x.repair(), m);
                    dueMarks(call, x);
                }
            }
        }
    }

    private static void protectIsMadeOfWhatTheDataHold() {
        Due.sentence("Promise 3", "made of what the data blocks hold");
        for (int m = 1; m <= MOST_RECOVERY; m++) {
            for (int lost = 0; lost <= ALL_BLOCKS; lost++) {
                if (Integer.bitCount(lost) == m) {
                    ParityArchive x = marked(0);
                    x.protect(m);
                    loseEach(x, lost);
                    due("protect(" + m + "): repair() of set " + lost, x.repair(), m);
                    dueMarks("protect(" + m + "), lost set " + lost, x);
                }
            }
        }
    }

    private static void loseTakesTheEnds() {
        Due.sentence("Promise 4", "Else answers its state before");
        for (int b = 0; b < BLOCKS; b++) {
            ParityArchive x = marked(2);
            due("lose(" + b + ")", x.lose(b), ParityArchive.GOOD);
            for (int other = 0; other < BLOCKS; other++) {
                due("lose(" + b + "): state(" + other + ")", x.state(other),
                        other == b ? ParityArchive.LOST : ParityArchive.GOOD);
            }
            due("lose(" + b + "): spare()", x.spare(), 2);
            due("lose(" + b + "): repair()", x.repair(), 1);
            dueMarks("lose(" + b + ")", x);
        }
    }

    private static void loseWhateverItWasBefore() {
        Due.sentence("Promise 4", "A data block is lost (whatever it was before)");
        for (Scene scene : Scene.ALL) {
            for (int b = 0; b < BLOCKS; b++) {
                ParityArchive x = scene.make();
                due(scene + ": lose(" + b + ")", x.lose(b), scene.state(b));
                due(scene + ": lose(" + b + "), state", x.state(b), ParityArchive.LOST);
                due(scene + ": lose(" + b + ") again", x.lose(b), ParityArchive.LOST);
                due(scene + ": lose(" + b + ") again, state", x.state(b), ParityArchive.LOST);
                int broken = scene.broken() + (scene.isGood(b) ? 1 : 0);
                int want = broken <= scene.spare() ? broken : ParityArchive.TOO_MANY;
                due(scene + ": lose(" + b + "), repair()", x.repair(), want);
            }
        }
    }

    private static void loseOfAll() {
        Due.sentence("Promise 4", "A data block is lost");
        ParityArchive x = marked(4);
        for (int b = 0; b < BLOCKS; b++) {
            due("lose(" + b + ")", x.lose(b), ParityArchive.GOOD);
        }
        for (int b = 0; b < BLOCKS; b++) {
            due("all lost: state(" + b + ")", x.state(b), ParityArchive.LOST);
        }
        due("all lost: spare()", x.spare(), 4);
    }

    private static void loseRecoveryTakesTheEnds() {
        Due.sentence("Promise 5", "A recovery block is lost");
        for (int m = 1; m <= MOST_RECOVERY; m++) {
            for (int r = 0; r < m; r++) {
                ParityArchive x = marked(m);
                due(m + " there: loseRecovery(" + r + ")", x.loseRecovery(r), ParityArchive.GOOD);
                due(m + " there: spare()", x.spare(), m - 1);
                for (int other = 0; other < m; other++) {
                    due(m + " there, " + r + " lost: loseRecovery(" + other + ")", x.loseRecovery(other),
                            other == r ? ParityArchive.LOST : ParityArchive.GOOD);
                }
                due(m + " there, all lost: spare()", x.spare(), 0);
                dueMarks(m + " there, all lost", x);
            }
        }
    }

    private static void loseRecoveryOfLost() {
        Due.sentence("Promise 5", "Else answers its state before (GOOD or LOST)");
        for (Scene scene : Scene.ALL) {
            for (int recovery = 0; recovery < scene.recovery; recovery++) {
                int r = recovery;
                if (has(scene.lostRecovery, r)) {
                    Untouched.due(scene, "loseRecovery(" + r + ")", x -> x.loseRecovery(r), ParityArchive.LOST);
                }
            }
        }
    }

    private static void spoilTakesTheEnds() {
        Due.sentence("Promise 6", "Changes a byte of a good data block from outside");
        for (int b = 0; b < BLOCKS; b++) {
            for (int p = 0; p < PLACES; p++) {
                ParityArchive x = marked(1);
                String call = "spoil(" + b + ", " + p + ", 255)";
                due(call, x.spoil(b, p, 255), ParityArchive.SPOILED);
                for (int other = 0; other < BLOCKS; other++) {
                    due(call + ": state(" + other + ")", x.state(other),
                            other == b ? ParityArchive.SPOILED : ParityArchive.GOOD);
                }
                due(call + ": spare()", x.spare(), 1);
                due(call + ": repair()", x.repair(), 1);
                dueMarks(call, x);
            }
        }
    }

    private static void spoilOfBitsWrapsAround() {
        Due.sentence("Promise 6", "its bits given by 'bits' & 255 are turned round");
        int[] above = {0, 256, 1 << 16, -256, Integer.MIN_VALUE, 0x7FFF_FF00};
        for (int high : above) {
            for (int low = 0; low <= 255; low++) {
                int want = low == 0 ? ParityArchive.GOOD : ParityArchive.SPOILED;
                ParityArchive x = marked(1);
                String call = "spoil(5, 7, " + (high | low) + ")";
                due(call, x.spoil(5, 7, high | low), want);
                due(call + ": state(5)", x.state(5), want);
                due(call + ": repair()", x.repair(), low == 0 ? 0 : 1);
                dueMarks(call, x);
            }
        }
    }

    private static void spoilOfNoBitsChangesNothing() {
        Due.sentence("Promise 6", "the block is spoiled then, unless these bits are 0");
        for (Scene scene : Scene.ALL) {
            for (int block = 0; block < BLOCKS; block++) {
                int b = block;
                if (scene.isGood(b)) {
                    Untouched.due(scene, "spoil(" + b + ", 0, 0)", x -> x.spoil(b, 0, 0), ParityArchive.GOOD);
                    Untouched.due(scene, "spoil(" + b + ", 7, 256)", x -> x.spoil(b, 7, 256), ParityArchive.GOOD);
                    Untouched.due(scene, "spoil(" + b + ", 7, least)",
                            x -> x.spoil(b, 7, Integer.MIN_VALUE), ParityArchive.GOOD);
                }
            }
        }
    }

    /** As many lost (or spoiled) data blocks as there are good recovery blocks, the last number. */
    private static void repairOfAsManyAsMayBe() {
        Due.sentence("Promise 7", "afterwards all data blocks are good and hold what they really hold");
        for (int m = 0; m <= MOST_RECOVERY; m++) {
            for (int lostRecovery = 0; lostRecovery < 1 << m; lostRecovery++) {
                int good = m - Integer.bitCount(lostRecovery);
                for (int broken = 0; broken <= ALL_BLOCKS; broken++) {
                    if (Integer.bitCount(broken) == good) {
                        dueRepaired(new Scene(m, lostRecovery, broken, 0));
                        dueRepaired(new Scene(m, lostRecovery, 0, broken));
                        dueRepaired(new Scene(m, lostRecovery, broken & 0b010101, broken & 0b101010));
                    }
                }
            }
        }
    }

    private static void dueRepaired(Scene scene) {
        ParityArchive x = scene.make();
        due(scene + ": repair()", x.repair(), scene.broken());
        dueMarks(scene + ", repaired", x);
        due(scene + ", repaired: spare()", x.spare(), scene.recovery);
    }

    private static void repairOfNothing() {
        Due.sentence("Promise 7", "Works every lost or spoiled data block out again");
        for (int m = 0; m <= MOST_RECOVERY; m++) {
            Scene allGood = new Scene(m, 0, 0, 0);
            Untouched.due(allGood, "repair()", x -> x.repair(), 0);
        }
    }

    private static void repairMakesRecoveryGood() {
        Due.sentence("Promise 7", "and all existing recovery blocks are good");
        for (int m = 0; m <= MOST_RECOVERY; m++) {
            for (int lostRecovery = 0; lostRecovery < 1 << m; lostRecovery++) {
                ParityArchive x = new Scene(m, lostRecovery, 0, 0).make();
                String when = m + " recovery, set " + lostRecovery + " lost";
                // Written while some are lost: these must be made anew, not only called good.
                x.write(0, 0, 99);
                due(when + ": repair()", x.repair(), 0);
                due(when + ", repaired: spare()", x.spare(), m);
                due(when + ", repaired: loseRecovery(m)", x.loseRecovery(m), ParityArchive.NO_BLOCK);
                loseEach(x, (1 << m) - 1);
                due(when + ", repaired, as many lost: repair()", x.repair(), m);
                due(when + ", repaired twice: read(0, 0)", x.read(0, 0), 99);
                x.write(0, 0, Scene.mark(0, 0));
                dueMarks(when + ", repaired twice", x);
            }
        }
    }

    private static void repairAnswersHowMany() {
        Due.sentence("Promise 7", "Else answers how many data blocks were repaired");
        for (int broken = 0; broken <= MOST_RECOVERY; broken++) {
            ParityArchive x = new Scene(4, 0, (1 << broken) - 1, 0).make();
            due(broken + " lost: repair()", x.repair(), broken);
            due(broken + " lost: repair() again", x.repair(), 0);
            x = new Scene(4, 0, 0, (1 << broken) - 1).make();
            due(broken + " spoiled: repair()", x.repair(), broken);
            due(broken + " spoiled: repair() again", x.repair(), 0);
        }
    }

    private static void whatABlockReallyHolds() {
        Due.sentence("Terms", "What a data block REALLY holds is what was last written to it while it was good");
        for (int b = 0; b < BLOCKS; b++) {
            ParityArchive x = marked(1);
            x.write(b, 0, 255);
            x.write(b, 0, Scene.mark(b, 0));
            x.spoil(b, 0, 255);
            x.write(b, 0, 1);
            x.lose(b);
            x.write(b, 7, 2);
            x.spoil(b, 7, 255);
            due("block " + b + ": repair()", x.repair(), 1);
            dueMarks("block " + b, x);
        }
    }

    private static void giveUpOfNothing() {
        Due.sentence("Promise 8", "Answers how many data blocks that were");
        for (int m = 0; m <= MOST_RECOVERY; m++) {
            ParityArchive x = marked(m);
            due(m + " recovery: giveUp()", x.giveUp(), 0);
            dueMarks(m + " recovery, given up", x);
            due(m + " recovery, given up: spare()", x.spare(), 0);
        }
    }

    private static void giveUpOfAll() {
        Due.sentence("Promise 8", "Answers how many data blocks that were");
        for (Scene scene : new Scene[] {new Scene(4, 0, ALL_BLOCKS, 0), new Scene(4, 0, 0, ALL_BLOCKS)}) {
            ParityArchive x = scene.make();
            due(scene + ": giveUp()", x.giveUp(), 6);
            dueMarksBut(ALL_BLOCKS, scene + ", given up", x);
            due(scene + ": giveUp() again", x.giveUp(), 0);
        }
    }

    private static void giveUpOfWhatCouldBeRepaired() {
        Due.sentence("Promise 8", "every lost or spoiled data block holds zeros from now on and is good");
        for (Scene scene : Scene.ALL) {
            ParityArchive x = scene.make();
            due(scene + ": giveUp()", x.giveUp(), scene.broken());
            dueMarksBut(scene.lost | scene.spoiled, scene + ", given up", x);
        }
    }

    private static void giveUpReallyHoldsZeros() {
        Due.sentence("Promise 8", "(it really holds zeros)");
        for (Scene scene : Scene.ALL) {
            ParityArchive x = scene.make();
            x.giveUp();
            x.protect(4);
            loseEach(x, 0b110110);
            due(scene + ", given up, four lost: repair()", x.repair(), 4);
            dueMarksBut(scene.lost | scene.spoiled, scene + ", given up, repaired", x);
        }
    }

    private static void giveUpLeavesNoRecovery() {
        Due.sentence("Promise 8", "and there are no recovery blocks any more");
        for (Scene scene : Scene.ALL) {
            ParityArchive x = scene.make();
            x.giveUp();
            due(scene + ", given up: spare()", x.spare(), 0);
            due(scene + ", given up: margin()", x.margin(), 0);
            for (int r = 0; r <= MOST_RECOVERY; r++) {
                due(scene + ", given up: loseRecovery(" + r + ")", x.loseRecovery(r), ParityArchive.NO_BLOCK);
            }
            due(scene + ", given up: repair()", x.repair(), 0);
            due(scene + ", given up, repair(): spare()", x.spare(), 0);
            x.lose(5);
            due(scene + ", given up, lose(5): repair()", x.repair(), ParityArchive.TOO_MANY);
        }
    }

    private static void readTakesTheEnds() {
        Due.sentence("Promise 9", "The byte of a good data block");
        ParityArchive x = marked(0);
        dueMarks("read", x);
        for (int b : new int[] {0, 5}) {
            for (int p : new int[] {0, 7}) {
                for (int value : new int[] {0, 255}) {
                    x.write(b, p, value);
                    due("read(" + b + ", " + p + ")", x.read(b, p), value);
                }
            }
        }
        for (Scene scene : Scene.ALL) {
            for (int b = 0; b < BLOCKS; b++) {
                int want = scene.isGood(b) ? Scene.mark(b, 7) : ParityArchive.NOT_GOOD;
                due(scene + ": read(" + b + ", 7)", scene.make().read(b, 7), want);
            }
        }
    }

    private static void stateTakesTheEnds() {
        Due.sentence("Promise 10", "The state of a data block");
        for (Scene scene : Scene.ALL) {
            for (int b = 0; b < BLOCKS; b++) {
                due(scene + ": state(" + b + ")", scene.make().state(b), scene.state(b));
            }
        }
    }

    private static void spareCountsGoodOnes() {
        Due.sentence("Promise 11", "How many existing recovery blocks are good");
        for (int m = 0; m <= MOST_RECOVERY; m++) {
            for (int lostRecovery = 0; lostRecovery < 1 << m; lostRecovery++) {
                for (int lost : new int[] {0, 0b100001, ALL_BLOCKS}) {
                    Scene scene = new Scene(m, lostRecovery, lost, 0);
                    due(scene + ": spare()", scene.make().spare(), scene.spare());
                }
            }
        }
    }

    /** Tried out: any so many more can be lost and repaired, and one more can't. */
    private static void marginIsTheLastNumberThatSucceeds() {
        Due.sentence("Promise 12", "could be lost so that a repair would still succeed, whichever they are");
        for (Scene scene : Scene.ALL) {
            if (scene.broken() > scene.spare()) {
                continue;
            }
            int margin = scene.make().margin();
            due(scene + ": margin()", margin, scene.spare() - scene.broken());
            int good = ALL_BLOCKS & ~(scene.lost | scene.spoiled);
            for (int more = 0; more <= ALL_BLOCKS; more++) {
                if ((more & ~good) == 0) {
                    ParityArchive x = scene.make();
                    loseEach(x, more);
                    boolean succeeds = x.repair() != ParityArchive.TOO_MANY;
                    due(scene + ": a repair after losing set " + more, succeeds ? 1 : 0,
                            Integer.bitCount(more) <= margin ? 1 : 0);
                }
            }
        }
    }

    private static void marginAtMostTheGoodBlocks() {
        Due.sentence("Promise 12", "(At most the number of good data blocks.)");
        for (Scene scene : Scene.ALL) {
            int good = BLOCKS - scene.broken();
            due(scene + ": margin() is at most " + good, scene.make().margin() <= good ? 1 : 0, 1);
        }
    }

    private static void queriesChangeNothing() {
        Due.sentence("Terms", "The calls below change nothing");
        for (Scene scene : Scene.ALL) {
            Untouched.due(scene, "spare()", x -> x.spare(), scene.spare());
            int left = scene.spare() - scene.broken();
            Untouched.due(scene, "margin()", x -> x.margin(), left < 0 ? ParityArchive.TOO_MANY : left);
            for (int block = 0; block < BLOCKS; block++) {
                int b = block;
                Untouched.due(scene, "state(" + b + ")", x -> x.state(b), scene.state(b));
                int want = scene.isGood(b) ? Scene.mark(b, 7) : ParityArchive.NOT_GOOD;
                Untouched.due(scene, "read(" + b + ", 7)", x -> x.read(b, 7), want);
            }
        }
    }

    /** A run whose 512th call is a read of a byte that a repair late in the run brought back. */
    private static void lastCallAnswers() {
        Due.sentence("What it is", "An object is used for at most 512 calls after it has been made");
        ParityArchive x = new ParityArchive();
        due("call 1", x.protect(4), 4);
        int byteBefore = 0;
        for (int call = 2; call <= LAST_CALL - 6; call++) {
            int value = call * 37 & 255;
            due("call " + call, x.write(5, 7, value), byteBefore);
            byteBefore = value;
        }
        due("call 507", x.lose(5), ParityArchive.GOOD);
        due("call 508", x.spoil(0, 0, 255), ParityArchive.SPOILED);
        due("call 509", x.margin(), 2);
        due("call 510", x.repair(), 2);
        due("call 511", x.read(0, 0), 0);
        due("call 512", x.read(5, 7), byteBefore);
    }
}
