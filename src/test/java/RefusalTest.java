import java.util.function.IntFunction;
import java.util.function.Predicate;
import java.util.function.ToIntFunction;

/**
 * Each sentence of the document that says when a call is refused: the first value beyond either
 * end, the least and the greatest int and values that a narrower type or a product would wrap; in
 * many states of the archive; and that nothing changes then.
 */
public final class RefusalTest {
    private static final int LEAST = Integer.MIN_VALUE;
    private static final int GREATEST = Integer.MAX_VALUE;
    private static final int[] NO_BLOCKS = beyond(0, 5);
    private static final int[] NO_PLACES = beyond(0, 7);
    private static final int[] NO_BYTES = beyond(0, 255);
    private static final int[] NO_COUNTS = beyond(0, 4);

    private static final Predicate<Scene> ALWAYS = scene -> true;
    private static final Predicate<Scene> SOME_BROKEN = scene -> scene.broken() > 0;
    private static final Predicate<Scene> TOO_MANY_BROKEN = scene -> scene.broken() > scene.spare();

    public static void main(String[] args) {
        writeOfNoBlock();
        writeOfNoPlace();
        writeOfNoByte();
        writeOfBrokenBlock();
        protectByNoCount();
        protectOfBrokenData();
        loseOfNoBlock();
        loseRecoveryOfNoBlock();
        spoilOfNoBlock();
        spoilOfNoPlace();
        spoilOfBrokenBlock();
        repairOfTooMany();
        readOfNoBlock();
        readOfNoPlace();
        readOfBrokenBlock();
        stateOfNoBlock();
        marginOfTooMany();
        Due.end();
    }

    /** Values outside first to last; the last three would come inside if they were wrapped. */
    private static int[] beyond(int first, int last) {
        return new int[] {first - 1, last + 1, LEAST, GREATEST,
            first + (1 << 8), last + (1 << 16), first + (1 << 29)};
    }

    private static void refused(Predicate<Scene> when, String call,
            ToIntFunction<ParityArchive> made, int want) {
        for (Scene scene : Scene.ALL) {
            if (when.test(scene)) {
                Untouched.due(scene, call, made, want);
            }
        }
    }

    private static void refusedEach(int[] values, String call,
            IntFunction<ToIntFunction<ParityArchive>> made, int want) {
        for (int value : values) {
            refused(ALWAYS, call + " of " + value, made.apply(value), want);
        }
    }

    private static Predicate<Scene> broken(int block) {
        return scene -> !scene.isGood(block);
    }

    private static void writeOfNoBlock() {
        Due.sentence("Promise 2", "block not in 0 to 5: BAD_BLOCK");
        refusedEach(NO_BLOCKS, "write(., 0, 1)", b -> x -> x.write(b, 0, 1), ParityArchive.BAD_BLOCK);
        // The sentences are gone through in their order, so the first that fits gives the answer.
        refused(ALWAYS, "write(6, 8, 1)", x -> x.write(6, 8, 1), ParityArchive.BAD_BLOCK);
        refused(ALWAYS, "write(-1, 0, 256)", x -> x.write(-1, 0, 256), ParityArchive.BAD_BLOCK);
        refused(ALWAYS, "write(6, -1, -1)", x -> x.write(6, -1, -1), ParityArchive.BAD_BLOCK);
    }

    private static void writeOfNoPlace() {
        Due.sentence("Promise 2", "place not in 0 to 7: BAD_PLACE");
        refusedEach(NO_PLACES, "write(0, ., 1)", p -> x -> x.write(0, p, 1), ParityArchive.BAD_PLACE);
        refusedEach(NO_PLACES, "write(5, ., 256)", p -> x -> x.write(5, p, 256), ParityArchive.BAD_PLACE);
    }

    private static void writeOfNoByte() {
        Due.sentence("Promise 2", "value not in 0 to 255: BAD_VALUE");
        refusedEach(NO_BYTES, "write(0, 0, .)", v -> x -> x.write(0, 0, v), ParityArchive.BAD_VALUE);
        refusedEach(NO_BYTES, "write(5, 7, .)", v -> x -> x.write(5, 7, v), ParityArchive.BAD_VALUE);
    }

    private static void writeOfBrokenBlock() {
        Due.sentence("Promise 2", "the block is not good: NOT_GOOD");
        for (int block = 0; block < Scene.BLOCKS; block++) {
            int b = block;
            refused(broken(b), "write(" + b + ", 0, 255)", x -> x.write(b, 0, 255), ParityArchive.NOT_GOOD);
            refused(broken(b), "write(" + b + ", 7, 0)", x -> x.write(b, 7, 0), ParityArchive.NOT_GOOD);
        }
    }

    private static void protectByNoCount() {
        Due.sentence("Promise 3", "m not in 0 to 4: BAD_VALUE");
        refusedEach(NO_COUNTS, "protect(.)", m -> x -> x.protect(m), ParityArchive.BAD_VALUE);
    }

    private static void protectOfBrokenData() {
        Due.sentence("Promise 3", "some data block is not good: NOT_GOOD");
        for (int count = 0; count <= Scene.MOST_RECOVERY; count++) {
            int m = count;
            refused(SOME_BROKEN, "protect(" + m + ")", x -> x.protect(m), ParityArchive.NOT_GOOD);
        }
        for (int b = 0; b < Scene.BLOCKS; b++) {
            Scene lost = new Scene(2, 0, 1 << b, 0);
            Untouched.due(lost, "protect(4)", x -> x.protect(4), ParityArchive.NOT_GOOD);
            Scene spoiled = new Scene(2, 0, 0, 1 << b);
            Untouched.due(spoiled, "protect(0)", x -> x.protect(0), ParityArchive.NOT_GOOD);
        }
    }

    private static void loseOfNoBlock() {
        Due.sentence("Promise 4", "block not in 0 to 5: BAD_BLOCK, nothing changes");
        refusedEach(NO_BLOCKS, "lose(.)", b -> x -> x.lose(b), ParityArchive.BAD_BLOCK);
    }

    private static void loseRecoveryOfNoBlock() {
        Due.sentence("Promise 5", "No such recovery block: NO_BLOCK, nothing changes");
        for (int count = 0; count <= Scene.MOST_RECOVERY; count++) {
            int m = count;
            Predicate<Scene> thereAreM = scene -> scene.recovery == m;
            for (int none : beyond(0, m - 1)) {
                refused(thereAreM, "loseRecovery(" + none + ")", x -> x.loseRecovery(none), ParityArchive.NO_BLOCK);
            }
            for (int later = m; later <= Scene.MOST_RECOVERY; later++) {
                int r = later;
                refused(thereAreM, "loseRecovery(" + r + ")", x -> x.loseRecovery(r), ParityArchive.NO_BLOCK);
            }
        }
    }

    private static void spoilOfNoBlock() {
        Due.sentence("Promise 6", "block not in 0 to 5: BAD_BLOCK");
        refusedEach(NO_BLOCKS, "spoil(., 0, 1)", b -> x -> x.spoil(b, 0, 1), ParityArchive.BAD_BLOCK);
        refused(ALWAYS, "spoil(6, 8, 0)", x -> x.spoil(6, 8, 0), ParityArchive.BAD_BLOCK);
        refused(ALWAYS, "spoil(-1, -1, 1)", x -> x.spoil(-1, -1, 1), ParityArchive.BAD_BLOCK);
    }

    private static void spoilOfNoPlace() {
        Due.sentence("Promise 6", "place not in 0 to 7: BAD_PLACE");
        refusedEach(NO_PLACES, "spoil(0, ., 1)", p -> x -> x.spoil(0, p, 1), ParityArchive.BAD_PLACE);
        refusedEach(NO_PLACES, "spoil(5, ., 0)", p -> x -> x.spoil(5, p, 0), ParityArchive.BAD_PLACE);
    }

    private static void spoilOfBrokenBlock() {
        Due.sentence("Promise 6", "the block is not good: NOT_GOOD");
        for (int block = 0; block < Scene.BLOCKS; block++) {
            int b = block;
            refused(broken(b), "spoil(" + b + ", 0, 255)", x -> x.spoil(b, 0, 255), ParityArchive.NOT_GOOD);
            refused(broken(b), "spoil(" + b + ", 7, 0)", x -> x.spoil(b, 7, 0), ParityArchive.NOT_GOOD);
            // The very bits that spoiled it: turning them back does not make it good.
            refused(broken(b), "spoil(" + b + ") back",
                    x -> x.spoil(b, Scene.spoiledPlace(b), Scene.spoiledBits(b)), ParityArchive.NOT_GOOD);
        }
    }

    private static void repairOfTooMany() {
        Due.sentence("Promise 7",
                "If there are more lost and spoiled data blocks than good recovery blocks: TOO_MANY, nothing changes");
        refused(TOO_MANY_BROKEN, "repair()", x -> x.repair(), ParityArchive.TOO_MANY);
        for (int m = 0; m <= Scene.MOST_RECOVERY; m++) {
            for (int lostRecovery = 0; lostRecovery < 1 << m; lostRecovery++) {
                // As few as are too many: one more than there are good recovery blocks.
                int broken = m - Integer.bitCount(lostRecovery) + 1;
                Scene lost = new Scene(m, lostRecovery, (1 << broken) - 1, 0);
                Untouched.due(lost, "repair()", x -> x.repair(), ParityArchive.TOO_MANY);
                Scene spoiled = new Scene(m, lostRecovery, 0, (1 << broken) - 1);
                Untouched.due(spoiled, "repair()", x -> x.repair(), ParityArchive.TOO_MANY);
            }
        }
    }

    private static void readOfNoBlock() {
        Due.sentence("Promise 9", "block not in 0 to 5: BAD_BLOCK");
        refusedEach(NO_BLOCKS, "read(., 0)", b -> x -> x.read(b, 0), ParityArchive.BAD_BLOCK);
        refused(ALWAYS, "read(6, 8)", x -> x.read(6, 8), ParityArchive.BAD_BLOCK);
        refused(ALWAYS, "read(-1, -1)", x -> x.read(-1, -1), ParityArchive.BAD_BLOCK);
    }

    private static void readOfNoPlace() {
        Due.sentence("Promise 9", "place not in 0 to 7: BAD_PLACE");
        refusedEach(NO_PLACES, "read(0, .)", p -> x -> x.read(0, p), ParityArchive.BAD_PLACE);
        refusedEach(NO_PLACES, "read(5, .)", p -> x -> x.read(5, p), ParityArchive.BAD_PLACE);
    }

    private static void readOfBrokenBlock() {
        Due.sentence("Promise 9", "the block is not good: NOT_GOOD");
        for (int block = 0; block < Scene.BLOCKS; block++) {
            int b = block;
            refused(broken(b), "read(" + b + ", 0)", x -> x.read(b, 0), ParityArchive.NOT_GOOD);
            refused(broken(b), "read(" + b + ", 7)", x -> x.read(b, 7), ParityArchive.NOT_GOOD);
            refused(broken(b), "read of " + b + " where it was spoiled",
                    x -> x.read(b, Scene.spoiledPlace(b)), ParityArchive.NOT_GOOD);
        }
    }

    private static void stateOfNoBlock() {
        Due.sentence("Promise 10", "The state of a data block; BAD_BLOCK");
        refusedEach(NO_BLOCKS, "state(.)", b -> x -> x.state(b), ParityArchive.BAD_BLOCK);
    }

    private static void marginOfTooMany() {
        Due.sentence("Promise 12", "TOO_MANY if a repair would fail already");
        refused(TOO_MANY_BROKEN, "margin()", x -> x.margin(), ParityArchive.TOO_MANY);
    }
}
