import java.util.ArrayList;
import java.util.HashMap;
import java.util.List;
import java.util.Map;
import java.util.function.ToIntFunction;

/**
 * Whether a call changes nothing. What an archive holds can't be seen whole: the bytes of a broken
 * block and those of the recovery blocks show only in later repairs. So two archives with the same
 * past, of which only one got the call, are used up in many ways, and must answer alike.
 */
final class Untouched {
    private static final int REPAIR_WAYS = 1 << Scene.MOST_RECOVERY;
    private static final int WAYS = REPAIR_WAYS + 2;
    private static final int NOT_CALLED = -100;

    private static final Map<Scene, List<List<Integer>>> WITHOUT_THE_CALL = new HashMap<>();

    private Untouched() {
    }

    /** After the scene, the call answers what is due and changes nothing. */
    static void due(Scene scene, String call, ToIntFunction<ParityArchive> made, int want) {
        String at = scene + ": " + call;
        List<List<Integer>> without =
                WITHOUT_THE_CALL.computeIfAbsent(scene, Untouched::useUpInAllWays);
        for (int way = 0; way < WAYS; way++) {
            ParityArchive x = scene.make();
            Due.due(at, made.applyAsInt(x), want);
            Due.due(at + " changed something (way " + way + "), and then",
                    useUp(scene, x, way), without.get(way));
        }
    }

    private static List<List<Integer>> useUpInAllWays(Scene scene) {
        List<List<Integer>> answers = new ArrayList<>();
        for (int way = 0; way < WAYS; way++) {
            answers.add(useUp(scene, scene.make(), way));
        }
        return answers;
    }

    /** The last two ways give up; the others lose a set of recovery blocks and rely on the rest. */
    private static List<Integer> useUp(Scene scene, ParityArchive x, int way) {
        List<Integer> answers = new ArrayList<>();
        if (way < REPAIR_WAYS) {
            loseRecovery(x, way, answers);
            loseWhileRepairable(scene, x, way, answers);
            answers.add(x.repair());
        } else {
            look(x, way, answers);
            answers.add(x.giveUp());
        }
        look(x, way, answers);
        return answers;
    }

    private static void loseRecovery(ParityArchive x, int way, List<Integer> answers) {
        for (int r = 0; r < Scene.MOST_RECOVERY; r++) {
            answers.add((way >> r & 1) != 0 ? x.loseRecovery(r) : NOT_CALLED);
        }
    }

    /**
     * So that the bytes of every recovery block that is left count in the repair. How many that
     * are is told by the scene and not asked of the archive, as a question that changes something
     * would change it in both archives.
     */
    private static void loseWhileRepairable(Scene scene, ParityArchive x, int way, List<Integer> answers) {
        int there = (1 << scene.recovery) - 1;
        int more = Integer.bitCount(there & ~scene.lostRecovery & ~way) - scene.broken();
        for (int i = 0; i < Scene.BLOCKS; i++) {
            int block = (way + i) % Scene.BLOCKS;
            if (more > 0 && scene.isGood(block)) {
                answers.add(x.lose(block));
                more--;
            }
        }
    }

    /** In either order, lest a question hide what the ones after it would tell. */
    private static void look(ParityArchive x, int way, List<Integer> answers) {
        if (way % 2 == 0) {
            readAll(x, answers);
            count(x, answers);
        } else {
            count(x, answers);
            readAll(x, answers);
        }
    }

    private static void readAll(ParityArchive x, List<Integer> answers) {
        for (int b = 0; b < Scene.BLOCKS; b++) {
            for (int p = 0; p < Scene.PLACES; p++) {
                answers.add(x.read(b, p));
            }
        }
    }

    private static void count(ParityArchive x, List<Integer> answers) {
        for (int b = 0; b < Scene.BLOCKS; b++) {
            answers.add(x.state(b));
        }
        answers.add(x.spare());
        answers.add(x.margin());
    }
}
