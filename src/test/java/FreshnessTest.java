import java.util.ArrayList;
import java.util.List;
import java.util.function.Consumer;
import java.util.function.Function;

/** "All results refer to the present images and costs": each question as the first one after each change. */
public final class FreshnessTest {
    private static final String OLD = "disk 50;partition p 0 10{dir b 1{file a 2 5;}file e 3 6;}partition r 30 5{dir x 1{}}";
    private static final String NEW = "disk 60;partition p 0 12{dir b 1{file a 2 7;dir c 4{}}file e 6 6;}"
        + "partition q 20 5{file g 1 4;}";

    private record Change(String name, Consumer<DiskImageDiff> call) {
    }

    private record Question(String name, Function<DiskImageDiff, String> call) {
    }

    private static final List<Change> CHANGES = List.of(
        new Change("load(0)", x -> Kit.load(x, 0, "disk 60;partition q 20 5{file g 1 4;file a 2 5;}partition t 30 5{}")),
        new Change("load(1)", x -> Kit.load(x, 1, "disk 50;partition r 30 5{dir x 1{file a 2 5;}}")),
        new Change("rename in 0", x -> x.rename(0, 1, 7)),
        new Change("rename in 1", x -> x.rename(1, 0, 7)),
        new Change("write in 0", x -> x.write(0, 1, 7)),
        new Change("write in 1", x -> x.write(1, 3, 7)),
        new Change("setAttributes in 0", x -> x.setAttributes(0, 2, 7)),
        new Change("setAttributes in 1", x -> x.setAttributes(1, 0, 7)),
        new Change("remove in 0", x -> x.remove(0, 0)),
        new Change("remove in 1", x -> x.remove(1, 3)),
        new Change("move in 0", x -> x.move(0, 2, 0)),
        new Change("move in 1", x -> x.move(1, 2, -1)),
        new Change("swap", DiskImageDiff::swap),
        new Change("setCost", FreshnessTest::setCosts));

    private static final List<Question> QUESTIONS = List.of(
        new Question("image", x -> rows(2, image -> rows(7, what -> x.image(image, what)))),
        new Question("partition", x -> rows(2, image -> rows(3, i -> rows(4, what -> x.partition(image, i, what))))),
        new Question("node", x -> rows(2, image -> rows(6, i -> rows(8, what -> x.node(image, i, what))))),
        new Question("byInode", x -> rows(2, image -> rows(3, i -> rows(8, inode -> x.byInode(image, i, inode))))),
        new Question("formatPath", x -> rows(2, image -> rows(6, i -> Kit.path(x, image, i)))),
        new Question("matchedPartition", x -> rows(3, x::matchedPartition)),
        new Question("matchedNode", x -> rows(6, x::matchedNode)),
        new Question("passOf", x -> rows(6, x::passOf)),
        new Question("matches", x -> rows(6, x::matches)),
        new Question("similarity", x -> rows(1, i -> x.similarity())),
        new Question("operations", x -> rows(1, i -> x.operations())),
        new Question("operation", x -> rows(15, i -> rows(3, what -> x.operation(i, what)))),
        new Question("operationsOf", x -> rows(11, x::operationsOf)),
        new Question("cost", x -> rows(1, i -> x.cost())),
        new Question("costBack", x -> rows(1, i -> x.costBack())),
        new Question("present", x -> rows(15, x::present)),
        new Question("agreement", x -> rows(15, x::agreement)),
        new Question("readyAfter", x -> rows(6, x::readyAfter)),
        new Question("leastFileCost", x -> rows(1, i -> x.leastFileCost())),
        new Question("fileCost", x -> rows(1, i -> x.fileCost())));

    public static void main(String[] args) {
        for (Question question : QUESTIONS) {
            int other = 0;
            for (Change change : CHANGES) {
                other += firstAfter(change, question) ? 1 : 0;
            }
            Kit.sameText(question.name + " was answered otherwise after some changes", String.valueOf(other > 1), "true");
            lastThenFirst(question);
        }
        twoObjects();
        Kit.end("FreshnessTest");
    }

    private static void setCosts(DiskImageDiff x) {
        for (int kind = 0; kind <= 10; kind++) {
            x.setCost(kind, 11 + kind);
        }
    }

    private static String rows(int count, Function<Integer, Object> call) {
        List<String> rows = new ArrayList<>();
        for (int i = 0; i < count; i++) {
            try {
                rows.add(String.valueOf(call.apply(i)));
            } catch (RuntimeException e) {
                rows.add(e.getClass().getSimpleName());
            }
        }
        return rows.toString();
    }

    /** Asks before and after a change; the due answer is that of an object that was asked for its script first. */
    private static boolean firstAfter(Change change, Question question) {
        DiskImageDiff x = Kit.differ(OLD, NEW);
        x.operations();
        String before = question.call.apply(x);
        change.call.accept(x);
        String after = question.call.apply(x);
        DiskImageDiff twin = Kit.differ(OLD, NEW);
        change.call.accept(twin);
        twin.operations();
        Kit.sameText(question.name + " after " + change.name, after, question.call.apply(twin));
        return !after.equals(before);
    }

    /** The changes one after another, each with the question behind it. */
    private static void lastThenFirst(Question question) {
        DiskImageDiff x = Kit.differ(OLD, NEW);
        DiskImageDiff twin = Kit.differ(OLD, NEW);
        for (int i = CHANGES.size() - 1; i >= 0; i--) {
            int number = i;
            String due = Kit.outcome(() -> answerless(CHANGES.get(number), twin));
            Kit.sameText(CHANGES.get(i).name, Kit.outcome(() -> answerless(CHANGES.get(number), x)), due);
            twin.operations();
            twin.leastFileCost();
            Kit.sameText(question.name + " after all changes from " + CHANGES.get(i).name + " on", question.call.apply(x),
                question.call.apply(twin));
        }
    }

    private static double answerless(Change change, DiskImageDiff x) {
        change.call.accept(x);
        return 0;
    }

    /** What one object is asked or told is nothing to another one. */
    private static void twoObjects() {
        for (Question question : QUESTIONS) {
            DiskImageDiff x = Kit.differ(OLD, NEW);
            String due = question.call.apply(x);
            DiskImageDiff other = Kit.differ(NEW, OLD);
            setCosts(other);
            other.remove(0, 0);
            question.call.apply(other);
            Kit.sameText(question.name + " beside another object", question.call.apply(x), due);
            Kit.sameText(question.name + " asked again", question.call.apply(x), due);
        }
    }
}
