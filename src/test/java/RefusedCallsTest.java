import java.util.function.ToDoubleFunction;

/**
 * EXCEPTIONS: each line of each throws clause, the one named first where several apply, and that a refused call
 * changes nothing. What a refused call leaves is compared with a twin that was never asked.
 */
public final class RefusedCallsTest {
    private static final String BOUNDS = "IndexOutOfBoundsException";
    private static final String ARGUMENT = "IllegalArgumentException";
    private static final String STATE = "IllegalStateException";
    private static final String ABSENT = "NoSuchElementException";

    /** Numbers of the new image: b 0, b/a 1, b/c 2, b/c/e 3, e 4, and in q b 5, b/e 6. */
    private static final String OLD = "disk 50;partition p 0 10{dir b 1{file a 2 5;}file e 3 6;}partition r 30 5{dir x 1{}}";
    private static final String NEW = "disk 60;partition p 0 12{dir b 1{file a 2 7 attr 3;dir c 4{dir e 5{}}}file e 6 6;}"
        + "partition q 20 5{dir b 1{file e 2 2;}}";

    public static void main(String[] args) {
        texts();
        reports();
        paths();
        rename();
        write();
        setAttributesAndRemove();
        moveBounds();
        moveArguments();
        moveStates();
        identity();
        script();
        replay();
        loadWithError();
        emptyImages();
        Kit.end("RefusedCallsTest");
    }

    /** Something of everything: two images, an error, a path, a cost and a text in the buffer. */
    private static DiskImageDiff prepared() {
        DiskImageDiff x = Kit.differ(OLD, NEW);
        Kit.outcome(() -> Kit.load(x, 0, "disk 9;partition p 9 1{}"));
        x.formatPath(1, 3);
        x.setCost(6, 33);
        Kit.type(x, "disk 77;");
        return x;
    }

    /** All that can be asked of a prepared differ; what changes it comes last. */
    private static String answers(DiskImageDiff x) {
        StringBuilder text = new StringBuilder();
        text.append(x.errorCode()).append(' ').append(x.errorPosition()).append(' ');
        for (int i = 0; i < 8; i++) {
            int index = i;
            text.append(Kit.outcome(() -> x.formatted(index))).append(' ');
        }
        tellImage(text, x, 0);
        tellImage(text, x, 1);
        tellDifferences(text, x);
        for (int kind = 0; kind <= 10; kind++) {
            text.append(x.setCost(kind, 0)).append(' ');
        }
        text.append(Kit.outcome(() -> x.truncate(9))).append(x.truncate(8)).append(x.load(0)).append(x.image(0, 0));
        return text.toString();
    }

    private static void tellImage(StringBuilder text, DiskImageDiff x, int image) {
        for (int what = 0; what <= 6; what++) {
            text.append(x.image(image, what)).append(what == 6 ? " | " : " ");
        }
        for (int i = 0; i < x.image(image, 1); i++) {
            for (int what = 0; what <= 3; what++) {
                text.append(x.partition(image, i, what)).append(' ');
            }
        }
        for (int i = 0; i < x.image(image, 2); i++) {
            for (int what = 0; what <= 7; what++) {
                text.append(x.node(image, i, what)).append(' ');
            }
        }
    }

    private static void tellDifferences(StringBuilder text, DiskImageDiff x) {
        for (int i = 0; i < x.image(0, 2); i++) {
            text.append(x.matchedNode(i)).append(x.passOf(i)).append(' ');
        }
        for (int i = 0; i < x.image(1, 2); i++) {
            text.append(x.readyAfter(i)).append(' ');
        }
        text.append(Kit.script(x)).append(' ').append(Kit.outcome(x::similarity)).append(' ');
        text.append(x.cost()).append(' ').append(x.costBack()).append(' ').append(x.fileCost()).append(' ')
            .append(x.leastFileCost()).append(' ').append(x.present(1)).append(' ').append(x.agreement(1)).append(' ');
    }

    private static void refused(String what, String exception, ToDoubleFunction<DiskImageDiff> call) {
        DiskImageDiff x = prepared();
        Kit.sameText(what, Kit.outcome(() -> call.applyAsDouble(x)), "throws." + exception);
        Kit.sameText("all after " + what, answers(x), answers(prepared()));
        DiskImageDiff y = prepared();
        answers(y);
        Kit.load(y, 0, OLD);
        Kit.sameText(what + ", later on", Kit.outcome(() -> call.applyAsDouble(y)), "throws." + exception);
    }

    private static void texts() {
        for (int length = 781; length <= 800; length++) {
            DiskImageDiff x = new DiskImageDiff();
            Kit.type(x, "disk 66;" + Kit.repeat(" ", length - 8));
            Kit.state("append to " + length, () -> x.append(0x3b3b3b3b, 0x3b3b3b3b, 0x3b3b3b3b, 0x3b3b3b3b, 0x3b3b3b3b));
            int longer = length + 1;
            Kit.bounds("no more bytes after it", () -> x.truncate(longer));
            Kit.same("the text after it", x.load(0), 0);
            Kit.same("its size", x.image(0, 0), 66);
        }
        refused("truncate(-1)", BOUNDS, x -> x.truncate(-1));
        refused("truncate(801)", BOUNDS, x -> x.truncate(801));
        refused("load(-1)", BOUNDS, x -> x.load(-1));
        refused("load(2)", BOUNDS, x -> x.load(2));
        DiskImageDiff x = prepared();
        Kit.bounds("truncate to one more", () -> x.truncate(9));
        Kit.sameText("all after it", answers(x), answers(prepared()));
    }

    private static void reports() {
        for (int image : new int[] {-1, 2}) {
            refused("image of " + image, BOUNDS, x -> x.image(image, 0));
            refused("image of " + image + ", what 7", BOUNDS, x -> x.image(image, 7));
            refused("partition in " + image, BOUNDS, x -> x.partition(image, 0, 0));
            refused("partition in " + image + ", what 4", BOUNDS, x -> x.partition(image, 0, 4));
            refused("node in " + image, BOUNDS, x -> x.node(image, 0, 0));
            refused("node in " + image + ", what -1", BOUNDS, x -> x.node(image, 0, -1));
            refused("byInode in " + image, BOUNDS, x -> x.byInode(image, 0, 1));
            refused("byInode in " + image + " of none", BOUNDS, x -> x.byInode(image, 0, 1000));
        }
        for (int none : new int[] {-1, 7}) {
            refused("image what " + none, ARGUMENT, x -> x.image(1, none));
            refused("partition " + none, BOUNDS, x -> x.partition(1, none, 0));
            refused("partition " + none + ", what 4", BOUNDS, x -> x.partition(1, none, 4));
            refused("partition what " + none, ARGUMENT, x -> x.partition(1, 0, none));
            refused("node " + none, BOUNDS, x -> x.node(1, none, 0));
            refused("node " + none + ", what 8", BOUNDS, x -> x.node(1, none, 8));
            refused("byInode in partition " + none, BOUNDS, x -> x.byInode(1, none, 1));
            refused("byInode of none in partition " + none, BOUNDS, x -> x.byInode(1, none, -1));
            refused("inode " + none, ABSENT, x -> x.byInode(1, 0, none));
        }
        refused("node what 8", ARGUMENT, x -> x.node(1, 0, 8));
        refused("node what -1", ARGUMENT, x -> x.node(1, 0, -1));
        refused("an inode of p in q", ABSENT, x -> x.byInode(1, 1, 4));
    }

    private static void paths() {
        refused("formatPath in -1", BOUNDS, x -> x.formatPath(-1, 0));
        refused("formatPath in 2", BOUNDS, x -> x.formatPath(2, 0));
        refused("formatPath of -1", BOUNDS, x -> x.formatPath(1, -1));
        refused("formatPath of 7", BOUNDS, x -> x.formatPath(1, 7));
        refused("formatted(-1)", BOUNDS, x -> x.formatted(-1));
        refused("formatted(7)", BOUNDS, x -> x.formatted(7));
    }

    private static void rename() {
        for (int image : new int[] {-1, 2}) {
            refused("rename in " + image, BOUNDS, x -> x.rename(image, 0, 1));
            refused("rename in " + image + " to no name", BOUNDS, x -> x.rename(image, 0, 0));
            refused("rename in " + image + " to a name that is there", BOUNDS, x -> x.rename(image, 0, 5));
        }
        for (int node : new int[] {-1, 7}) {
            refused("rename of " + node, BOUNDS, x -> x.rename(1, node, 1));
            refused("rename of " + node + " to no name", BOUNDS, x -> x.rename(1, node, 27));
        }
        for (int name : new int[] {-1, 0, 27, 54, 27 * 27, 387420489}) {
            refused("rename to " + name, ARGUMENT, x -> x.rename(1, 0, name));
        }
        refused("rename of b to e", STATE, x -> x.rename(1, 0, 5));
        refused("rename of e to b", STATE, x -> x.rename(1, 4, 2));
        refused("rename of b/a to c", STATE, x -> x.rename(1, 1, 3));
        refused("rename of the old e to b", STATE, x -> x.rename(0, 2, 2));
    }

    private static void write() {
        for (int content : new int[] {-1, 0, 10000}) {
            refused("write in -1 of " + content, BOUNDS, x -> x.write(-1, 0, content));
            refused("write in 2 of " + content, BOUNDS, x -> x.write(2, 1, content));
            refused("write to -1 of " + content, BOUNDS, x -> x.write(1, -1, content));
            refused("write to 7 of " + content, BOUNDS, x -> x.write(1, 7, content));
        }
        refused("write of -1", ARGUMENT, x -> x.write(1, 1, -1));
        refused("write of 10000", ARGUMENT, x -> x.write(1, 1, 10000));
        refused("write of -1 to a directory", ARGUMENT, x -> x.write(1, 0, -1));
        refused("write of 10000 to a directory", ARGUMENT, x -> x.write(1, 0, 10000));
        refused("write of 0 to a directory", STATE, x -> x.write(1, 0, 0));
        refused("write of 9999 to a directory", STATE, x -> x.write(1, 5, 9999));
    }

    private static void setAttributesAndRemove() {
        for (int attributes : new int[] {-1, 0, 8}) {
            refused("setAttributes in -1", BOUNDS, x -> x.setAttributes(-1, 0, attributes));
            refused("setAttributes in 2", BOUNDS, x -> x.setAttributes(2, 0, attributes));
            refused("setAttributes of -1", BOUNDS, x -> x.setAttributes(1, -1, attributes));
            refused("setAttributes of 7", BOUNDS, x -> x.setAttributes(1, 7, attributes));
        }
        refused("attributes -1", ARGUMENT, x -> x.setAttributes(1, 1, -1));
        refused("attributes 8", ARGUMENT, x -> x.setAttributes(1, 0, 8));
        refused("remove in -1", BOUNDS, x -> x.remove(-1, 0));
        refused("remove in 2", BOUNDS, x -> x.remove(2, 0));
        refused("remove of -1", BOUNDS, x -> x.remove(1, -1));
        refused("remove of 7", BOUNDS, x -> x.remove(1, 7));
    }

    private static void moveBounds() {
        // Whatever else is wrong with the parent: none, a file, another partition's, in the node, one with the name.
        for (int parent : new int[] {-2, -1, 1, 5, 2, 7}) {
            refused("move in -1 to " + parent, BOUNDS, x -> x.move(-1, 0, parent));
            refused("move in 2 to " + parent, BOUNDS, x -> x.move(2, 0, parent));
            refused("move of -1 to " + parent, BOUNDS, x -> x.move(1, -1, parent));
            refused("move of 7 to " + parent, BOUNDS, x -> x.move(1, 7, parent));
        }
        for (int parent : new int[] {-2, 7, Integer.MIN_VALUE, Integer.MAX_VALUE}) {
            for (int node = 0; node < 7; node++) {
                int moved = node;
                refused("move of " + node + " to " + parent, BOUNDS, x -> x.move(1, moved, parent));
            }
        }
    }

    private static void moveArguments() {
        refused("move to a file", ARGUMENT, x -> x.move(1, 2, 1));
        refused("move of a file to itself", ARGUMENT, x -> x.move(1, 1, 1));
        refused("move to a file of another partition", ARGUMENT, x -> x.move(1, 2, 6));
        refused("move to a directory of another partition", ARGUMENT, x -> x.move(1, 1, 5));
        refused("move to another partition, where the name is", ARGUMENT, x -> x.move(1, 4, 5));
        refused("move to another partition, where it is too deep", ARGUMENT, x -> x.move(1, 5, 3));
        refused("move of a directory to itself", ARGUMENT, x -> x.move(1, 0, 0));
        refused("move to a child", ARGUMENT, x -> x.move(1, 0, 2));
        refused("move to a child's child", ARGUMENT, x -> x.move(1, 0, 3));
        refused("move to a file in it", ARGUMENT, x -> x.move(1, 0, 1));
        DiskImageDiff x = prepared();
        x.rename(1, 3, 2);
        x.rename(1, 2, 2);
        Kit.argument("move to a child with a child of the name", () -> x.move(1, 0, 2));
        Kit.argument("move to itself with a child of the name", () -> x.move(1, 0, 0));
        Kit.sameText("paths", Kit.paths(x, 1), "p/b p/b/a p/b/b p/b/b/b p/e q/b q/b/e");
    }

    private static void moveStates() {
        DiskImageDiff x = Kit.differ("disk 1;", "disk 9;partition p 0 1{dir a 1{dir b 2{dir c 3{dir d 4{}file e 5 5;}}}"
            + "dir d 6{dir x 7{}}file e 8 8;}");
        String paths = "p/a p/a/b p/a/b/c p/a/b/c/d p/a/b/c/e p/d p/d/x p/e";
        int[][] moves = {{5, 2}, {7, 2}, {4, -1}, {3, -1}, {0, 6}, {5, 3}};
        for (int[] move : moves) {
            int before = x.cost() * 1000 + x.costBack();
            Kit.state("move of " + move[0] + " to " + move[1], () -> x.move(1, move[0], move[1]));
            Kit.sameText("paths after it", Kit.paths(x, 1), paths);
            Kit.same("depth after it", x.image(1, 5), 4);
            Kit.same("depth of x after it", x.node(1, 6, 6), 2);
            Kit.same("parent of x after it", x.node(1, 6, 4), 5);
            Kit.same("costs after it", x.cost() * 1000 + x.costBack(), before);
        }
        Kit.same("as deep as can be", x.move(1, 0, 5), 2);
        refused("move to the root, where the name is", STATE, y -> y.move(1, 3, -1));
    }

    private static void identity() {
        refused("matchedPartition(-1)", BOUNDS, x -> x.matchedPartition(-1));
        refused("matchedPartition(2)", BOUNDS, x -> x.matchedPartition(2));
        refused("matchedNode(-1)", BOUNDS, x -> x.matchedNode(-1));
        refused("matchedNode(4)", BOUNDS, x -> x.matchedNode(4));
        refused("passOf(-1)", BOUNDS, x -> x.passOf(-1));
        refused("passOf(4)", BOUNDS, x -> x.passOf(4));
        refused("matches(0)", ARGUMENT, x -> x.matches(0));
        refused("matches(6)", ARGUMENT, x -> x.matches(6));
    }

    private static void script() {
        refused("setCost of kind -1", ARGUMENT, x -> x.setCost(-1, 5));
        refused("setCost of kind 11", ARGUMENT, x -> x.setCost(11, 5));
        for (int kind = 0; kind <= 10; kind++) {
            int asked = kind;
            refused("setCost to -1", ARGUMENT, x -> x.setCost(asked, -1));
            refused("setCost to 100", ARGUMENT, x -> x.setCost(asked, 100));
        }
        for (int what : new int[] {-1, 0, 3}) {
            refused("operation -1, what " + what, BOUNDS, x -> x.operation(-1, what));
            refused("operation behind the last, what " + what, BOUNDS, x -> x.operation(x.operations(), what));
        }
        refused("operation what -1", ARGUMENT, x -> x.operation(0, -1));
        refused("operation what 3", ARGUMENT, x -> x.operation(x.operations() - 1, 3));
        refused("operationsOf(-1)", ARGUMENT, x -> x.operationsOf(-1));
        refused("operationsOf(11)", ARGUMENT, x -> x.operationsOf(11));
    }

    private static void replay() {
        refused("present(-1)", BOUNDS, x -> x.present(-1));
        refused("present of one too many", BOUNDS, x -> x.present(x.operations() + 1));
        refused("agreement(-1)", BOUNDS, x -> x.agreement(-1));
        refused("agreement of one too many", BOUNDS, x -> x.agreement(x.operations() + 1));
        refused("readyAfter(-1)", BOUNDS, x -> x.readyAfter(-1));
        refused("readyAfter(7)", BOUNDS, x -> x.readyAfter(7));
    }

    /** A text with an error empties the buffer and sets code and position; all else stays, the image above all. */
    private static void loadWithError() {
        for (int image = 0; image < 2; image++) {
            int asked = image;
            String[] texts = {"|", "disk |0;", "disk 9;partition p 0 1{file a 1 1;}partition q 1 1{file b 1 1;file |b 2 2;}"};
            for (int i = 0; i < texts.length; i++) {
                DiskImageDiff x = prepared();
                x.truncate(0);
                Kit.type(x, texts[i].replace("|", ""));
                Kit.argument("load of " + texts[i], () -> x.load(asked));
                Kit.same("code", x.errorCode(), i + 1);
                Kit.same("position", x.errorPosition(), texts[i].indexOf('|'));
                Kit.bounds("the buffer is empty", () -> x.truncate(1));
                Kit.outcome(() -> Kit.load(x, 0, "disk 9;partition p 9 1{}"));
                Kit.type(x, "disk 77;");
                Kit.sameText("all after load of " + texts[i], answers(x), answers(prepared()));
            }
        }
        DiskImageDiff x = prepared();
        Kit.bounds("a wrong image and a wrong text", () -> {
            x.truncate(5);
            return x.load(2);
        });
        Kit.same("the buffer stays", x.truncate(5), 5);
        Kit.same("the code stays", x.errorCode(), 6);
        Kit.same("the position stays", x.errorPosition(), 21);
    }

    private static void emptyImages() {
        for (String text : new String[] {"disk 1;", "disk 1;partition p 0 1{}"}) {
            DiskImageDiff x = Kit.differ(text, text);
            for (int image = 0; image < 2; image++) {
                int asked = image;
                Kit.bounds("node", () -> x.node(asked, 0, 0));
                Kit.bounds("node what", () -> x.node(asked, 0, 8));
                Kit.bounds("formatPath", () -> x.formatPath(asked, 0));
                Kit.bounds("rename", () -> x.rename(asked, 0, 1));
                Kit.bounds("rename to no name", () -> x.rename(asked, 0, 0));
                Kit.bounds("write", () -> x.write(asked, 0, 1));
                Kit.bounds("write of too much", () -> x.write(asked, 0, 10000));
                Kit.bounds("setAttributes", () -> x.setAttributes(asked, 0, 1));
                Kit.bounds("remove", () -> x.remove(asked, 0));
                Kit.bounds("move", () -> x.move(asked, 0, -1));
                Kit.bounds("move of none to the root", () -> x.move(asked, -1, -1));
            }
            Kit.bounds("matchedNode", () -> x.matchedNode(0));
            Kit.bounds("passOf", () -> x.passOf(0));
            Kit.bounds("readyAfter", () -> x.readyAfter(0));
            Kit.noElement("similarity", x::similarity);
            Kit.bounds("operation", () -> x.operation(0, 0));
            Kit.bounds("present", () -> x.present(1));
            Kit.bounds("agreement", () -> x.agreement(1));
        }
    }
}
