/** Promises 13 to 18: changing images. */
public final class ChangesTest {
    private static final String TREE = "disk 9;"
        + "partition p 0 4{file a 1 11;dir b 2{dir c 3{file d 4 14;}file e 5 15;}dir f 6{file d 7 17;}}"
        + "partition q 4 4{file a 1 21;dir g 8{}}";

    public static void main(String[] args) {
        rename();
        write();
        setAttributes();
        remove();
        move();
        moveKeepsRows();
        moveRefused();
        moveDepth();
        swap();
        Kit.end("ChangesTest");
    }

    private static DiskImageDiff tree() {
        DiskImageDiff x = Kit.differ("disk 1;", TREE);
        Kit.sameText("tree", Kit.paths(x, 1), "p/a p/b p/b/c p/b/c/d p/b/e p/f p/f/d q/a q/g");
        return x;
    }

    private static void rename() {
        DiskImageDiff x = tree();
        Kit.same("rename", x.rename(1, 2, Kit.code("zzzzzz")), 3);
        Kit.same("rename again", x.rename(1, 2, 3), 387420488);
        Kit.same("rename to its own name", x.rename(1, 0, 1), 1);
        Kit.same("rename to a name of another parent", x.rename(1, 0, 4), 1);
        Kit.same("rename to a name of another partition's root", x.rename(1, 1, Kit.code("g")), 2);
        Kit.sameText("paths after", Kit.paths(x, 1), "p/d p/g p/g/c p/g/c/d p/g/e p/f p/f/d q/a q/g");
        Kit.bounds("image 2", () -> x.rename(2, 0, 1));
        Kit.bounds("node 9", () -> x.rename(1, 9, 1));
        Kit.bounds("node -1", () -> x.rename(1, -1, 1));
        Kit.bounds("node and name", () -> x.rename(1, 9, 0));
        int[] noNames = {0, -1, 27, 54, 27 * 27, 27 * 27 + 5, 387420489, 387420490, Integer.MAX_VALUE,
            Integer.MIN_VALUE, 14348907};
        for (int name : noNames) {
            Kit.argument("rename to " + name, () -> x.rename(1, 0, name));
        }
        int[] names = {26, 28, 14348907 + 551881, 387420488};
        int previous = 1;
        for (int name : names) {
            Kit.same("rename to " + name, x.rename(1, 7, name), previous);
            Kit.same("renamed to " + name, x.node(1, 7, 0), name);
            previous = name;
        }
        Kit.state("another child has it", () -> x.rename(1, 0, 6));
        Kit.state("another child has it", () -> x.rename(1, 2, 5));
        Kit.sameText("paths after exceptions", Kit.paths(x, 1), "p/d p/g p/g/c p/g/c/d p/g/e p/f p/f/d q/zzzzzz q/g");
    }

    private static void write() {
        DiskImageDiff x = tree();
        Kit.same("write", x.write(1, 3, 9999), 14);
        Kit.same("write again", x.write(1, 3, 0), 9999);
        Kit.same("content", x.node(1, 3, 2), 0);
        Kit.same("others stay", x.node(1, 4, 2), 15);
        Kit.bounds("image 2", () -> x.write(2, 0, 1));
        Kit.bounds("node 9", () -> x.write(1, 9, 1));
        Kit.bounds("node -1", () -> x.write(1, -1, -1));
        Kit.argument("content -1", () -> x.write(1, 3, -1));
        Kit.argument("content 10000", () -> x.write(1, 3, 10000));
        Kit.argument("content of a directory", () -> x.write(1, 1, 10000));
        Kit.state("a directory", () -> x.write(1, 1, 5));
        Kit.same("a directory stays one", x.node(1, 1, 2), -1);
        Kit.same("content stays", x.node(1, 3, 2), 0);
    }

    private static void setAttributes() {
        DiskImageDiff x = tree();
        Kit.same("of a file", x.setAttributes(1, 3, 7), 0);
        Kit.same("of a directory", x.setAttributes(1, 1, 3), 0);
        Kit.same("again", x.setAttributes(1, 3, 0), 7);
        Kit.same("attributes", x.node(1, 1, 3), 3);
        Kit.bounds("image -1", () -> x.setAttributes(-1, 0, 1));
        Kit.bounds("node 9", () -> x.setAttributes(1, 9, 8));
        Kit.bounds("node -1", () -> x.setAttributes(1, -1, 1));
        Kit.argument("attributes 8", () -> x.setAttributes(1, 1, 8));
        Kit.argument("attributes -1", () -> x.setAttributes(1, 1, -1));
        Kit.same("attributes stay", x.node(1, 1, 3), 3);
    }

    private static void remove() {
        DiskImageDiff x = tree();
        Kit.bounds("image 2", () -> x.remove(2, 0));
        Kit.bounds("node 9", () -> x.remove(1, 9));
        Kit.bounds("node -1", () -> x.remove(1, -1));
        Kit.bounds("an empty image", () -> x.remove(0, 0));
        Kit.same("remove a file", x.remove(1, 0), 1);
        Kit.sameText("paths", Kit.paths(x, 1), "p/b p/b/c p/b/c/d p/b/e p/f p/f/d q/a q/g");
        Kit.same("remove a tree", x.remove(1, 1), 2);
        Kit.sameText("paths", Kit.paths(x, 1), "p/b p/b/e p/f p/f/d q/a q/g");
        Kit.same("parent", x.node(1, 3, 4), 2);
        Kit.same("inode", x.node(1, 3, 1), 7);
        Kit.same("content", x.node(1, 3, 2), 17);
        Kit.same("remove the last one of a partition", x.remove(1, 2), 2);
        Kit.same("remove the last one", x.remove(1, 3), 1);
        Kit.same("remove a whole partition's nodes", x.remove(1, 0), 2);
        Kit.sameText("paths", Kit.paths(x, 1), "q/a");
        Kit.same("partition", x.node(1, 0, 5), 1);
        Kit.same("nodes of p", x.partition(1, 0, 3), 0);
        Kit.same("remove all", x.remove(1, 0), 1);
        Kit.same("none left", x.image(1, 2), 0);
        Kit.same("partitions stay", x.image(1, 1), 2);
    }

    private static void moved(int node, int parent, int number, String paths) {
        DiskImageDiff x = tree();
        Kit.same("move " + node + " to " + parent, x.move(1, node, parent), number);
        Kit.sameText("after move " + node + " to " + parent, Kit.paths(x, 1), paths);
    }

    private static void move() {
        moved(0, 1, 4, "p/b p/b/c p/b/c/d p/b/e p/b/a p/f p/f/d q/a q/g");
        moved(0, 2, 3, "p/b p/b/c p/b/c/d p/b/c/a p/b/e p/f p/f/d q/a q/g");
        moved(0, 5, 6, "p/b p/b/c p/b/c/d p/b/e p/f p/f/d p/f/a q/a q/g");
        moved(0, -1, 6, "p/b p/b/c p/b/c/d p/b/e p/f p/f/d p/a q/a q/g");
        moved(1, 5, 3, "p/a p/f p/f/d p/f/b p/f/b/c p/f/b/c/d p/f/b/e q/a q/g");
        moved(1, -1, 3, "p/a p/f p/f/d p/b p/b/c p/b/c/d p/b/e q/a q/g");
        moved(2, -1, 5, "p/a p/b p/b/e p/f p/f/d p/c p/c/d q/a q/g");
        moved(2, 1, 3, "p/a p/b p/b/e p/b/c p/b/c/d p/f p/f/d q/a q/g");
        moved(2, 5, 5, "p/a p/b p/b/e p/f p/f/d p/f/c p/f/c/d q/a q/g");
        moved(3, 1, 4, "p/a p/b p/b/c p/b/e p/b/d p/f p/f/d q/a q/g");
        moved(3, 2, 3, "p/a p/b p/b/c p/b/c/d p/b/e p/f p/f/d q/a q/g");
        moved(4, 2, 4, "p/a p/b p/b/c p/b/c/d p/b/c/e p/f p/f/d q/a q/g");
        moved(5, 2, 4, "p/a p/b p/b/c p/b/c/d p/b/c/f p/b/c/f/d p/b/e q/a q/g");
        moved(5, -1, 5, "p/a p/b p/b/c p/b/c/d p/b/e p/f p/f/d q/a q/g");
        moved(6, 1, 5, "p/a p/b p/b/c p/b/c/d p/b/e p/b/d p/f q/a q/g");
        moved(6, -1, 6, "p/a p/b p/b/c p/b/c/d p/b/e p/f p/d q/a q/g");
        moved(7, 8, 8, "p/a p/b p/b/c p/b/c/d p/b/e p/f p/f/d q/g q/g/a");
        moved(7, -1, 8, "p/a p/b p/b/c p/b/c/d p/b/e p/f p/f/d q/g q/a");
    }

    private static void moveKeepsRows() {
        DiskImageDiff x = tree();
        x.setAttributes(1, 3, 6);
        Kit.same("move b into f", x.move(1, 1, 5), 3);
        int[][] due = {
            {1, 1, 11, 0, -1, 0, 1, 0},
            {6, 6, -1, 0, -1, 0, 1, 5},
            {4, 7, 17, 0, 1, 0, 2, 0},
            {2, 2, -1, 0, 1, 0, 2, 3},
            {3, 3, -1, 0, 3, 0, 3, 1},
            {4, 4, 14, 6, 4, 0, 4, 0},
            {5, 5, 15, 0, 3, 0, 3, 0},
            {1, 1, 21, 0, -1, 1, 1, 0},
            {7, 8, -1, 0, -1, 1, 1, 0},
        };
        for (int n = 0; n < due.length; n++) {
            for (int what = 0; what < 8; what++) {
                Kit.same("moved node " + n + " " + what, x.node(1, n, what), due[n][what]);
            }
        }
        Kit.same("depth", x.image(1, 5), 4);
    }

    private static void moveRefused() {
        DiskImageDiff x = tree();
        Kit.bounds("image 2", () -> x.move(2, 0, 1));
        Kit.bounds("node 9", () -> x.move(1, 9, 1));
        Kit.bounds("node -1", () -> x.move(1, -1, -1));
        Kit.bounds("parent 9", () -> x.move(1, 0, 9));
        Kit.bounds("parent -2", () -> x.move(1, 0, -2));
        Kit.argument("a file as parent", () -> x.move(1, 1, 0));
        Kit.argument("the file itself", () -> x.move(1, 0, 0));
        Kit.argument("another partition", () -> x.move(1, 0, 8));
        Kit.argument("another partition's file", () -> x.move(1, 0, 7));
        Kit.argument("the node itself", () -> x.move(1, 1, 1));
        Kit.argument("a node in it", () -> x.move(1, 1, 2));
        Kit.argument("a file in it", () -> x.move(1, 1, 4));
        Kit.state("another child has the name", () -> x.move(1, 3, 5));
        x.rename(1, 3, 1);
        Kit.state("another child of the root has the name", () -> x.move(1, 3, -1));
        Kit.sameText("nothing changed", Kit.paths(x, 1), "p/a p/b p/b/c p/b/c/a p/b/e p/f p/f/d q/a q/g");
    }

    private static void moveDepth() {
        DiskImageDiff x = Kit.differ("disk 1;", "disk 9;partition p 0 4{dir a 1{dir b 2{dir c 3{dir d 4{}}}}"
            + "dir e 5{dir f 6{file g 7 7;}}file h 8 8;}");
        Kit.state("two levels too deep", () -> x.move(1, 4, 3));
        Kit.state("one level too deep", () -> x.move(1, 4, 2));
        Kit.state("a parent's tree too deep", () -> x.move(1, 0, 5));
        Kit.same("as deep as can be", x.move(1, 4, 1), 4);
        Kit.sameText("paths", Kit.paths(x, 1), "p/a p/a/b p/a/b/c p/a/b/c/d p/a/b/e p/a/b/e/f p/a/b/e/f/g p/h");
        Kit.same("a file to depth 5", x.move(1, 7, 3), 4);
        Kit.same("its depth", x.node(1, 4, 6), 5);
    }

    private static void swap() {
        DiskImageDiff x = Kit.differ("disk 2;partition p 0 1{file f 1 1;}", TREE);
        int costThere = x.cost();
        int costBack = x.costBack();
        x.swap();
        Kit.same("old size", x.image(0, 0), 9);
        Kit.same("new size", x.image(1, 0), 2);
        Kit.sameText("old paths", Kit.paths(x, 0), "p/a p/b p/b/c p/b/c/d p/b/e p/f p/f/d q/a q/g");
        Kit.sameText("new paths", Kit.paths(x, 1), "p/f");
        Kit.same("cost", x.cost(), costBack);
        Kit.same("costBack", x.costBack(), costThere);
        x.rename(1, 0, 2);
        x.swap();
        Kit.sameText("paths", Kit.paths(x, 0), "p/b");
        DiskImageDiff empty = new DiskImageDiff();
        empty.swap();
        Kit.same("swap of empty images", empty.image(0, 0), 1);
    }
}
