/** Promises 7 to 12: reports on images, partitions and nodes, nodes by inode, and paths. */
public final class ImagesTest {
    private static final String TREE = "disk 500;"
        + "partition boot 100 50{file a 7 70 attr 5;dir b 3 attr 2{file a 8 80;dir c 9{file zz 0 0;}}dir e 4{}}"
        + "partition empty 0 100{}"
        + "partition zzzzzz 400 100{dir abcdef 3{file f 999 9999;}}";

    public static void main(String[] args) {
        image();
        partition();
        node();
        byInode();
        paths();
        Kit.end("ImagesTest");
    }

    private static DiskImageDiff tree() {
        return Kit.differ("disk 3;", TREE);
    }

    private static void image() {
        DiskImageDiff x = tree();
        int[] due = {500, 3, 8, 4, 4, 3, 250};
        int[] other = {3, 0, 0, 0, 0, 0, 3};
        for (int what = 0; what < 7; what++) {
            Kit.same("image(1, " + what + ")", x.image(1, what), due[what]);
            Kit.same("image(0, " + what + ")", x.image(0, what), other[what]);
        }
        Kit.bounds("image(2, 0)", () -> x.image(2, 0));
        Kit.bounds("image(-1, 0)", () -> x.image(-1, 0));
        Kit.argument("image(0, 7)", () -> x.image(0, 7));
        Kit.argument("image(1, -1)", () -> x.image(1, -1));
        Kit.bounds("image(2, 7)", () -> x.image(2, 7));
        Kit.load(x, 0, "disk 5;partition p 0 5{dir d 1{}}");
        Kit.same("no free sectors", x.image(0, 6), 0);
    }

    private static void partition() {
        DiskImageDiff x = tree();
        int[][] due = {{Kit.code("boot"), 100, 50, 6}, {Kit.code("empty"), 0, 100, 0}, {387420488, 400, 100, 2}};
        for (int p = 0; p < 3; p++) {
            for (int what = 0; what < 4; what++) {
                Kit.same("partition " + p + " " + what, x.partition(1, p, what), due[p][what]);
            }
        }
        Kit.bounds("partition of image 2", () -> x.partition(2, 0, 0));
        Kit.bounds("partition of image -1", () -> x.partition(-1, 0, 0));
        Kit.bounds("partition 3", () -> x.partition(1, 3, 0));
        Kit.bounds("partition -1", () -> x.partition(1, -1, 0));
        Kit.bounds("partition of an empty image", () -> x.partition(0, 0, 0));
        Kit.argument("partition what 4", () -> x.partition(1, 0, 4));
        Kit.argument("partition what -1", () -> x.partition(1, 0, -1));
        Kit.bounds("both wrong", () -> x.partition(1, 3, 4));
    }

    private static void node() {
        DiskImageDiff x = tree();
        int[][] due = {
            {1, 7, 70, 5, -1, 0, 1, 0},
            {2, 3, -1, 2, -1, 0, 1, 3},
            {1, 8, 80, 0, 1, 0, 2, 0},
            {3, 9, -1, 0, 1, 0, 2, 1},
            {26 * 28, 0, 0, 0, 3, 0, 3, 0},
            {5, 4, -1, 0, -1, 0, 1, 0},
            {Kit.code("abcdef"), 3, -1, 0, -1, 2, 1, 1},
            {6, 999, 9999, 0, 6, 2, 2, 0},
        };
        for (int n = 0; n < due.length; n++) {
            for (int what = 0; what < 8; what++) {
                Kit.same("node " + n + " " + what, x.node(1, n, what), due[n][what]);
            }
        }
        Kit.bounds("node of image 2", () -> x.node(2, 0, 0));
        Kit.bounds("node of image -1", () -> x.node(-1, 0, 0));
        Kit.bounds("node 8", () -> x.node(1, 8, 0));
        Kit.bounds("node -1", () -> x.node(1, -1, 0));
        Kit.bounds("node of an empty image", () -> x.node(0, 0, 0));
        Kit.argument("node what 8", () -> x.node(1, 0, 8));
        Kit.argument("node what -1", () -> x.node(1, 0, -1));
        Kit.bounds("both wrong", () -> x.node(1, 8, 8));
        Kit.load(x, 0, "disk 9;partition p 0 4{dir d 1{}}partition q 4 4{dir a 1{}dir b 2{file c 3 3;}}");
        Kit.same("an empty directory at a partition's end", x.node(0, 0, 7), 0);
        Kit.same("the next partition's first", x.node(0, 1, 7), 0);
        Kit.same("the last directory", x.node(0, 2, 7), 1);
    }

    private static void byInode() {
        DiskImageDiff x = tree();
        Kit.same("byInode 3 of boot", x.byInode(1, 0, 3), 1);
        Kit.same("byInode 0 of boot", x.byInode(1, 0, 0), 4);
        Kit.same("byInode 3 of zzzzzz", x.byInode(1, 2, 3), 6);
        Kit.same("byInode 999", x.byInode(1, 2, 999), 7);
        Kit.noElement("an inode of another partition", () -> x.byInode(1, 2, 9));
        Kit.noElement("an empty partition", () -> x.byInode(1, 1, 3));
        Kit.noElement("inode -1", () -> x.byInode(1, 0, -1));
        Kit.noElement("inode 1000", () -> x.byInode(1, 0, 1000));
        Kit.bounds("no such partition", () -> x.byInode(1, 3, 3));
        Kit.bounds("partition -1", () -> x.byInode(1, -1, 3));
        Kit.bounds("no such image", () -> x.byInode(2, 0, 3));
        Kit.bounds("image -1", () -> x.byInode(-1, 0, 5000));
    }

    private static void paths() {
        DiskImageDiff x = tree();
        Kit.sameText("paths", Kit.paths(x, 1), "boot/a boot/b boot/b/a boot/b/c boot/b/c/zz boot/e "
            + "zzzzzz/abcdef zzzzzz/abcdef/f");
        Kit.same("length", x.formatPath(1, 4), 11);
        Kit.same("first byte", x.formatted(0), 'b');
        Kit.same("slash", x.formatted(4), '/');
        Kit.same("last byte", x.formatted(10), 'z');
        Kit.bounds("past the end", () -> x.formatted(11));
        Kit.bounds("byte -1", () -> x.formatted(-1));
        Kit.bounds("path in image 2", () -> x.formatPath(2, 0));
        Kit.bounds("path in image -1", () -> x.formatPath(-1, 0));
        Kit.bounds("path of node 8", () -> x.formatPath(1, 8));
        Kit.bounds("path of node -1", () -> x.formatPath(1, -1));
        Kit.bounds("path in an empty image", () -> x.formatPath(0, 0));
        Kit.same("the text stays after exceptions", x.formatted(10), 'z');
        x.remove(1, 4);
        Kit.load(x, 1, "disk 1;");
        Kit.same("the text stays after changes", x.formatted(10), 'z');
        Kit.load(x, 0, "disk 9;partition azazaz 0 1{dir zzzzzz 1{dir zzzzzz 2{dir zzzzzz 3{dir abcdef 4{"
            + "file zyxwvu 5 5;}}}}}");
        Kit.same("the longest path", x.formatPath(0, 4), 41);
        Kit.sameText("the longest path", Kit.path(x, 0, 4), "azazaz/zzzzzz/zzzzzz/zzzzzz/abcdef/zyxwvu");
        Kit.same("a shorter text replaces it", x.formatPath(0, 0), 13);
        Kit.bounds("past its end", () -> x.formatted(13));
    }
}
