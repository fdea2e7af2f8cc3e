/** Promises 33 and 34: the least cost of files and the cost of the matched files. */
public final class FilesTest {
    public static void main(String[] args) {
        simple();
        dearMatches();
        directories();
        partitions();
        costs();
        greedyIsNotLeast();
        manyFiles();
        freshness();
        Kit.end("FilesTest");
    }

    private static void files(String oldNodes, String newNodes, int matched, int least) {
        DiskImageDiff x = Kit.differ("disk 9;partition p 0 9{" + oldNodes + "}", "disk 9;partition p 0 9{" + newNodes + "}");
        Kit.same("fileCost of " + oldNodes + " to " + newNodes, x.fileCost(), matched);
        Kit.same("leastFileCost of " + oldNodes + " to " + newNodes, x.leastFileCost(), least);
    }

    private static void simple() {
        Kit.same("no files", new DiskImageDiff().fileCost(), 0);
        Kit.same("no files", new DiskImageDiff().leastFileCost(), 0);
        files("file a 1 1;", "", 2, 2);
        files("", "file a 1 1;", 4, 4);
        files("dir a 1{}", "dir b 2{}", 0, 0);
        files("file a 1 1;", "file a 1 1;", 0, 0);
        files("file a 1 1;", "file b 1 1;", 2, 2);
        files("file a 1 1;", "file a 1 2;", 3, 3);
        files("file a 1 1;", "file a 1 1 attr 1;", 1, 1);
        files("file a 1 1;", "file a 2 1;", 1, 1);
        files("file a 1 1;", "file b 2 1 attr 1;", 4, 4);
        files("file a 1 1;", "dir a 1{}", 2, 2);
    }

    /** A matched pair may cost more than to delete and to create; an unmatched pair may cost less. */
    private static void dearMatches() {
        files("file a 1 1;", "file b 1 2 attr 1;", 6, 6);
        DiskImageDiff x = Kit.differ("disk 9;partition p 0 9{file a 1 1;}", "disk 9;partition p 0 9{file b 1 2 attr 1;}");
        x.setCost(6, 50);
        Kit.same("matched", x.fileCost(), 53);
        Kit.same("least", x.leastFileCost(), 6);
        x.setCost(9, 0);
        x.setCost(4, 0);
        Kit.same("matched", x.fileCost(), 53);
        Kit.same("least", x.leastFileCost(), 0);
        DiskImageDiff y = Kit.differ("disk 9;partition p 0 9{file a 1 1;}", "disk 9;partition p 0 9{file b 2 2;}");
        Kit.same("unmatched", y.fileCost(), 6);
        Kit.same("assigned", y.leastFileCost(), 6);
        y.setCost(6, 2);
        Kit.same("unmatched", y.fileCost(), 6);
        Kit.same("assigned, as it is cheaper", y.leastFileCost(), 5);
    }

    /** The parents agree by the matched directories, also for pairs that are not matched. */
    private static void directories() {
        files("dir d 1{file a 2 1;}", "dir e 1{file a 2 1;}", 0, 0);
        files("dir d 1{file a 2 1;}", "dir e 3{file a 2 1;}", 2, 2);
        files("dir d 1{file a 2 1;}", "dir d 1{}file a 2 1;", 2, 2);
        files("dir d 1{file a 2 1;}dir e 3{file b 4 1;}", "dir e 1{file b 4 1;}dir d 3{file a 2 1;}", 4, 2 + 2);
    }

    private static void partitions() {
        // Files in an unmatched old partition cost nothing, those in an unmatched new one are created.
        DiskImageDiff x = Kit.differ(
            "disk 9;partition a 0 1{file f 1 1;}partition b 1 1{file f 1 1;}",
            "disk 9;partition b 1 1{}partition c 2 1{file f 1 1;file g 2 2;}");
        Kit.same("matched", x.fileCost(), 2 + 8);
        Kit.same("least", x.leastFileCost(), 2 + 8);
        x.swap();
        Kit.same("matched", x.fileCost(), 4 + 4);
        Kit.same("least", x.leastFileCost(), 4 + 4);
        // Files of two matched partitions that are not matched with each other are not assigned.
        DiskImageDiff y = Kit.differ(
            "disk 9;partition a 0 1{file f 1 1;}partition b 1 1{}",
            "disk 9;partition a 0 1{}partition b 1 1{file f 1 1;}");
        Kit.same("matched", y.fileCost(), 6);
        Kit.same("least", y.leastFileCost(), 6);
        DiskImageDiff z = Kit.differ(
            "disk 9;partition a 0 1{file f 1 1;}partition b 1 1{file f 2 1;}",
            "disk 9;partition b 1 1{file f 2 1;}partition a 0 1{file f 1 1;}");
        Kit.same("each with its own", z.leastFileCost(), 0);
    }

    private static void costs() {
        DiskImageDiff x = Kit.differ("disk 9;partition p 0 9{dir d 1{file a 2 3;}file u 8 8;}",
            "disk 9;partition p 0 9{dir d 1{}file b 2 4 attr 5;file v 9 9;}");
        int[] due = new int[11];
        due[4] = 1;
        due[5] = 1;
        due[6] = 1;
        due[7] = 1;
        due[9] = 1;
        for (int kind = 0; kind <= 10; kind++) {
            int before = x.fileCost();
            int previous = x.setCost(kind, 40);
            Kit.same("fileCost with 40 for " + kind, x.fileCost(), before + due[kind] * (40 - previous));
            x.setCost(kind, previous);
        }
    }

    private static void greedyIsNotLeast() {
        // By the inode a goes to b, and b to nothing; crosswise it is cheaper.
        files("file a 1 1;file b 2 2;", "file b 1 2;file a 3 1;", 5 + 6, 2);
        // By the content, in ascending order: a with x and b with y; the attributes fit the other way.
        files("file a 1 7 attr 1;file b 2 7 attr 2;", "file x 3 7 attr 2;file y 4 7 attr 1;", 8, 6);
        // A chain: the cheapest pair alone would spoil the rest.
        files("file a 1 1;file b 2 1;file c 3 1;", "file c 1 2;file a 2 2;file b 3 2;", 15, 12);
    }

    /** Every file but one has its like; where the numbers are turned round, all must move on. */
    private static void manyFiles() {
        StringBuilder oldText = new StringBuilder("disk 9;partition p 0 9{");
        StringBuilder newText = new StringBuilder("disk 9;partition p 0 9{");
        for (int i = 0; i < 24; i++) {
            oldText.append("file ").append((char) ('a' + i)).append(' ').append(i).append(' ').append(i).append(';');
            int j = (i + 1) % 24;
            newText.append("file ").append((char) ('a' + j)).append(' ').append(i).append(' ').append(j).append(';');
        }
        DiskImageDiff x = Kit.differ(oldText.append('}').toString(), newText.append('}').toString());
        Kit.same("matched", x.fileCost(), 24 * 5);
        Kit.same("least", x.leastFileCost(), 24);
        x.remove(0, 5);
        Kit.same("least with one to create", x.leastFileCost(), 23 + 4);
        x.remove(1, 20);
        x.remove(1, 19);
        Kit.same("least with two to delete", x.leastFileCost(), 21 + 4 + 2 + 2);
    }

    private static void freshness() {
        DiskImageDiff x = Kit.differ("disk 9;partition p 0 9{file a 1 1;}", "disk 9;partition p 0 9{file a 1 1;}");
        Kit.same("alike", x.leastFileCost() + x.fileCost(), 0);
        x.write(0, 0, 2);
        Kit.same("after write", x.leastFileCost(), 3);
        Kit.same("after write", x.fileCost(), 3);
        x.setCost(6, 9);
        Kit.same("after setCost", x.leastFileCost(), 6);
        Kit.same("after setCost", x.fileCost(), 9);
    }
}
