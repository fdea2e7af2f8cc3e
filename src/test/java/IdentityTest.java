/** Promises 19 to 23: which partitions and nodes are matched, in which pass, and the similarity. */
public final class IdentityTest {
    public static void main(String[] args) {
        partitionPasses();
        partitionOrder();
        partitionBounds();
        nodePasses();
        nodeKinds();
        nodePartitions();
        nodeOrder();
        nodeBounds();
        matches();
        similarity();
        freshness();
        Kit.end("IdentityTest");
    }

    private static void partitions(String oldText, String newText, int... due) {
        DiskImageDiff x = Kit.differ("disk 99;" + oldText, "disk 99;" + newText);
        for (int i = 0; i < due.length; i++) {
            Kit.same("partition " + i + " of " + oldText + " in " + newText, x.matchedPartition(i), due[i]);
        }
    }

    private static void partitionPasses() {
        partitions("partition a 0 9{}", "partition a 0 5{}", 0);
        partitions("partition a 0 9{}", "partition a 3 9{}", 0);
        partitions("partition a 0 9{}", "partition b 0 9{}", 0);
        partitions("partition a 0 9{}", "partition b 3 9{}", -1);
        partitions("partition a 0 9{}", "", -1);
        // Label and sector first, then the label before the sector.
        partitions("partition a 0 9{}partition b 10 9{}", "partition b 0 9{}partition a 10 9{}", 1, 0);
        partitions("partition a 0 9{}partition b 10 9{}", "partition c 0 9{}partition a 10 9{}", 1, -1);
        partitions("partition a 0 9{}partition b 10 9{}partition c 20 9{}",
            "partition b 20 9{}partition c 10 9{}partition d 0 9{}", 2, 0, 1);
        partitions("partition a 0 9{}partition b 10 9{}", "partition b 0 9{}partition c 10 9{}", -1, 0);
    }

    private static void partitionOrder() {
        partitions("partition a 0 1{}partition b 1 1{}partition c 2 1{}partition d 3 1{}",
            "partition d 0 1{}partition e 1 1{}partition b 5 1{}partition c 2 1{}", -1, 2, 3, 0);
        partitions("partition a 0 1{}partition b 1 1{}", "partition x 1 1{}partition y 0 1{}", 1, 0);
        // Sector 1 goes to the old partition that has it, whatever its number.
        partitions("partition a 7 1{}partition b 1 1{}", "partition x 1 1{}partition a 2 1{}", 1, 0);
    }

    private static void partitionBounds() {
        DiskImageDiff x = Kit.differ("disk 9;partition a 0 1{}", "disk 9;partition b 5 1{}partition a 4 1{}");
        Kit.same("matched", x.matchedPartition(0), 1);
        Kit.bounds("partition 1 of the old image", () -> x.matchedPartition(1));
        Kit.bounds("partition -1", () -> x.matchedPartition(-1));
        Kit.bounds("no partition", () -> new DiskImageDiff().matchedPartition(0));
    }

    /** Pairs of a number and a pass for each old node. */
    private static void nodes(String oldNodes, String newNodes, int... due) {
        DiskImageDiff x = Kit.differ("disk 9;partition p 0 9{" + oldNodes + "}", "disk 9;partition p 0 9{" + newNodes + "}");
        String what = oldNodes + " in " + newNodes + ": ";
        Kit.same(what + "count", x.image(0, 2), due.length / 2);
        for (int i = 0; i < due.length / 2; i++) {
            Kit.same(what + "match of " + i, x.matchedNode(i), due[2 * i]);
            Kit.same(what + "pass of " + i, x.passOf(i), due[2 * i + 1]);
        }
    }

    private static void nodePasses() {
        nodes("file f 1 1;", "file f 1 2;", 0, 1);
        nodes("file f 1 1;", "file g 1 2;", 0, 2);
        nodes("file f 1 1;", "file f 2 2;", 0, 3);
        nodes("file f 1 1;", "dir d 2{file f 3 1;}", 1, 4);
        nodes("file f 1 1;", "dir d 2{file g 3 1;}", 1, 5);
        nodes("file f 1 1;", "dir d 2{file f 3 2;}", -1, 0);
        // Each pass comes before the next one, whatever the order of the nodes.
        nodes("file f 1 7;", "file f 5 7;file g 1 7;", 1, 2);
        nodes("file f 1 7;", "file g 1 7;file f 1000 7;".replace("1000", "2"), 0, 2);
        nodes("file f 1 7;", "file g 2 7;file f 3 8;", 1, 3);
        nodes("file f 1 7;", "file g 2 7;dir d 3{file f 4 7;}", 2, 4);
        nodes("file a 1 7;file b 2 7;", "file b 1 7;file a 2 7;", 0, 2, 1, 2);
        nodes("file a 1 7;file b 2 8;", "file a 2 7;file b 1 7;", 1, 2, 0, 2);
        nodes("file a 1 7;file b 2 8;", "file a 2 7;file b 3 7;", 1, 5, 0, 2);
        // A path is all names down from the root.
        nodes("dir d 1{file f 2 5;}", "dir e 3{file f 4 6;}", -1, 0, -1, 0);
        nodes("dir d 1{file f 2 5;}", "dir e 1{file f 4 6;}", 0, 2, -1, 0);
        nodes("dir d 1{file f 2 5;}", "dir d 3{file f 4 6;}", 0, 3, 1, 3);
        nodes("dir d 1{file f 2 5;}file f 3 6;", "file f 9 7;dir d 8{file f 7 9;}", 1, 3, 2, 3, 0, 3);
        nodes("dir d 1{file d 2 5;}", "dir d 3{dir d 2{file d 1 9;}}", 0, 3, -1, 0);
    }

    private static void nodeKinds() {
        nodes("dir d 1{}", "file d 1 1;", -1, 0);
        nodes("file d 1 1;", "dir d 1{}", -1, 0);
        nodes("dir d 1{}", "dir d 1{}", 0, 1);
        // Passes 4 and 5 are for files only.
        nodes("dir d 1{dir e 2{}}", "dir f 3{dir e 4{}}", -1, 0, -1, 0);
        nodes("dir d 1{}file e 2 2;", "file d 1 2;dir e 2{}", -1, 0, 0, 5);
    }

    private static void nodePartitions() {
        DiskImageDiff x = Kit.differ(
            "disk 9;partition a 0 1{file f 1 1;}partition b 1 1{file f 1 1;}partition c 2 1{file f 1 1;}",
            "disk 9;partition b 5 1{file f 2 1;}partition a 6 1{file g 3 1;}partition d 7 1{file f 1 1;}");
        Kit.same("in a", x.matchedNode(0), 1);
        Kit.same("pass in a", x.passOf(0), 5);
        Kit.same("in b", x.matchedNode(1), 0);
        Kit.same("pass in b", x.passOf(1), 3);
        Kit.same("in c, which is unmatched", x.matchedNode(2), -1);
        Kit.same("pass in c", x.passOf(2), 0);
    }

    private static void nodeOrder() {
        // The first unmatched one of the new image, for the old ones in ascending order.
        nodes("file a 1 7;file b 2 7;file c 3 7;", "file x 11 7;file y 12 7;", 0, 5, 1, 5, -1, 0);
        nodes("file a 1 7;", "file x 11 7;file y 12 7;", 0, 5);
        nodes("dir d 1{file a 2 7;}file a 3 7;", "dir x 5{file a 12 7;}dir y 6{file a 13 7;}", -1, 0, 1, 4, 3, 4);
    }

    private static void nodeBounds() {
        DiskImageDiff x = Kit.differ("disk 9;partition a 0 1{file f 1 1;}",
            "disk 9;partition a 0 1{dir d 2{}file f 1 1;}");
        Kit.same("matched", x.matchedNode(0), 1);
        Kit.bounds("node 1 of the old image", () -> x.matchedNode(1));
        Kit.bounds("node -1", () -> x.matchedNode(-1));
        Kit.bounds("pass of node 1", () -> x.passOf(1));
        Kit.bounds("pass of node -1", () -> x.passOf(-1));
        Kit.bounds("no node", () -> new DiskImageDiff().matchedNode(0));
        Kit.bounds("pass of no node", () -> new DiskImageDiff().passOf(0));
    }

    private static void matches() {
        DiskImageDiff x = Kit.differ(
            "disk 9;partition p 0 9{file a 1 1;file b 2 2;file c 3 3;file d 4 4;file e 5 5;dir g 6{}file h 7 50;}",
            "disk 9;partition p 0 9{file a 1 9;file z 2 9;file c 13 9;dir y 20{file d 14 4;}file x 15 5;dir g 6{}"
                + "file h 17 9;}");
        int[] due = {2, 1, 2, 1, 1};
        for (int pass = 1; pass <= 5; pass++) {
            Kit.same("matches(" + pass + ")", x.matches(pass), due[pass - 1]);
        }
        Kit.argument("matches(0)", () -> x.matches(0));
        Kit.argument("matches(6)", () -> x.matches(6));
        Kit.argument("matches(-1)", () -> x.matches(-1));
    }

    private static void similarity() {
        Kit.noElement("no nodes", () -> new DiskImageDiff().similarity());
        Kit.noElement("no nodes", () -> Kit.differ("disk 1;partition p 0 1{}", "disk 1;").similarity());
        similar("file a 1 1;", "", 0.0);
        similar("", "file a 1 1;", 0.0);
        similar("file a 1 1;", "file a 1 1;", 1.0);
        similar("file a 1 1;", "file a 1 2;", 0.0);
        similar("file a 1 1;", "file a 1 1 attr 1;", 0.0);
        similar("file a 1 1;", "file a 2 1;", 0.0);
        similar("file a 1 1;", "file b 1 1;", 0.0);
        similar("dir d 1{file a 2 1;}", "dir d 1{}file a 2 1;", 0.5);
        similar("file a 1 1;file b 2 2;", "file a 1 1;", 2.0 / 3.0);
        similar("dir d 1{file a 2 2;file b 3 3;}", "dir d 1 attr 1{file a 2 2;file b 3 3;}file c 9 9;", 4.0 / 7.0);
    }

    private static void similar(String oldNodes, String newNodes, double due) {
        DiskImageDiff x = Kit.differ("disk 9;partition p 0 9{" + oldNodes + "}", "disk 8;partition p 2 6{" + newNodes + "}");
        Kit.same("similarity of " + oldNodes + " and " + newNodes, x.similarity(), due);
    }

    /** Each change counts at once. */
    private static void freshness() {
        DiskImageDiff x = Kit.differ("disk 9;partition p 0 9{file a 1 1;file b 2 2;}",
            "disk 9;partition p 0 9{file a 1 1;file b 2 2;}");
        Kit.same("alike", x.similarity(), 1.0);
        x.setAttributes(0, 1, 1);
        Kit.same("after setAttributes", x.similarity(), 0.5);
        x.write(1, 0, 2);
        Kit.same("after write", x.similarity(), 0.0);
        x.write(1, 0, 1);
        x.setAttributes(1, 1, 1);
        Kit.same("after both", x.similarity(), 1.0);
        x.rename(0, 0, 5);
        Kit.same("after rename", x.passOf(0), 2);
        x.move(0, 0, -1);
        Kit.same("after move", x.matchedNode(0), 1);
        x.swap();
        Kit.same("after swap", x.matchedNode(0), 1);
        x.remove(0, 0);
        Kit.same("after remove", x.matchedNode(0), 0);
        Kit.load(x, 1, "disk 1;");
        Kit.same("after load", x.matchedNode(0), -1);
    }
}
