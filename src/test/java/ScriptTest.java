/** Promises 24 to 32: the script, its costs, and its replay. */
public final class ScriptTest {
    private static final String OLD = "disk 100;"
        + "partition gone 0 10{dir x 1{file y 2 2;}}"
        + "partition keep 10 10{file a 1 1;dir b 2{file c 3 3;file d 4 4;}file e 5 5;}"
        + "partition size 20 10{}"
        + "partition name 30 10{file z 9 9;}";
    private static final String NEW = "disk 200;"
        + "partition fresh 150 10{file n 1 1;}"
        + "partition other 30 10{file z 9 9;}"
        + "partition size 40 20{dir m 1{}}"
        + "partition keep 10 10{dir b 2{file a 1 1;}file q 7 5 attr 3;file c 13 33;}";

    public static void main(String[] args) {
        setCost();
        kindsInOrder();
        operationReports();
        singleOperations();
        operationsOf();
        cost();
        costBack();
        present();
        agreement();
        readyAfter();
        largestScript();
        Kit.end("ScriptTest");
    }

    private static DiskImageDiff both() {
        return Kit.differ(OLD, NEW);
    }

    private static void setCost() {
        int[] first = {20, 1, 5, 10, 4, 2, 3, 1, 1, 2, 1};
        DiskImageDiff x = new DiskImageDiff();
        for (int kind = 0; kind <= 10; kind++) {
            Kit.same("first cost of " + kind, x.setCost(kind, 99 - kind), first[kind]);
        }
        for (int kind = 0; kind <= 10; kind++) {
            Kit.same("second cost of " + kind, x.setCost(kind, 0), 99 - kind);
        }
        Kit.argument("kind 11", () -> x.setCost(11, 1));
        Kit.argument("kind -1", () -> x.setCost(-1, 1));
        Kit.argument("cost 100", () -> x.setCost(0, 100));
        Kit.argument("cost -1", () -> x.setCost(0, -1));
        Kit.same("cost stays", x.setCost(0, 99), 0);
    }

    private static void kindsInOrder() {
        // Old: x 0, y 1, a 2, b 3, c 4, d 5, e 6, z 7. New: n 0, z 1, m 2, b 3, a 4, q 5, c 6.
        Kit.sameText("script", Kit.script(both()),
            "0:0:-1 2:2:2 1:3:1 3:-1:0 4:-1:0 4:-1:2 4:-1:6 5:2:4 5:6:5 7:6:5 8:6:5 9:5:-1 9:4:-1 10:-1:-1");
        DiskImageDiff x = both();
        x.swap();
        Kit.sameText("script back", Kit.script(x),
            "0:0:-1 1:1:3 2:2:2 3:-1:0 4:-1:0 4:-1:1 4:-1:4 4:-1:5 5:4:2 5:5:6 7:5:6 8:5:6 9:6:-1 9:2:-1 10:-1:-1");
    }

    private static void operationReports() {
        DiskImageDiff x = both();
        Kit.same("operations", x.operations(), 14);
        Kit.bounds("operation 14", () -> x.operation(14, 0));
        Kit.bounds("operation -1", () -> x.operation(-1, 0));
        Kit.argument("what 3", () -> x.operation(0, 3));
        Kit.argument("what -1", () -> x.operation(13, -1));
        Kit.bounds("both wrong", () -> x.operation(14, 3));
        Kit.bounds("no script", () -> new DiskImageDiff().operation(0, 0));
    }

    private static void single(String oldText, String newText, String due) {
        Kit.sameText(oldText + " to " + newText, Kit.script(Kit.differ(oldText, newText)), due);
    }

    private static void nodes(String oldNodes, String newNodes, String due) {
        single("disk 9;partition p 0 9{" + oldNodes + "}", "disk 9;partition p 0 9{" + newNodes + "}", due);
    }

    private static void singleOperations() {
        single("disk 5;", "disk 6;", "10:-1:-1");
        single("disk 5;", "disk 5;", "");
        single("disk 9;partition a 0 1{}", "disk 9;", "0:0:-1");
        single("disk 9;", "disk 9;partition a 0 1{}", "3:-1:0");
        single("disk 9;partition a 0 1{}", "disk 9;partition b 0 1{}", "1:0:0");
        single("disk 9;partition a 0 1{}", "disk 9;partition a 1 1{}", "2:0:0");
        single("disk 9;partition a 0 1{}", "disk 9;partition a 0 2{}", "2:0:0");
        single("disk 9;partition a 0 1{}", "disk 9;partition b 0 2{}", "1:0:0 2:0:0");
        single("disk 9;partition a 0 1{file f 1 1;}", "disk 9;", "0:0:-1");
        nodes("", "dir d 1{file f 2 2;}", "4:-1:0 4:-1:1");
        nodes("dir d 1{file f 2 2;}", "", "9:1:-1 9:0:-1");
        nodes("file f 1 1;", "file g 1 1;", "5:0:0");
        nodes("file f 1 1;", "file f 1 2;", "6:0:0");
        nodes("file f 1 1;", "file f 1 1 attr 1;", "7:0:0");
        nodes("dir f 1{}", "dir f 1 attr 1{}", "7:0:0");
        nodes("file f 1 1;", "file f 2 1;", "8:0:0");
        nodes("file f 1 1;", "file g 1 2 attr 3;", "5:0:0 6:0:0 7:0:0");
        nodes("file f 1 1;", "file f 2 2 attr 3;", "6:0:0 7:0:0 8:0:0");
        // The parents agree if they are matched, whatever their names are.
        nodes("dir d 1{file f 2 2;}", "dir e 1{file f 2 2;}", "5:0:0");
        nodes("dir d 1{file f 2 2;}", "dir e 3{file f 2 2;}", "4:-1:0 5:1:1 9:0:-1");
        nodes("dir d 1{file f 2 2;}", "dir d 1{}file f 2 2;", "5:1:1");
        nodes("dir d 1{}file f 2 2;", "dir d 1{file f 2 2;}", "5:1:1");
        nodes("dir d 1{file f 3 3;}dir e 2{}", "dir e 1{}dir d 2{file f 3 3;}", "5:0:0 5:1:2 5:2:1");
        nodes("dir d 1{dir e 2{}}", "dir d 1{dir c 4{dir e 2{}}}", "4:-1:1 5:1:2");
    }

    private static void operationsOf() {
        DiskImageDiff x = both();
        int[] due = {1, 1, 1, 1, 3, 2, 0, 1, 1, 2, 1};
        for (int kind = 0; kind <= 10; kind++) {
            Kit.same("operationsOf(" + kind + ")", x.operationsOf(kind), due[kind]);
        }
        Kit.argument("operationsOf(11)", () -> x.operationsOf(11));
        Kit.argument("operationsOf(-1)", () -> x.operationsOf(-1));
    }

    private static void cost() {
        DiskImageDiff x = both();
        int due = 20 + 5 + 1 + 10 + 3 * 4 + 2 * 2 + 1 + 1 + 2 * 2 + 1;
        Kit.same("cost", x.cost(), due);
        for (int kind = 0; kind <= 10; kind++) {
            int previous = x.setCost(kind, 50);
            due += x.operationsOf(kind) * (50 - previous);
            Kit.same("cost with 50 for " + kind, x.cost(), due);
        }
        x.setCost(6, 99);
        x.write(1, 1, 10);
        Kit.same("cost after a write", x.cost(), due + 99);
        Kit.same("cost of nothing", new DiskImageDiff().cost(), 0);
    }

    private static void costBack() {
        DiskImageDiff x = both();
        int due = 20 + 1 + 5 + 10 + 4 * 4 + 2 * 2 + 1 + 1 + 2 * 2 + 1;
        Kit.same("costBack", x.costBack(), due);
        Kit.same("cost beside it", x.cost(), due - 4);
        x.setCost(0, 0);
        Kit.same("costBack after setCost", x.costBack(), due - 20);
        x.setAttributes(0, 7, 1);
        Kit.same("costBack after a change", x.costBack(), due - 19);
        // Greedy identity: with other numbers going back is dearer than going there.
        DiskImageDiff y = Kit.differ("disk 9;partition p 0 9{file a 1 7;file b 2 7;}",
            "disk 9;partition p 0 9{file a 2 7;file c 3 7;}");
        Kit.sameText("there", Kit.script(y), "5:0:1 8:0:1 5:1:0");
        Kit.same("cost there", y.cost(), 5);
        Kit.same("cost back", y.costBack(), 5);
        DiskImageDiff z = Kit.differ("disk 9;partition a 0 1{}partition b 1 1{}",
            "disk 9;partition b 0 1{}");
        Kit.same("a partition to remove", z.cost(), 25);
        Kit.same("a partition to add", z.costBack(), 15);
    }

    private static void rows(String what, DiskImageDiff x, boolean agreement, int... due) {
        Kit.same(what + " operations", x.operations(), due.length - 1);
        for (int i = 0; i < due.length; i++) {
            Kit.same(what + " after " + i, agreement ? x.agreement(i) : x.present(i), due[i]);
        }
    }

    private static void present() {
        DiskImageDiff x = both();
        // Script: 0 2 1 3 4 4 4 5 5 7 8 9 9 10.
        rows("present", x, false, 8, 6, 6, 6, 6, 7, 8, 9, 9, 9, 9, 9, 8, 7, 7);
        Kit.bounds("present(-1)", () -> x.present(-1));
        Kit.bounds("present(15)", () -> x.present(15));
        Kit.bounds("present of no script", () -> new DiskImageDiff().present(1));
        DiskImageDiff y = Kit.differ("disk 9;partition a 0 1{file f 1 1;}partition b 1 1{}partition c 2 1{dir d 1{}}",
            "disk 9;");
        rows("removed partitions", y, false, 2, 1, 1, 0);
    }

    private static void agreement() {
        DiskImageDiff x = both();
        // At first: partition keep, b and z; then size, name, fresh, n, m, c, a and e when their last one is done.
        rows("agreement", x, true, 3, 3, 4, 5, 6, 7, 8, 9, 10, 10, 10, 11, 11, 11, 11);
        Kit.bounds("agreement(-1)", () -> x.agreement(-1));
        Kit.bounds("agreement(15)", () -> x.agreement(15));
        Kit.bounds("agreement of no script", () -> new DiskImageDiff().agreement(1));
        DiskImageDiff y = Kit.differ("disk 9;partition a 0 1{file f 1 1;}",
            "disk 9;partition b 0 2{file g 1 2 attr 3;}");
        rows("several operations each", y, true, 0, 0, 1, 1, 1, 2);
    }

    private static void readyAfter() {
        DiskImageDiff x = both();
        int[] due = {5, 0, 6, 0, 8, 11, 7};
        for (int node = 0; node < due.length; node++) {
            Kit.same("readyAfter(" + node + ")", x.readyAfter(node), due[node]);
        }
        Kit.bounds("readyAfter(7)", () -> x.readyAfter(7));
        Kit.bounds("readyAfter(-1)", () -> x.readyAfter(-1));
        Kit.bounds("readyAfter of no node", () -> new DiskImageDiff().readyAfter(0));
        x.remove(1, 0);
        Kit.same("readyAfter after a change", x.readyAfter(1), 5);
    }

    /** Two operations on each of four partitions, three on each of 24 files, one on the disk. */
    private static void largestScript() {
        StringBuilder oldText = new StringBuilder("disk 98;");
        StringBuilder newText = new StringBuilder("disk 99;");
        for (int p = 0; p < 4; p++) {
            oldText.append("partition ").append((char) ('a' + p)).append(' ').append(9 * p).append(" 1{");
            newText.append("partition ").append((char) ('k' + p)).append(' ').append(9 * p).append(" 2{");
            for (int f = 0; f < 6; f++) {
                oldText.append("file ").append((char) ('a' + f)).append(' ').append(f).append(" 1;");
                newText.append("file ").append((char) ('k' + f)).append(' ').append(f).append(" 2 attr 1;");
            }
            oldText.append('}');
            newText.append('}');
        }
        DiskImageDiff x = Kit.differ(oldText.toString(), newText.toString());
        Kit.same("operations", x.operations(), 81);
        Kit.same("cost", x.cost(), 4 * 6 + 24 * 6 + 1);
        Kit.same("last agreement", x.agreement(81), 28);
        Kit.same("agreement before", x.agreement(79), 27);
        Kit.same("last present", x.present(81), 24);
        Kit.same("the last file", x.readyAfter(23), 80);
    }
}
