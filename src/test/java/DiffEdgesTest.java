/** IDENTITY, THE SCRIPT, REPLAY, LEAST COST OF FILES and promises 19 to 34 at their ends and with nothing to tell. */
public final class DiffEdgesTest {
    private static final String BOUNDS = "IndexOutOfBoundsException";
    private static final String ARGUMENT = "IllegalArgumentException";
    private static final String FOUR = "disk 9;partition a 0 1{}partition b 2 1{}partition c 4 1{}partition d 6 1{}";

    public static void main(String[] args) {
        oldNumbersAndNewNumbers();
        nothingToMatch();
        partitionKeys();
        partitionsCrosswise();
        mostNodes();
        nodeKeys();
        labelsAreNoPartOfPaths();
        matches();
        similarityEnds();
        setCost();
        noOperation();
        smallestDifferences();
        directoriesAreNotWritten();
        operationsInPartitions();
        fourOperationsOnAFile();
        longestScript();
        operationNumbers();
        costEnds();
        costBackOfChanges();
        replayEnds();
        replayOfNothing();
        readyEnds();
        costsOfNoFiles();
        filesInUnmatchedPartitions();
        pairsAtTheSameCost();
        costsOfFilesAtTheEnds();
        fewerAndMoreFiles();
        Kit.end("DiffEdgesTest");
    }

    private static String nodes(String nodes) {
        return "disk 9;partition p 0 9{" + nodes + "}";
    }

    private static DiskImageDiff ofNodes(String oldNodes, String newNodes) {
        return Kit.differ(nodes(oldNodes), nodes(newNodes));
    }

    private static String files(int count, int firstInode, String rest) {
        StringBuilder text = new StringBuilder();
        for (int i = 0; i < count; i++) {
            text.append("file ").append((char) ('a' + i)).append(' ').append(firstInode + i).append(rest);
        }
        return text.toString();
    }

    // IDENTITY.

    /** Image 0 is the old one, whose numbers are asked for; readyAfter asks for those of image 1. */
    private static void oldNumbersAndNewNumbers() {
        DiskImageDiff x = Kit.differ("disk 9;partition a 0 1{}partition b 1 1{file a 1 1;file b 2 2;dir c 3{}}",
            "disk 9;partition b 1 1{file b 2 2;}");
        Kit.range("old partition", 0, 1, BOUNDS, x::matchedPartition);
        Kit.range("old node", 0, 2, BOUNDS, x::matchedNode);
        Kit.range("pass of an old node", 0, 2, BOUNDS, x::passOf);
        Kit.range("new node", 0, 0, BOUNDS, x::readyAfter);
        x.swap();
        Kit.range("old partition", 0, 0, BOUNDS, x::matchedPartition);
        Kit.range("old node", 0, 0, BOUNDS, x::matchedNode);
        Kit.range("pass of an old node", 0, 0, BOUNDS, x::passOf);
        Kit.range("new node", 0, 2, BOUNDS, x::readyAfter);
    }

    private static void nothingToMatch() {
        DiskImageDiff x = Kit.differ(FOUR, "disk 9;");
        for (int i = 0; i < 4; i++) {
            Kit.same("no new partition", x.matchedPartition(i), DiskImageDiff.NONE);
        }
        x.swap();
        Kit.range("no old partition", 0, -1, BOUNDS, x::matchedPartition);
        Kit.range("no old node", 0, -1, BOUNDS, x::matchedNode);
        DiskImageDiff y = ofNodes("dir a 1{}file b 2 2;", "");
        for (int i = 0; i < 2; i++) {
            Kit.same("no new node", y.matchedNode(i), DiskImageDiff.NONE);
            Kit.same("pass with no new node", y.passOf(i), 0);
        }
        y.swap();
        Kit.range("no old node", 0, -1, BOUNDS, y::passOf);
    }

    /** The first of two new partitions has the first key only, the second the other one only. */
    private static void partitionKeys() {
        String old = "disk 9;partition a 2 1{}";
        int[] dues = {0, 0, -1, 1, 1};
        String[] news = {"partition a 2 5{}", "partition a 3 1{}partition b 2 1{}", "partition b 3 1{}partition c 1 1{}",
            "partition b 2 1{}partition a 3 1{}", "partition b 3 1{}partition c 2 1{}"};
        for (int i = 0; i < news.length; i++) {
            Kit.same("a 2 in " + news[i], Kit.differ(old, "disk 9;" + news[i]).matchedPartition(0), dues[i]);
        }
        DiskImageDiff x = Kit.differ("disk 99;partition a 1 1{}partition b 2 1{}partition c 3 1{}partition d 4 1{}",
            "disk 99;partition c 1 1{}partition e 4 1{}partition b 2 1{}partition f 50 1{}");
        int[] due = {-1, 2, 0, 1};
        for (int i = 0; i < 4; i++) {
            Kit.same("partition " + i, x.matchedPartition(i), due[i]);
        }
    }

    private static void partitionsCrosswise() {
        DiskImageDiff x = Kit.differ(FOUR, "disk 9;partition d 0 1{}partition c 2 1{}partition b 4 1{}partition a 6 1{}");
        DiskImageDiff y = Kit.differ(FOUR, "disk 9;partition w 6 1{}partition x 4 1{}partition y 2 1{}partition z 0 1{}");
        for (int i = 0; i < 4; i++) {
            Kit.same("by the label", x.matchedPartition(i), 3 - i);
            Kit.same("by the first sector", y.matchedPartition(i), 3 - i);
        }
    }

    /** 24 nodes with 24 others, in each pass that there is for files. */
    private static void mostNodes() {
        String old = nodes(files(24, 0, " 5;"));
        String[] news = {old, nodes(files(24, 0, " 5;").replace("file ", "file x")), nodes(files(24, 100, " 5;")),
            nodes("dir z 999{" + files(23, 100, " 5;") + "}"),
            nodes(files(24, 100, " 5;").replace("file ", "file x"))};
        for (int pass = 1; pass <= 5; pass++) {
            DiskImageDiff x = Kit.differ(old, news[pass - 1]);
            int count = pass == 4 ? 23 : 24;
            Kit.same("nodes in pass " + pass, x.matches(pass), count);
            Kit.same("node 0 in pass " + pass, x.matchedNode(0), pass == 4 ? 1 : 0);
            Kit.same("node 22 in pass " + pass, x.matchedNode(22), pass == 4 ? 23 : 22);
            Kit.same("node 23 in pass " + pass, x.matchedNode(23), pass == 4 ? -1 : 23);
            Kit.same("pass of node 23", x.passOf(23), pass == 4 ? 0 : pass);
        }
    }

    private static void nodeKeys() {
        // What has inode and path comes before the inode alone, that before the path, and so on.
        keyed("dir d 9{file b 7 5;}file c 8 6;file a 1 9;", 3, 1);
        keyed("dir d 9{file a 7 5;}file a 8 5;file b 1 6;", 3, 2);
        keyed("dir d 9{file a 7 5;}file a 8 6;file b 6 5;", 2, 3);
        keyed("dir d 9{file a 7 5;}file c 8 5;file b 6 5;", 1, 4);
        keyed("dir d 9{file a 7 6;}file c 8 5;file b 6 5;", 2, 5);
        keyed("dir d 9{file a 7 6;}file c 8 4;file b 6 9999;", -1, 0);
        keyed("dir a 1{}", -1, 0);
    }

    private static void keyed(String newNodes, int due, int pass) {
        DiskImageDiff x = ofNodes("file a 1 5;", newNodes);
        Kit.same("a 1 5 in " + newNodes, x.matchedNode(0), due);
        Kit.same("pass of a 1 5 in " + newNodes, x.passOf(0), pass);
    }

    private static void labelsAreNoPartOfPaths() {
        DiskImageDiff x = Kit.differ("disk 9;partition a 0 9{file f 1 1;file g 2 2;}",
            "disk 9;partition b 0 9{file f 1 1;file g 3 3;}");
        Kit.same("pass 1 in a partition with a new label", x.passOf(0), 1);
        Kit.same("pass 3 in a partition with a new label", x.passOf(1), 3);
        Kit.sameText("script", Kit.script(x), "1:0:0 6:1:1 8:1:1");
    }

    private static void matches() {
        DiskImageDiff x = ofNodes(files(24, 0, " 5;"), files(24, 0, " 6;"));
        Kit.range("matches", 1, 5, ARGUMENT, x::matches);
        Kit.same("all in pass 1", x.matches(1), 24);
        Kit.same("none in pass 5", x.matches(5), 0);
        Kit.range("matches of a new object", 1, 5, ARGUMENT, new DiskImageDiff()::matches);
    }

    private static void similarityEnds() {
        String all = files(24, 0, " 5;");
        Kit.same("24 alike", ofNodes(all, all).similarity(), 1.0);
        Kit.same("none alike", ofNodes(all, files(24, 0, " 6;")).similarity(), 0.0);
        Kit.same("old nodes only", ofNodes("dir a 1{}", "").similarity(), 0.0);
        Kit.same("new nodes only", ofNodes("", "dir a 1{}").similarity(), 0.0);
        Kit.same("one directory", ofNodes("dir a 1{}", "dir a 1{}").similarity(), 1.0);
        Kit.same("1 of 24 and 1", ofNodes(all, "file a 0 5;").similarity(), 2.0 / 25.0);
        Kit.same("23 of 24 and 24", ofNodes(all, all.replace("file a 0 5", "file a 0 6")).similarity(), 46.0 / 48.0);
        Kit.noElement("no nodes", () -> ofNodes("", "").similarity());
        DiskImageDiff x = Kit.differ("disk 9;partition a 0 1{file f 1 1;}", "disk 8;partition b 0 2{file f 1 1;}");
        Kit.same("partitions and disks don't count", x.similarity(), 1.0);
        x.remove(0, 0);
        Kit.same("one left", x.similarity(), 0.0);
        x.remove(1, 0);
        Kit.noElement("none left", x::similarity);
    }

    // THE SCRIPT.

    private static void setCost() {
        DiskImageDiff x = new DiskImageDiff();
        Kit.range("kind", 0, 10, ARGUMENT, kind -> x.setCost(kind, 50));
        for (int kind = 0; kind <= 10; kind++) {
            int asked = kind;
            DiskImageDiff y = new DiskImageDiff();
            Kit.range("cost", 0, 99, ARGUMENT, cost -> y.setCost(asked, cost));
            Kit.same("the last cost", y.setCost(kind, 5), 99);
            Kit.same("each kind's cost", x.setCost(kind, kind), 50);
        }
        for (int kind = 0; kind <= 10; kind++) {
            Kit.same("each kind has its own", x.setCost(kind, 0), kind);
        }
        Kit.argument("both wrong", () -> x.setCost(11, 100));
        Kit.argument("both wrong", () -> x.setCost(-1, -1));
    }

    private static void noOperation() {
        String[] texts = {"disk 1;", FOUR, nodes(""), nodes("dir a 1 attr 7{file b 2 9999 attr 7;}"),
            nodes(files(24, 0, " 5;"))};
        for (String text : texts) {
            DiskImageDiff x = Kit.differ(text, text);
            Kit.same("operations of " + text, x.operations(), 0);
            Kit.range("operation of " + text, 0, -1, BOUNDS, number -> x.operation(number, 0));
            Kit.range("present of " + text, 0, 0, BOUNDS, x::present);
            Kit.range("agreement of " + text, 0, 0, BOUNDS, x::agreement);
            Kit.same("present of " + text, x.present(0), x.image(0, 2));
            Kit.same("agreement of " + text, x.agreement(0), x.image(0, 1) + x.image(0, 2));
            Kit.same("costs of " + text, x.cost() + x.costBack() + x.leastFileCost() + x.fileCost(), 0);
            for (int node = 0; node < x.image(1, 2); node++) {
                Kit.same("readyAfter of " + text, x.readyAfter(node), 0);
            }
        }
    }

    private static void scripted(String oldText, String newText, String due, String dueBack) {
        DiskImageDiff x = Kit.differ(oldText, newText);
        Kit.sameText("script from " + oldText + " to " + newText, Kit.script(x), due);
        x.swap();
        Kit.sameText("script from " + newText + " to " + oldText, Kit.script(x), dueBack);
    }

    private static void both(String oldText, String newText, String due) {
        scripted(oldText, newText, due, due);
    }

    private static void smallestDifferences() {
        both("disk 1;", "disk 2;", "10:-1:-1");
        both("disk 99998;", "disk 99999;", "10:-1:-1");
        both("disk 9;partition a 0 1{}", "disk 9;partition b 0 1{}", "1:0:0");
        both("disk 9;partition zzzzzz 0 1{}", "disk 9;partition zzzzzy 0 1{}", "1:0:0");
        both("disk 9;partition a 0 1{}", "disk 9;partition a 1 1{}", "2:0:0");
        both("disk 9;partition a 0 8{}", "disk 9;partition a 0 9{}", "2:0:0");
        both("disk 9;partition a 0 8{}", "disk 9;partition a 1 8{}", "2:0:0");
        both(nodes("file a 1 1;"), nodes("file b 1 1;"), "5:0:0");
        both(nodes("file a 1 0;"), nodes("file a 1 1;"), "6:0:0");
        both(nodes("file a 1 9998;"), nodes("file a 1 9999;"), "6:0:0");
        both(nodes("file a 1 1;"), nodes("file a 1 1 attr 1;"), "7:0:0");
        both(nodes("file a 1 1 attr 6;"), nodes("file a 1 1 attr 7;"), "7:0:0");
        both(nodes("file a 0 1;"), nodes("file a 1 1;"), "8:0:0");
        both(nodes("file a 998 1;"), nodes("file a 999 1;"), "8:0:0");
        scripted("disk 9;", "disk 9;partition a 0 1{}", "3:-1:0", "0:0:-1");
        scripted(nodes(""), nodes("file a 1 1;"), "4:-1:0", "9:0:-1");
        scripted(nodes(""), nodes("dir a 1{}"), "4:-1:0", "9:0:-1");
        // A free sector and the order of partitions are told nowhere.
        scripted("disk 9;partition a 0 1{}partition b 1 1{}", "disk 9;partition b 1 1{}partition a 0 1{}", "", "");
        scripted(nodes("file a 1 1;file b 2 2;"), nodes("file b 2 2;file a 1 1;"), "", "");
    }

    private static void directoriesAreNotWritten() {
        both(nodes("dir a 1{}"), nodes("dir b 1 attr 1{}"), "5:0:0 7:0:0");
        both(nodes("dir a 1{}"), nodes("dir a 2 attr 1{}"), "7:0:0 8:0:0");
        scripted(nodes("dir a 1{}"), nodes("file a 1 0;"), "4:-1:0 9:0:-1", "4:-1:0 9:0:-1");
    }

    private static void operationsInPartitions() {
        // What is in a removed partition goes with it; what is in an added one is created.
        scripted("disk 9;partition a 0 1{dir d 1{file f 2 2;}}", "disk 9;", "0:0:-1", "3:-1:0 4:-1:0 4:-1:1");
        scripted("disk 9;partition a 0 1{file f 1 1;}partition b 1 1{file g 2 2;}",
            "disk 9;partition b 1 1{}partition c 2 1{file f 1 1;}", "0:0:-1 3:-1:1 4:-1:0 9:1:-1", "0:1:-1 3:-1:0 4:-1:0 4:-1:1");
        // All of a kind in ascending order, to delete in descending order.
        scripted("disk 9;partition a 0 1{}partition b 1 1{}", "disk 9;partition c 3 1{}partition d 4 1{}",
            "0:0:-1 0:1:-1 3:-1:0 3:-1:1", "0:0:-1 0:1:-1 3:-1:0 3:-1:1");
        scripted(nodes("dir a 1{dir b 2{file c 3 3;}}file d 4 4;"), nodes(""), "9:3:-1 9:2:-1 9:1:-1 9:0:-1",
            "4:-1:0 4:-1:1 4:-1:2 4:-1:3");
        scripted("disk 9;partition a 0 1{}partition b 1 1{}", "disk 9;partition d 1 2{}partition c 0 1{}",
            "1:0:1 1:1:0 2:1:0", "1:0:1 2:0:1 1:1:0");
    }

    /** The file keeps its path only: the directory that it was in has another name now. */
    private static void fourOperationsOnAFile() {
        String old = nodes("dir d 1{file f 2 1;}");
        String other = nodes("dir e 1{}dir d 9{file f 3 2 attr 1;}");
        scripted(old, other, "4:-1:1 5:0:0 5:1:2 6:1:2 7:1:2 8:1:2", "5:0:0 5:2:1 6:2:1 7:2:1 8:2:1 9:1:-1");
        DiskImageDiff x = Kit.differ(old, other);
        Kit.same("ready after its last operation", x.readyAfter(2), 6);
        Kit.same("agreement before", x.agreement(5), 3);
        Kit.same("agreement after", x.agreement(6), 4);
    }

    /** Two operations on each of four partitions, two on each of two directories, four on each of 22 files, one more. */
    private static void longestScript() {
        String three = "}partition b 2 1{}partition c 4 1{}partition d 6 1{}";
        DiskImageDiff x = Kit.differ(
            "disk 9;partition a 0 1{dir a 1{" + files(11, 10, " 1;") + "}dir b 2{" + files(11, 30, " 1;") + "}" + three,
            "disk 99;partition k 0 2{dir a 2 attr 1{" + files(11, 110, " 2 attr 1;") + "}dir b 1 attr 1{"
                + files(11, 130, " 2 attr 1;") + "}" + three.replace("b 2 1", "l 2 2").replace("c 4 1", "m 4 2")
                .replace("d 6 1", "n 6 2"));
        int[] due = {0, 4, 4, 0, 0, 24, 22, 24, 22, 0, 1};
        int sum = 0;
        for (int kind = 0; kind <= 10; kind++) {
            Kit.same("operations of kind " + kind, x.operationsOf(kind), due[kind]);
            sum += due[kind];
            x.setCost(kind, 99);
        }
        Kit.same("operations", x.operations(), sum);
        Kit.same("the dearest cost", x.cost(), 101 * 99);
        Kit.same("the dearest cost back", x.costBack(), 101 * 99);
        Kit.range("operation", 0, 100, BOUNDS, number -> x.operation(number, 2));
        Kit.range("present", 0, 101, BOUNDS, x::present);
        Kit.range("agreement", 0, 101, BOUNDS, x::agreement);
        Kit.same("agreement at first", x.agreement(0), 0);
        Kit.same("agreement before the last node is ready", x.agreement(99), 27);
        Kit.same("agreement at last", x.agreement(101), 28);
    }

    private static void operationNumbers() {
        DiskImageDiff x = Kit.differ("disk 9;partition a 0 1{}partition b 1 1{file f 1 1;}",
            "disk 8;partition b 1 1{file g 2 2;}partition c 2 1{}");
        Kit.sameText("script", Kit.script(x), "0:0:-1 3:-1:1 4:-1:0 9:0:-1 10:-1:-1");
        Kit.range("operation", 0, 4, BOUNDS, number -> x.operation(number, 0));
        for (int operation = 0; operation < 5; operation++) {
            int asked = operation;
            Kit.range("what of operation " + operation, 0, 2, ARGUMENT, what -> x.operation(asked, what));
        }
        Kit.range("kind", 0, 10, ARGUMENT, x::operationsOf);
        Kit.range("kind of a new object", 0, 10, ARGUMENT, new DiskImageDiff()::operationsOf);
    }

    private static void costEnds() {
        DiskImageDiff x = Kit.differ(nodes(files(24, 0, " 1;")), nodes(files(24, 0, " 2;")));
        Kit.same("24 writes", x.cost(), 72);
        x.setCost(6, 0);
        Kit.same("24 writes at no cost", x.cost(), 0);
        x.setCost(6, 99);
        Kit.same("24 writes at the greatest cost", x.cost(), 2376);
        Kit.argument("a cost of 100", () -> x.setCost(6, 100));
        Kit.same("cost after it", x.cost(), 2376);
    }

    private static void costBackOfChanges() {
        DiskImageDiff x = Kit.differ("disk 9;", "disk 9;partition a 0 1{file f 1 1;}");
        Kit.same("cost", x.cost(), 14);
        Kit.same("costBack", x.costBack(), 20);
        x.setCost(0, 99);
        Kit.same("cost", x.cost(), 14);
        Kit.same("costBack", x.costBack(), 99);
        x.setCost(3, 0);
        x.setCost(4, 0);
        Kit.same("cost", x.cost(), 0);
        Kit.same("costBack", x.costBack(), 99);
        Kit.same("operations after costBack", x.operations(), 2);
        Kit.same("the images stay", x.image(0, 1), 0);
        Kit.load(x, 0, "disk 9;partition a 0 1{}");
        Kit.same("costBack after a load", x.costBack(), 2);
    }

    // REPLAY.

    private static void replay(String oldText, String newText, String present, String agreement) {
        DiskImageDiff x = Kit.differ(oldText, newText);
        StringBuilder presents = new StringBuilder();
        StringBuilder agreements = new StringBuilder();
        for (int i = 0; i <= x.operations(); i++) {
            presents.append(x.present(i)).append(' ');
            agreements.append(x.agreement(i)).append(' ');
        }
        Kit.sameText("present from " + oldText + " to " + newText, presents.toString().trim(), present);
        Kit.sameText("agreement from " + oldText + " to " + newText, agreements.toString().trim(), agreement);
        Kit.range("present", 0, x.operations(), BOUNDS, x::present);
        Kit.range("agreement", 0, x.operations(), BOUNDS, x::agreement);
    }

    private static void replayEnds() {
        replay("disk 1;", "disk 1;", "0", "0");
        replay("disk 1;", "disk 2;", "0 0", "0 0");
        replay("disk 9;partition a 0 1{}", "disk 9;", "0 0", "0 0");
        replay("disk 9;", "disk 9;partition a 0 1{}", "0 0", "0 1");
        replay("disk 9;partition a 0 1{file f 1 1;dir g 2{}}", "disk 9;", "2 0", "0 0");
        replay("disk 9;", "disk 9;partition a 0 1{file f 1 1;dir g 2{}}", "0 0 1 2", "0 1 2 3");
        replay("disk 9;partition a 0 1{}", "disk 9;partition b 0 1{}", "0 0", "0 1");
        replay("disk 9;partition a 0 1{}", "disk 9;partition b 0 2{}", "0 0 0", "0 0 1");
        replay(nodes("file f 1 1;"), nodes("file f 1 1;"), "1", "2");
        replay(nodes("file f 1 1;"), nodes(""), "1 0", "1 1");
        replay(nodes(""), nodes("file f 1 1;"), "0 1", "1 2");
        replay(nodes("file f 1 1;"), nodes("file g 1 2 attr 1;"), "1 1 1 1", "1 1 1 2");
        replay(nodes("file f 1 1;"), nodes("dir f 1{}"), "1 2 1", "1 2 2");
        replay(nodes(files(2, 0, " 1;")), nodes(files(2, 0, " 2;")), "2 2 2", "1 2 3");
    }

    /** A node in a partition that is relabelled agrees before the partition does. */
    private static void replayOfNothing() {
        replay("disk 9;partition a 0 1{file f 1 1;}", "disk 9;partition b 0 1{file f 1 1;}", "1 1", "1 2");
        DiskImageDiff x = Kit.differ("disk 9;partition a 0 1{file f 1 1;}", "disk 9;partition b 0 1{file f 1 1;}");
        Kit.same("ready at once", x.readyAfter(0), 0);
        DiskImageDiff none = new DiskImageDiff();
        Kit.same("present of nothing", none.present(0), 0);
        Kit.same("agreement of nothing", none.agreement(0), 0);
    }

    private static void readyEnds() {
        DiskImageDiff x = Kit.differ("disk 9;partition a 0 1{}partition b 1 1{file f 1 1;file g 2 2;file h 3 3;}",
            "disk 9;partition c 2 1{file n 1 1;}partition b 1 1{file f 1 1;file i 3 3 attr 3;file g 2 9;}");
        Kit.sameText("script", Kit.script(x), "0:0:-1 3:-1:0 4:-1:0 6:1:3 5:2:2 7:2:2");
        int[] due = {3, 0, 6, 4};
        for (int node = 0; node < 4; node++) {
            Kit.same("readyAfter(" + node + ")", x.readyAfter(node), due[node]);
        }
        Kit.range("node", 0, 3, BOUNDS, x::readyAfter);
        Kit.range("node of none", 0, -1, BOUNDS, Kit.differ(nodes("file a 1 1;"), nodes(""))::readyAfter);
    }

    // LEAST COST OF FILES.

    private static void files(String oldText, String newText, int matched, int least) {
        DiskImageDiff x = Kit.differ(oldText, newText);
        Kit.same("fileCost from " + oldText + " to " + newText, x.fileCost(), matched);
        Kit.same("leastFileCost from " + oldText + " to " + newText, x.leastFileCost(), least);
    }

    private static void costsOfNoFiles() {
        files("disk 1;", "disk 9;", 0, 0);
        files(FOUR, "disk 9;", 0, 0);
        files("disk 9;", FOUR, 0, 0);
        files(nodes("dir a 1{dir b 2{}}"), nodes("dir c 3 attr 1{}"), 0, 0);
        files(nodes("file a 1 1;"), nodes(""), 2, 2);
        files(nodes(""), nodes("file a 1 1;"), 4, 4);
        files(nodes(files(24, 0, " 1;")), nodes(""), 48, 48);
        files(nodes(""), nodes(files(24, 0, " 1;")), 96, 96);
        files(nodes(files(24, 0, " 1;")), nodes(files(24, 0, " 1;")), 0, 0);
        files(nodes(files(24, 0, " 1;")), nodes("file z 99 9;"), 52, 52);
        files(nodes("file z 99 9;"), nodes(files(24, 0, " 1;")), 98, 98);
    }

    private static void filesInUnmatchedPartitions() {
        files("disk 9;partition a 0 1{file f 1 1;}", "disk 9;", 0, 0);
        files("disk 9;", "disk 9;partition a 0 1{file f 1 1;}", 4, 4);
        files("disk 9;partition a 0 1{file f 1 1;}", "disk 9;partition b 1 1{file f 1 1;}", 4, 4);
        files("disk 9;partition a 0 1{file f 1 1;}partition b 1 1{file g 2 2;}", "disk 9;partition b 1 1{file f 1 1;}", 6, 6);
        files("disk 9;partition a 0 1{file f 1 1;}", "disk 9;partition b 0 1{file f 1 1;}", 0, 0);
    }

    /** A pair may cost one less, as much as, or one more than to delete and to create. */
    private static void pairsAtTheSameCost() {
        int[] least = {5, 6, 6, 6};
        for (int more = -1; more <= 2; more++) {
            DiskImageDiff unmatched = ofNodes("file a 1 1;", "file b 2 2;");
            unmatched.setCost(6, 3 + more);
            Kit.same("an unmatched pair", unmatched.fileCost(), 6);
            Kit.same("an unmatched pair at best", unmatched.leastFileCost(), least[more + 1]);
            DiskImageDiff matched = ofNodes("file a 1 1;", "file b 1 2 attr 1;");
            matched.setCost(6, 3 + more);
            Kit.same("a matched pair", matched.fileCost(), 6 + more);
            Kit.same("a matched pair at best", matched.leastFileCost(), least[more + 1]);
        }
    }

    private static void costsOfFilesAtTheEnds() {
        DiskImageDiff x = ofNodes("dir d 1{file a 2 1;}file u 8 8;", "dir e 1{}file b 3 2 attr 7;file v 9 9;");
        for (int cost : new int[] {0, 1, 99}) {
            for (int kind = 0; kind <= 10; kind++) {
                x.setCost(kind, cost);
            }
            Kit.same("two old and two new files at " + cost, x.fileCost(), 4 * cost);
            Kit.same("two old and two new files at best at " + cost, x.leastFileCost(), 4 * cost);
        }
        x.setCost(4, 0);
        x.setCost(9, 0);
        Kit.same("free to delete and to create", x.leastFileCost() + x.fileCost(), 0);
        for (int kind = 0; kind <= 10; kind++) {
            x.setCost(kind, kind == 4 || kind == 9 ? 99 : 0);
        }
        Kit.same("free to change", x.leastFileCost(), 0);
        Kit.same("but nothing is matched", x.fileCost(), 396);
        DiskImageDiff full = ofNodes(files(24, 0, " 1;"), files(24, 100, " 2 attr 1;").replace("file ", "file x"));
        for (int kind = 4; kind <= 9; kind++) {
            full.setCost(kind, 99);
        }
        Kit.same("the dearest files", full.fileCost(), 24 * 198);
        Kit.same("the dearest files at best", full.leastFileCost(), 24 * 198);
        full.setCost(8, 0);
        Kit.same("a move, a write and an attribute are dearer still", full.leastFileCost(), 24 * 198);
        full.setCost(7, 0);
        full.setCost(6, 98);
        Kit.same("a move and a write are cheaper", full.leastFileCost(), 24 * 197);
    }

    /** What a question about many files has left counts for nothing in one about fewer. */
    private static void fewerAndMoreFiles() {
        String all = files(24, 0, " 1;");
        for (int count = 0; count <= 24; count++) {
            DiskImageDiff x = ofNodes(all, all);
            Kit.same("24 files alike", x.leastFileCost(), 0);
            Kit.load(x, 1, nodes(files(count, 0, " 1;")));
            Kit.same("24 files and " + count, x.leastFileCost(), 2 * (24 - count));
            Kit.load(x, 0, nodes(""));
            Kit.same("no file and " + count, x.leastFileCost(), 4 * count);
            Kit.load(x, 0, nodes(files(count, 0, " 2;")));
            Kit.same(count + " files, to write each", x.leastFileCost(), 3 * count);
            Kit.load(x, 1, nodes(""));
            Kit.same(count + " files and none", x.leastFileCost(), 2 * count);
            Kit.load(x, 1, nodes(all));
            Kit.same(count + " files and 24", x.leastFileCost(), 3 * count + 4 * (24 - count));
        }
    }
}
