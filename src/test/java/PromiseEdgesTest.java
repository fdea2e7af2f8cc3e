/** Each promise at the ends of what it may be asked: the last value that is allowed and the first that is not. */
public final class PromiseEdgesTest {
    private static final String BOUNDS = "IndexOutOfBoundsException";
    private static final String ARGUMENT = "IllegalArgumentException";
    private static final String ABSENT = "NoSuchElementException";
    private static final int ZZZZZZ = 387420488;

    /** Four partitions with 24 nodes in all, down to the depth 5, and no free sector. */
    private static final String FULL = "disk 99999;"
        + "partition a 0 1{dir a 0{dir a 1{dir a 2{dir a 3{file a 4 0;dir b 5{}}}}}}"
        + "partition zzzzzz 1 9{file zzzzzz 999 9999 attr 7;file a 0 0;file b 1 1;file c 2 2;file d 3 3;file e 4 4;}"
        + "partition empty 99998 1{}"
        + "partition most 10 99988{" + twelve() + "}";
    private static final int[] FULL_NODES = {6, 6, 0, 12};

    public static void main(String[] args) {
        newObjects();
        append();
        appendOrder();
        truncate();
        load();
        errors();
        image();
        partition();
        node();
        nodesInside();
        byInode();
        formatPath();
        formatted();
        renameCodes();
        renameNames();
        write();
        setAttributes();
        remove();
        removeAll();
        moveArguments();
        moveToSameParent();
        moveNames();
        moveDepth();
        moveInFullImage();
        swap();
        lastCall();
        Kit.end("PromiseEdgesTest");
    }

    private static String twelve() {
        StringBuilder text = new StringBuilder();
        for (int i = 0; i < 12; i++) {
            text.append("dir ").append((char) ('m' + i)).append(' ').append(100 + i).append("{}");
        }
        return text.toString();
    }

    /** The full image and one without partitions. */
    private static DiskImageDiff full() {
        return Kit.differ(FULL, "disk 1;");
    }

    // Promises 1 to 6.

    private static void newObjects() {
        DiskImageDiff used = full();
        used.setCost(3, 77);
        used.formatPath(0, 0);
        Kit.type(used, "disk 5;");
        DiskImageDiff x = new DiskImageDiff();
        Kit.range("truncate of a new object", 0, 0, BOUNDS, x::truncate);
        Kit.range("formatted of a new object", 0, -1, BOUNDS, x::formatted);
        Kit.range("present of a new object", 0, 0, BOUNDS, x::present);
        Kit.range("agreement of a new object", 0, 0, BOUNDS, x::agreement);
        Kit.range("matchedPartition of a new object", 0, -1, BOUNDS, x::matchedPartition);
        Kit.range("matchedNode of a new object", 0, -1, BOUNDS, x::matchedNode);
        Kit.range("passOf of a new object", 0, -1, BOUNDS, x::passOf);
        Kit.range("readyAfter of a new object", 0, -1, BOUNDS, x::readyAfter);
        Kit.range("operation of a new object", 0, -1, BOUNDS, number -> x.operation(number, 0));
        Kit.noElement("similarity of a new object", x::similarity);
        Kit.same("errorCode of a new object", x.errorCode(), 0);
        Kit.same("errorPosition of a new object", x.errorPosition(), DiskImageDiff.NONE);
        for (int image = 0; image < 2; image++) {
            int asked = image;
            Kit.range("partition of a new object", 0, -1, BOUNDS, number -> x.partition(asked, number, 0));
            Kit.range("node of a new object", 0, -1, BOUNDS, number -> x.node(asked, number, 0));
            Kit.same("size of a new image", x.image(image, 0), 1);
            Kit.same("free sectors of a new image", x.image(image, 6), 1);
            Kit.same("greatest depth of a new image", x.image(image, 5), 0);
        }
        for (int pass = 1; pass <= 5; pass++) {
            Kit.same("matches of a new object", x.matches(pass), 0);
        }
        for (int kind = 0; kind <= 10; kind++) {
            Kit.same("operationsOf of a new object", x.operationsOf(kind), 0);
        }
        int sum = x.operations() + x.cost() + x.costBack() + x.present(0) + x.agreement(0) + x.leastFileCost() + x.fileCost();
        Kit.same("what a new object counts", sum, 0);
        Kit.same("first cost of kind 3", x.setCost(3, 0), 10);
        Kit.argument("load of the empty buffer", () -> x.load(0));
    }

    private static void append() {
        for (int length = 0; length <= 800; length += 20) {
            DiskImageDiff x = new DiskImageDiff();
            for (int i = 0; i < 40; i++) {
                x.append(0x20202020, 0x20202020, 0x20202020, 0x20202020, 0x20202020);
            }
            x.truncate(length);
            if (length <= 780) {
                Kit.same("append to " + length, x.append(-1, -1, -1, -1, -1), length + 20);
                x.truncate(length + 1);
                Kit.argument("load of it", () -> x.load(0));
                Kit.same("where the appended bytes begin", x.errorPosition(), length);
            }
        }
        for (int length = 779; length <= 800; length++) {
            DiskImageDiff x = new DiskImageDiff();
            Kit.type(x, Kit.repeat(" ", length));
            String due = length <= 780 ? String.valueOf(length + 20.0) : "throws.IllegalStateException";
            Kit.sameText("append to " + length, Kit.outcome(() -> x.append(0, 0, 0, 0, 0)), due);
            Kit.same("length after it", x.truncate(length), length);
        }
    }

    /** Each of the 20 bytes has its own place: only the one that begins no token is told. */
    private static void appendOrder() {
        for (int place = 0; place < 20; place++) {
            for (int sign : new int[] {0x00, 0x21, 0x7f, 0x80, 0xff}) {
                int[] words = {0x20202020, 0x20202020, 0x20202020, 0x20202020, 0x20202020};
                int shift = 24 - place % 4 * 8;
                words[place / 4] = words[place / 4] & ~(0xff << shift) | sign << shift;
                DiskImageDiff x = new DiskImageDiff();
                x.append(words[0], words[1], words[2], words[3], words[4]);
                Kit.argument("load with byte " + sign + " at " + place, () -> x.load(1));
                Kit.same("where byte " + sign + " is", x.errorPosition(), place);
                Kit.same("its code", x.errorCode(), 1);
            }
        }
    }

    private static void truncate() {
        for (int length : new int[] {0, 1, 19, 20, 21, 799, 800}) {
            DiskImageDiff x = new DiskImageDiff();
            Kit.type(x, Kit.repeat(" ", length));
            Kit.bounds("truncate to more", () -> x.truncate(length + 1));
            Kit.bounds("truncate to the most", () -> x.truncate(Integer.MAX_VALUE));
            Kit.bounds("truncate to the least", () -> x.truncate(Integer.MIN_VALUE));
            Kit.bounds("truncate below 0", () -> x.truncate(-1));
            Kit.same("truncate to the same", x.truncate(length), length);
            Kit.same("truncate to half", x.truncate(length / 2), length / 2);
            Kit.bounds("truncate to one more", () -> x.truncate(length / 2 + 1));
            Kit.same("truncate to 0", x.truncate(0), 0);
        }
    }

    private static void load() {
        DiskImageDiff x = new DiskImageDiff();
        Kit.range("load", 0, 1, BOUNDS, image -> {
            Kit.type(x, "disk 5;");
            double nodes = x.load(image);
            Kit.bounds("buffer after a load", () -> x.truncate(1));
            return nodes;
        });
        Kit.same("buffer after a wrong image", x.truncate(7), 7);
        Kit.same("its text", x.load(0), 0);
        Kit.same("most nodes", Kit.load(x, 1, FULL), 24);
        Kit.argument("load of the empty buffer", () -> x.load(1));
        Kit.same("the image stays", x.image(1, 2), 24);
        Kit.same("position of its error", x.errorPosition(), 0);
    }

    /** Each code once, then none; a load that is none leaves them. */
    private static void errors() {
        String[] texts = {"disk |;", "disk |0;", "disk 9;partition p 0 1{}partition |p 1 1{}",
            "disk 9;partition p 0 1{dir a 1{dir b |1{}}}",
            "disk 9;partition p 0 1{dir a 1{dir b 2{dir c 3{dir d 4{dir e 5{|dir f 6{}}}}}}}",
            "disk 9;partition p 0 |10{}"};
        DiskImageDiff x = new DiskImageDiff();
        for (int code = 1; code <= 6; code++) {
            String marked = texts[code - 1];
            int position = marked.indexOf('|');
            for (int image = 0; image < 2; image++) {
                int asked = image;
                Kit.argument("load of " + marked, () -> Kit.load(x, asked, marked.replace("|", "")));
                Kit.same("code of " + marked, x.errorCode(), code);
                Kit.same("position of " + marked, x.errorPosition(), position);
            }
            Kit.bounds("a load of no image", () -> x.load(2));
            Kit.same("code after it", x.errorCode(), code);
            Kit.same("position after it", x.errorPosition(), position);
            Kit.load(x, code % 2, "disk 9;");
            Kit.same("code after a good load", x.errorCode(), 0);
            Kit.same("position after a good load", x.errorPosition(), DiskImageDiff.NONE);
        }
    }

    // Promises 7 to 12.

    private static void image() {
        DiskImageDiff x = full();
        Kit.range("image", 0, 1, BOUNDS, image -> x.image(image, 0));
        Kit.range("what of an image", 0, 6, ARGUMENT, what -> x.image(0, what));
        Kit.range("what of an empty image", 0, 6, ARGUMENT, what -> x.image(1, what));
        int[] due = {99999, 4, 24, 17, 7, 5, 0};
        int[] none = {1, 0, 0, 0, 0, 0, 1};
        for (int what = 0; what <= 6; what++) {
            Kit.same("full image " + what, x.image(0, what), due[what]);
            Kit.same("empty image " + what, x.image(1, what), none[what]);
        }
        Kit.load(x, 1, "disk 9;partition p 0 9{dir a 1{dir b 2{}}}");
        Kit.same("no free sector", x.image(1, 6), 0);
        Kit.same("no file", x.image(1, 4), 0);
        Kit.same("depth 2", x.image(1, 5), 2);
        x.remove(1, 1);
        Kit.same("depth 1", x.image(1, 5), 1);
        x.remove(1, 0);
        Kit.same("depth 0", x.image(1, 5), 0);
        Kit.same("a partition without nodes", x.image(1, 1), 1);
    }

    private static void partition() {
        DiskImageDiff x = full();
        Kit.range("image of a partition", 0, 0, BOUNDS, image -> x.partition(image, 0, 0));
        Kit.range("partition", 0, 3, BOUNDS, partition -> x.partition(0, partition, 3));
        Kit.range("partition of none", 0, -1, BOUNDS, partition -> x.partition(1, partition, 3));
        Kit.range("what of a partition", 0, 3, ARGUMENT, what -> x.partition(0, 3, what));
        for (int i = 0; i < 4; i++) {
            Kit.same("nodes of partition " + i, x.partition(0, i, 3), FULL_NODES[i]);
        }
        Kit.same("label a", x.partition(0, 0, 0), 1);
        Kit.same("label zzzzzz", x.partition(0, 1, 0), ZZZZZZ);
        Kit.same("first sector 0", x.partition(0, 0, 1), 0);
        Kit.same("first sector 99998", x.partition(0, 2, 1), 99998);
        Kit.same("length 99988", x.partition(0, 3, 2), 99988);
    }

    private static void node() {
        DiskImageDiff x = full();
        Kit.range("image of a node", 0, 0, BOUNDS, image -> x.node(image, 0, 0));
        Kit.range("node", 0, 23, BOUNDS, node -> x.node(0, node, 0));
        Kit.range("node of none", 0, -1, BOUNDS, node -> x.node(1, node, 0));
        Kit.range("what of a directory", 0, 7, ARGUMENT, what -> x.node(0, 0, what));
        Kit.range("what of a file", 0, 7, ARGUMENT, what -> x.node(0, 4, what));
        int[] deepest = {1, 4, 0, 0, 3, 0, 5, 0};
        int[] empty = {2, 5, -1, 0, 3, 0, 5, 0};
        int[] greatest = {ZZZZZZ, 999, 9999, 7, -1, 1, 1, 0};
        int[] last = {24, 111, -1, 0, -1, 3, 1, 0};
        for (int what = 0; what <= 7; what++) {
            Kit.same("deepest file " + what, x.node(0, 4, what), deepest[what]);
            Kit.same("deepest directory " + what, x.node(0, 5, what), empty[what]);
            Kit.same("file of the greatest values " + what, x.node(0, 6, what), greatest[what]);
            Kit.same("last node " + what, x.node(0, 23, what), last[what]);
        }
        x.remove(0, 23);
        Kit.range("node after a removal", 0, 22, BOUNDS, node -> x.node(0, node, 0));
    }

    /** Nodes in a node at any depth, the next partition's not among them. */
    private static void nodesInside() {
        DiskImageDiff x = full();
        int[] due = {5, 4, 3, 2, 0, 0, 0};
        for (int i = 0; i < due.length; i++) {
            Kit.same("nodes in node " + i, x.node(0, i, 7), due[i]);
            Kit.same("depth of node " + i, x.node(0, i, 6), i < 5 ? i + 1 : i == 5 ? 5 : 1);
        }
        Kit.load(x, 1, "disk 2;partition p 0 1{dir a 1{}}partition q 1 1{dir b 1{dir c 2{}}file d 3 3;}");
        Kit.same("nodes in a", x.node(1, 0, 7), 0);
        Kit.same("nodes in b", x.node(1, 1, 7), 1);
        Kit.load(x, 1, "disk 1;partition p 0 1{dir a 1{" + twelve() + "}}");
        Kit.same("all other nodes", x.node(1, 0, 7), 12);
    }

    private static void byInode() {
        DiskImageDiff x = full();
        Kit.range("inode of the first partition", 0, 5, ABSENT, inode -> x.byInode(0, 0, inode));
        Kit.range("inode of the last partition", 100, 111, ABSENT, inode -> x.byInode(0, 3, inode));
        Kit.range("inode of an empty partition", 0, -1, ABSENT, inode -> x.byInode(0, 2, inode));
        Kit.bounds("partition -1", () -> x.byInode(0, -1, 0));
        Kit.bounds("partition 4", () -> x.byInode(0, 4, 100));
        Kit.bounds("the least partition", () -> x.byInode(0, Integer.MIN_VALUE, 0));
        Kit.bounds("the greatest partition", () -> x.byInode(0, Integer.MAX_VALUE, 0));
        Kit.bounds("partition 0 of none", () -> x.byInode(1, 0, 0));
        Kit.range("image", 0, 0, BOUNDS, image -> x.byInode(image, 0, 0));
        Kit.same("inode 999", x.byInode(0, 1, 999), 6);
        Kit.same("inode 0", x.byInode(0, 1, 0), 7);
        Kit.same("inode 111", x.byInode(0, 3, 111), 23);
        Kit.noElement("inode 998", () -> x.byInode(0, 1, 998));
        Kit.noElement("inode 1000", () -> x.byInode(0, 1, 1000));
        x.remove(0, 6);
        Kit.noElement("a removed inode", () -> x.byInode(0, 1, 999));
    }

    private static void formatPath() {
        DiskImageDiff x = full();
        Kit.range("image", 0, 0, BOUNDS, image -> x.formatPath(image, 0));
        Kit.range("node", 0, 23, BOUNDS, node -> x.formatPath(0, node));
        Kit.range("node of none", 0, -1, BOUNDS, node -> x.formatPath(1, node));
        Kit.same("shortest path", x.formatPath(0, 0), 3);
        Kit.sameText("deepest path", Kit.path(x, 0, 5), "a/a/a/a/a/b");
        Kit.sameText("longest names", Kit.path(x, 0, 6), "zzzzzz/zzzzzz");
    }

    private static void formatted() {
        DiskImageDiff x = full();
        Kit.range("byte of no text", 0, -1, BOUNDS, x::formatted);
        x.formatPath(0, 4);
        Kit.range("byte of a/a/a/a/a/a", 0, 10, BOUNDS, x::formatted);
        x.formatPath(0, 0);
        Kit.range("byte of a/a", 0, 2, BOUNDS, x::formatted);
        Kit.load(x, 1, "disk 1;partition zzzzzz 0 1{dir zzzzzz 1{dir zzzzzz 2{dir zzzzzz 3{dir zzzzzz 4{"
            + "dir zzzzzz 5{}}}}}}");
        Kit.same("longest path", x.formatPath(1, 4), 41);
        Kit.range("byte of the longest path", 0, 40, BOUNDS, x::formatted);
        for (int i = 0; i < 41; i++) {
            Kit.same("byte " + i + " of the longest path", x.formatted(i), i % 7 == 6 ? '/' : 'z');
        }
        x.swap();
        x.remove(0, 0);
        Kit.same("the text stays without its node", x.formatted(40), 'z');
    }

    // Promises 13 to 18.

    private static boolean isName(int code) {
        boolean name = code > 0;
        int letters = 0;
        for (int rest = code; rest > 0; rest /= 27) {
            name = name && rest % 27 != 0;
            letters++;
        }
        return name && letters <= 6;
    }

    /** Around each power of 27, and with a digit 0 at each place but one. */
    private static void renameCodes() {
        long power = 1;
        for (int place = 0; place <= 6; place++) {
            for (long base : new long[] {0, power, 2 * power, 26 * power, ZZZZZZ, ZZZZZZ - power, ZZZZZZ - 26 * power}) {
                renameAround(base);
            }
            power *= 27;
        }
        DiskImageDiff x = Kit.differ("disk 1;partition p 0 1{file a 1 1;}", "disk 1;");
        Kit.argument("the least number", () -> x.rename(0, 0, Integer.MIN_VALUE));
        Kit.argument("the greatest number", () -> x.rename(0, 0, Integer.MAX_VALUE));
        Kit.same("to the last name", x.rename(0, 0, ZZZZZZ), 1);
        Kit.argument("one more", () -> x.rename(0, 0, ZZZZZZ + 1));
        Kit.same("to the first name", x.rename(0, 0, 1), ZZZZZZ);
        Kit.argument("one less", () -> x.rename(0, 0, 0));
        Kit.argument("a code of seven letters", () -> x.rename(0, 0, 27 * 14900788 + 1));
        Kit.same("the name stays", x.node(0, 0, 0), 1);
    }

    private static void renameAround(long base) {
        DiskImageDiff x = Kit.differ("disk 1;partition p 0 1{file a 1 1;}", "disk 1;");
        int previous = 1;
        for (int beside = -2; beside <= 2; beside++) {
            int code = (int) (base + beside);
            String due = isName(code) ? String.valueOf((double) previous) : "throws.IllegalArgumentException";
            Kit.sameText("rename to " + code, Kit.outcome(() -> x.rename(0, 0, code)), due);
            previous = isName(code) ? code : previous;
            Kit.same("name after rename to " + code, x.node(0, 0, 0), previous);
        }
    }

    private static void renameNames() {
        DiskImageDiff x = Kit.differ("disk 2;partition p 0 1{dir a 1{file b 2 2;file c 3 3;}file d 4 4;}"
            + "partition q 1 1{file e 5 5;file f 6 6;}", "disk 1;");
        Kit.range("image", 0, 0, BOUNDS, image -> x.rename(image, 0, 1));
        Kit.range("node", 0, 5, BOUNDS, node -> x.rename(0, node, 20 + node));
        Kit.sameText("all renamed", Kit.paths(x, 0), "p/t p/t/u p/t/v p/w q/x q/y");
        Kit.state("the next child's name", () -> x.rename(0, 1, 22));
        Kit.state("the child's name before", () -> x.rename(0, 2, 21));
        Kit.state("a root's child's name", () -> x.rename(0, 3, 20));
        Kit.state("a root's directory to a file's name", () -> x.rename(0, 0, 23));
        Kit.same("its own name", x.rename(0, 1, 21), 21);
        Kit.same("its parent's name", x.rename(0, 1, 20), 21);
        Kit.same("a name in it", x.rename(0, 0, 22), 20);
        Kit.same("a name of another partition", x.rename(0, 3, 24), 23);
        Kit.same("the label", x.rename(0, 3, 16), 24);
        Kit.sameText("paths", Kit.paths(x, 0), "p/v p/v/t p/v/v p/p q/x q/y");
    }

    private static void write() {
        DiskImageDiff x = full();
        Kit.range("content", 0, 9999, ARGUMENT, content -> x.write(0, 4, content));
        Kit.same("the last content", x.node(0, 4, 2), 9999);
        Kit.same("the content before", x.write(0, 4, 0), 9999);
        Kit.range("image", 0, 0, BOUNDS, image -> x.write(image, 4, 0));
        for (int node = 6; node <= 11; node++) {
            Kit.same("content of file " + node, x.write(0, node, 5), node == 6 ? 9999 : node - 7);
        }
        Kit.state("the directory before the files", () -> x.write(0, 5, 5));
        Kit.state("the directory behind the files", () -> x.write(0, 12, 5));
        Kit.bounds("node 24", () -> x.write(0, 24, 0));
        Kit.bounds("node -1", () -> x.write(0, -1, 0));
        Kit.state("the first directory", () -> x.write(0, 0, 0));
        Kit.state("the last directory", () -> x.write(0, 23, 9999));
        Kit.bounds("a node of an empty image", () -> x.write(1, 0, 0));
    }

    private static void setAttributes() {
        DiskImageDiff x = full();
        Kit.range("attributes of a file", 0, 7, ARGUMENT, attributes -> x.setAttributes(0, 4, attributes));
        Kit.range("attributes of a directory", 0, 7, ARGUMENT, attributes -> x.setAttributes(0, 23, attributes));
        Kit.range("image", 0, 0, BOUNDS, image -> x.setAttributes(image, 0, 3));
        Kit.range("node", 0, 23, BOUNDS, node -> x.setAttributes(0, node, 3));
        Kit.bounds("a node of an empty image", () -> x.setAttributes(1, 0, 0));
        Kit.same("attributes before", x.setAttributes(0, 23, 0), 3);
        Kit.same("attributes after", x.node(0, 23, 3), 0);
    }

    private static void remove() {
        DiskImageDiff x = full();
        Kit.bounds("image -1", () -> x.remove(-1, 0));
        Kit.bounds("image 2", () -> x.remove(2, 0));
        Kit.bounds("node -1", () -> x.remove(0, -1));
        Kit.bounds("node 24", () -> x.remove(0, 24));
        Kit.same("the last node", x.remove(0, 23), 1);
        Kit.bounds("node 23 afterwards", () -> x.remove(0, 23));
        Kit.same("a tree but for its root's first", x.remove(0, 1), 5);
        Kit.same("what is left of its partition", x.partition(0, 0, 3), 1);
        Kit.same("nodes in the directory", x.node(0, 0, 7), 0);
        Kit.same("the next partition's first node", x.node(0, 1, 0), ZZZZZZ);
        Kit.same("the whole rest of a partition", x.remove(0, 0), 1);
        Kit.same("partitions stay", x.image(0, 1), 4);
        Kit.same("nodes left", x.image(0, 2), 17);
    }

    private static void removeAll() {
        DiskImageDiff x = full();
        int left = 24;
        for (int i = 0; i < 24 && left > 0; i++) {
            left -= x.remove(0, 0);
            Kit.same("nodes left", x.image(0, 2), left);
        }
        Kit.same("none left", left, 0);
        Kit.range("remove from an empty image", 0, -1, BOUNDS, node -> x.remove(0, node));
        Kit.same("greatest depth", x.image(0, 5), 0);
        Kit.noElement("similarity", x::similarity);
        Kit.same("24 nodes again", Kit.load(x, 0, FULL), 24);
        Kit.same("a tree of all", Kit.load(x, 1, "disk 1;partition p 0 1{dir a 1{" + twelve() + "}}"), 13);
        Kit.same("removed at once", x.remove(1, 0), 13);
    }

    private static final String MOVES = "disk 2;partition p 0 1{dir a 1{file b 2 2;}dir c 3{}}partition q 1 1{dir d 4{}}";

    private static void moveArguments() {
        DiskImageDiff x = Kit.differ(MOVES, "disk 1;");
        Kit.bounds("image -1", () -> x.move(-1, 0, -1));
        Kit.bounds("image 2", () -> x.move(2, 0, -1));
        Kit.bounds("node -1", () -> x.move(0, -1, -1));
        Kit.bounds("node 4", () -> x.move(0, 4, -1));
        Kit.bounds("parent -2", () -> x.move(0, 0, -2));
        Kit.bounds("parent 4", () -> x.move(0, 0, 4));
        Kit.bounds("the least parent", () -> x.move(0, 0, Integer.MIN_VALUE));
        Kit.bounds("the greatest parent", () -> x.move(0, 0, Integer.MAX_VALUE));
        Kit.bounds("a node of an empty image", () -> x.move(1, 0, -1));
        Kit.argument("a file as parent", () -> x.move(0, 2, 1));
        Kit.argument("the first node of the next partition", () -> x.move(0, 2, 3));
        Kit.argument("the last node of the partition before", () -> x.move(0, 3, 2));
        Kit.argument("the node itself", () -> x.move(0, 0, 0));
        Kit.argument("the file itself", () -> x.move(0, 1, 1));
        Kit.argument("a file in it", () -> x.move(0, 0, 1));
        Kit.sameText("nothing changed", Kit.paths(x, 0), "p/a p/a/b p/c q/d");
        Kit.same("the node behind it", x.move(0, 0, 2), 1);
        Kit.sameText("paths", Kit.paths(x, 0), "p/c p/c/a p/c/a/b q/d");
        Kit.argument("a directory in it", () -> x.move(0, 0, 1));
        Kit.argument("a file deeper in it", () -> x.move(0, 0, 2));
        Kit.same("to the root", x.move(0, 2, -1), 2);
        Kit.sameText("paths", Kit.paths(x, 0), "p/c p/c/a p/b q/d");
        Kit.same("the only node of a partition to its root", x.move(0, 3, -1), 3);
    }

    /** The node's name is no other child's name, and it goes behind its brothers. */
    private static void moveToSameParent() {
        DiskImageDiff x = Kit.differ("disk 2;partition p 0 1{dir a 1{file b 2 2;dir c 3{}file d 4 4;}file e 5 5;}", "disk 1;");
        Kit.same("a first child", x.move(0, 1, 0), 3);
        Kit.sameText("paths", Kit.paths(x, 0), "p/a p/a/c p/a/d p/a/b p/e");
        Kit.same("a last child", x.move(0, 3, 0), 3);
        Kit.sameText("paths", Kit.paths(x, 0), "p/a p/a/c p/a/d p/a/b p/e");
        Kit.same("a root's first child", x.move(0, 0, -1), 1);
        Kit.sameText("paths", Kit.paths(x, 0), "p/e p/a p/a/c p/a/d p/a/b");
        Kit.same("a root's last child", x.move(0, 1, -1), 1);
        Kit.sameText("paths", Kit.paths(x, 0), "p/e p/a p/a/c p/a/d p/a/b");
    }

    private static void moveNames() {
        DiskImageDiff x = Kit.differ("disk 2;partition p 0 1{dir a 1{file b 2 2;dir c 3{file a 6 6;}}file b 4 4;dir d 7{}}"
            + "partition q 1 1{file c 5 5;}", "disk 1;");
        Kit.state("a file's name in a directory", () -> x.move(0, 4, 0));
        Kit.state("a file's name in the root", () -> x.move(0, 1, -1));
        Kit.state("a directory's name in the root", () -> x.move(0, 3, -1));
        Kit.same("a name of another partition's root", x.move(0, 2, -1), 4);
        Kit.sameText("paths", Kit.paths(x, 0), "p/a p/a/b p/b p/d p/c p/c/a q/c");
        Kit.same("a name of another directory", x.move(0, 1, 3), 3);
        Kit.sameText("paths", Kit.paths(x, 0), "p/a p/b p/d p/d/b p/c p/c/a q/c");
        Kit.same("a parent's own name", x.move(0, 5, 0), 1);
        Kit.sameText("paths", Kit.paths(x, 0), "p/a p/a/a p/b p/d p/d/b p/c q/c");
    }

    /** Moves of trees of the heights 1 to 5 to parents of the depths 0 to 5: the sum may be 5. */
    private static void moveDepth() {
        for (int height = 1; height <= 5; height++) {
            for (int depth = 0; depth <= 5; depth++) {
                DiskImageDiff x = Kit.differ("disk 1;partition p 0 1{" + chain('a', depth) + chain('m', height) + "}", "disk 1;");
                int parent = depth - 1;
                int node = depth;
                int moved = height;
                String what = "height " + height + " to depth " + depth;
                if (height + depth <= 5) {
                    Kit.same(what, x.move(0, node, parent), depth);
                    Kit.same(what + ": greatest depth", x.image(0, 5), height + depth);
                    Kit.same(what + ": its depth", x.node(0, node, 6), depth + 1);
                } else {
                    Kit.state(what, () -> x.move(0, node, parent));
                    Kit.same(what + ": greatest depth stays", x.image(0, 5), Math.max(moved, depth));
                }
            }
        }
        DiskImageDiff x = Kit.differ("disk 1;partition p 0 1{" + chain('a', 4) + "file f 90 0;dir g 91{file h 92 0;}}", "disk 1;");
        Kit.state("a file in a directory too deep", () -> x.move(0, 5, 3));
        Kit.same("a file at depth 5", x.move(0, 4, 3), 4);
        Kit.same("a tree of height 4 to the root", x.move(0, 1, -1), 3);
        Kit.sameText("paths", Kit.paths(x, 0), "p/a p/g p/g/h p/b p/b/c p/b/c/d p/b/c/d/f");
    }

    private static String chain(char first, int length) {
        StringBuilder text = new StringBuilder();
        for (int i = 0; i < length; i++) {
            text.append("dir ").append((char) (first + i)).append(' ').append(first + i - 'a').append('{');
        }
        return text.append(Kit.repeat("}", length)).toString();
    }

    /** Every node of 24 to the root and back into a directory; numbers and rows go along. */
    private static void moveInFullImage() {
        for (int node = 0; node < 24; node++) {
            DiskImageDiff x = Kit.differ("disk 1;partition p 0 1{dir y 90{dir z 91{" + files(0) + "}" + files(11) + "}}", "disk 1;");
            int inode = x.node(0, node, 1);
            int name = 28 + node;
            x.rename(0, node, name);
            int size = x.node(0, node, 7) + 1;
            Kit.same("node " + node + " to the root", x.move(0, node, -1), 24 - size);
            Kit.same("its inode", x.node(0, 24 - size, 1), inode);
            Kit.same("its name", x.node(0, 24 - size, 0), name);
            Kit.same("nodes in it", x.node(0, 24 - size, 7), size - 1);
            Kit.same("nodes", x.image(0, 2), 24);
            if (node > 0) {
                Kit.same("node " + node + " back", x.move(0, 24 - size, 0), 24 - size);
                Kit.same("its depth", x.node(0, 24 - size, 6), 2);
                Kit.same("its parent", x.node(0, 24 - size, 4), 0);
            }
        }
    }

    private static String files(int firstInode) {
        StringBuilder text = new StringBuilder();
        for (int i = 0; i < 11; i++) {
            text.append("file ").append((char) ('a' + i)).append(' ').append(firstInode + i).append(" 0;");
        }
        return text.toString();
    }

    private static void swap() {
        DiskImageDiff x = full();
        Kit.argument("an error", () -> Kit.load(x, 0, "disk 0;"));
        x.formatPath(0, 0);
        Kit.type(x, "disk 3;");
        x.setCost(10, 9);
        x.swap();
        Kit.same("sizes", x.image(0, 0), 1);
        Kit.same("sizes", x.image(1, 0), 99999);
        Kit.range("old nodes", 0, -1, BOUNDS, x::matchedNode);
        Kit.range("new nodes", 0, 23, BOUNDS, x::readyAfter);
        Kit.same("the error stays", x.errorCode() * 100 + x.errorPosition(), 205);
        Kit.same("the path stays", x.formatted(2), 'a');
        Kit.same("the costs stay", x.setCost(10, 9), 9);
        Kit.same("the buffer stays", x.load(0), 0);
        Kit.same("loaded in the present old image", x.image(0, 0), 3);
        x.swap();
        x.swap();
        Kit.same("twice is as before", x.image(0, 0), 3);
        Kit.same("twice is as before", x.image(1, 2), 24);
    }

    /** The 512th call is answered as the first one. */
    private static void lastCall() {
        DiskImageDiff x = full();
        int used = (FULL.length() + 19) / 20 + 2 + 1 + 2;
        for (int i = used; i < 511; i++) {
            x.write(0, 4, i);
        }
        Kit.same("call 512", x.write(0, 4, 0), 510);
    }
}
