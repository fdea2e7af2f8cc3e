/** IMAGES and TEXTS of the document, sentence by sentence: the last text that is fine and the first that is not. */
public final class TextEdgesTest {
    private static final String DEEP = "disk 1;partition p 0 1{dir a 1{dir a 2{dir a 3{dir a 4{";

    public static void main(String[] args) {
        emptyTexts();
        bufferLimit();
        longestError();
        sizes();
        partitionCount();
        partitionOrder();
        insideTheImage();
        besideOthers();
        firstSectorsAndLengths();
        nodeCount();
        nodeCountOverPartitions();
        depths();
        inodes();
        inodesAlike();
        contents();
        attributes();
        nameLengths();
        nameLetters();
        labelsAlike();
        namesAlike();
        numberLengths();
        blanks();
        everyByteBetweenTokens();
        everyByteAsName();
        everyByteAsNumber();
        everyByteAsSymbol();
        longestTokens();
        everyTokenEverywhere();
        keywordLetters();
        keywordsAsNames();
        ends();
        lowestCodeFirst();
        leftmostErrorFirst();
        Kit.end("TextEdgesTest");
    }

    // IMAGES.

    private static void emptyTexts() {
        Kit.wrongAt(1, "|");
        Kit.wrongAt(1, " |");
        Kit.wrongAt(1, "\n|");
        Kit.accepted("disk 1;", 0);
        Kit.accepted("disk 1;partition p 0 1{}", 0);
        Kit.accepted("disk 1;partition p 0 1{dir d 0{}}", 1);
        Kit.accepted("disk 1;partition p 0 1{file d 0 0;}", 1);
    }

    /** A text of all 800 bytes is read; the last byte counts. */
    private static void bufferLimit() {
        String text = "disk 7;";
        Kit.accepted(text + Kit.repeat(" ", 793), 0);
        Kit.accepted(Kit.repeat("\n", 793) + text, 0);
        DiskImageDiff x = new DiskImageDiff();
        Kit.type(x, Kit.repeat(" ", 793) + text);
        Kit.state("byte 801", () -> x.append(0, 0, 0, 0, 0));
        Kit.same("a text of 800 bytes", x.load(0), 0);
        Kit.same("its size", x.image(0, 0), 7);
    }

    private static void longestError() {
        String text = "disk 7;";
        Kit.wrongAt(1, text + Kit.repeat(" ", 792) + "|;");
        Kit.wrongAt(1, Kit.repeat(" ", 794) + "disk 7|");
        Kit.wrongAt(1, Kit.repeat(" ", 800) + "|");
        Kit.wrongAt(1, "|" + Kit.repeat("a", 800));
        Kit.wrongAt(1, "disk |" + Kit.repeat("7", 795));
        Kit.wrongAt(1, text + "partition |" + Kit.repeat("z", 783));
    }

    private static void sizes() {
        Kit.wrongAt(2, "disk |0;");
        Kit.wrongAt(2, "disk |00000;");
        Kit.wrongAt(1, "disk |100000;");
        sized("1", 1);
        sized("00002", 2);
        sized("99998", 99998);
        sized("99999", 99999);
    }

    private static void sized(String digits, int size) {
        DiskImageDiff x = Kit.differ("disk " + digits + ";", "disk 5;");
        Kit.same("size " + digits, x.image(0, 0), size);
        Kit.same("free sectors of size " + digits, x.image(0, 6), size);
    }

    private static String partitions(int count) {
        StringBuilder text = new StringBuilder("disk 9;");
        for (int i = 0; i < count; i++) {
            text.append("partition ").append((char) ('a' + i)).append(' ').append(i).append(" 1{}");
        }
        return text.toString();
    }

    private static void partitionCount() {
        for (int count = 0; count <= 4; count++) {
            DiskImageDiff x = Kit.differ(partitions(count), "disk 1;");
            Kit.same("partitions", x.image(0, 1), count);
            Kit.same("free sectors", x.image(0, 6), 9 - count);
        }
        Kit.wrongAt(5, partitions(4) + "|partition e 4 1{}");
        Kit.wrongAt(5, partitions(4) + "|partition");
        Kit.wrongAt(5, partitions(4) + " \n|partition a 0 0{");
        Kit.wrongAt(1, partitions(4) + "|partitions");
        Kit.wrongAt(1, partitions(4) + "|file");
        Kit.wrongAt(1, partitions(3) + "partition d 3 1{|partition e 4 1{}}");
    }

    /** Partitions are numbered as they stand in the text, not by their sectors. */
    private static void partitionOrder() {
        DiskImageDiff x = Kit.differ("disk 9;partition c 6 1{}partition a 0 2{}partition b 3 3{}", "disk 1;");
        int[] first = {6, 0, 3};
        for (int i = 0; i < 3; i++) {
            Kit.same("first sector of partition " + i, x.partition(0, i, 1), first[i]);
            Kit.same("length of partition " + i, x.partition(0, i, 2), i + 1);
        }
    }

    private static void insideTheImage() {
        Kit.accepted("disk 1;partition p 0 1{}", 0);
        Kit.wrongAt(6, "disk 1;partition p 0 |2{}");
        Kit.wrongAt(6, "disk 1;partition p 1 |1{}");
        Kit.accepted("disk 9;partition p 8 1{}", 0);
        Kit.wrongAt(6, "disk 9;partition p 8 |2{}");
        Kit.wrongAt(6, "disk 9;partition p 9 |1{}");
        Kit.accepted("disk 99999;partition p 0 99999{}", 0);
        Kit.wrongAt(6, "disk 99998;partition p 0 |99999{}");
        Kit.accepted("disk 99999;partition p 99998 1{}", 0);
        Kit.wrongAt(6, "disk 99999;partition p 99998 |2{}");
        Kit.wrongAt(6, "disk 99999;partition p 1 |99999{}");
        Kit.wrongAt(6, "disk 99999;partition p 99999 |99999{}");
    }

    private static void besideOthers() {
        String middle = "disk 9;partition a 3 3{}partition b ";
        Kit.accepted(middle + "0 3{}", 0);
        Kit.wrongAt(6, middle + "0 |4{}");
        Kit.wrongAt(6, middle + "2 |2{}");
        Kit.accepted(middle + "2 1{}", 0);
        Kit.accepted(middle + "6 3{}", 0);
        Kit.accepted(middle + "6 1{}", 0);
        Kit.wrongAt(6, middle + "6 |4{}");
        Kit.wrongAt(6, middle + "5 |1{}");
        Kit.wrongAt(6, middle + "5 |4{}");
        Kit.wrongAt(6, middle + "3 |1{}");
        Kit.wrongAt(6, middle + "4 |1{}");
        Kit.wrongAt(6, middle + "3 |3{}");
        Kit.wrongAt(6, middle + "0 |9{}");
        String ends = "disk 9;partition a 0 2{}partition b 7 2{}partition c ";
        Kit.accepted(ends + "2 5{}", 0);
        Kit.wrongAt(6, ends + "2 |6{}");
        Kit.wrongAt(6, ends + "1 |6{}");
        Kit.accepted(ends + "2 4{}partition d 6 1{}", 0);
        Kit.wrongAt(6, ends + "2 4{}partition d 6 |2{}");
        Kit.wrongAt(6, ends + "2 4{}partition d 5 |2{}");
    }

    private static void firstSectorsAndLengths() {
        Kit.accepted("disk 9;partition p 00000 00001{}", 0);
        Kit.wrongAt(2, "disk 9;partition p 0 |0{}");
        Kit.wrongAt(2, "disk 9;partition p 0 |00000{}");
        Kit.wrongAt(6, "disk 9;partition p 99999 |1{}");
        Kit.wrongAt(1, "disk 9;partition p |100000 1{}");
        Kit.wrongAt(6, "disk 9;partition p 0 |99999{}");
        Kit.wrongAt(1, "disk 9;partition p 0 |100000{}");
        DiskImageDiff x = Kit.differ("disk 99999;partition p 0 99998{}partition q 99998 1{}", "disk 1;");
        Kit.same("greatest length", x.partition(0, 0, 2), 99998);
        Kit.same("greatest first sector", x.partition(0, 1, 1), 99998);
        Kit.same("no free sector", x.image(0, 6), 0);
    }

    private static String files(int count, int firstInode) {
        StringBuilder text = new StringBuilder();
        for (int i = 0; i < count; i++) {
            text.append("file ").append((char) ('a' + i)).append(' ').append(firstInode + i).append(" 0;");
        }
        return text.toString();
    }

    private static void nodeCount() {
        String open = "disk 9;partition p 0 9{";
        Kit.accepted(open + files(23, 0) + "}", 23);
        Kit.accepted(open + files(24, 0) + "}", 24);
        Kit.wrongAt(5, open + files(24, 0) + "|file z 99 0;}");
        Kit.wrongAt(5, open + files(24, 0) + "|dir z 99{}}");
        Kit.wrongAt(5, open + files(24, 0) + " \n|file");
        Kit.wrongAt(1, open + files(24, 0) + "|files");
        Kit.wrongAt(1, open + files(24, 0) + "|attr");
        Kit.accepted(open + files(23, 0) + "dir z 99{}}", 24);
        Kit.wrongAt(5, open + files(23, 0) + "dir z 99{|file a 98 0;}}");
        Kit.wrongAt(5, open + files(23, 0) + "dir z 99{|dir a 98{}}}");
        Kit.accepted(open + "dir z 99{" + files(23, 0) + "}}", 24);
        Kit.wrongAt(5, open + "dir z 99{" + files(23, 0) + "}|dir y 98{}}");
    }

    /** The limit of 24 is one of the image, not of each partition. */
    private static void nodeCountOverPartitions() {
        String six = files(6, 0);
        String text = "disk 9;partition p 0 1{" + six + "}partition q 1 1{" + six + "}partition r 2 1{" + six
            + "}partition s 3 1{" + six;
        Kit.accepted(text + "}", 24);
        Kit.wrongAt(5, text + "|file z 99 0;}");
        String full = "disk 9;partition p 0 1{" + files(24, 0) + "}partition q 1 1{";
        Kit.accepted(full + "}", 24);
        Kit.wrongAt(5, full + "|file a 1 1;}");
        Kit.wrongAt(5, full + "|dir a 1{}}");
        DiskImageDiff x = Kit.differ(text + "}", full + "}");
        Kit.same("a full image beside a full one", x.image(0, 2) + x.image(1, 2), 48);
    }

    private static void depths() {
        Kit.accepted(DEEP + "}}}}}", 4);
        Kit.accepted(DEEP + "dir a 5{}}}}}}", 5);
        Kit.accepted(DEEP + "file a 5 0;}}}}}", 5);
        Kit.accepted(DEEP + "dir a 5{}dir b 6{}file c 7 0;}}}}}", 7);
        Kit.wrongAt(5, DEEP + "dir a 5{|dir a 6{}}}}}}}");
        Kit.wrongAt(5, DEEP + "dir a 5{|file a 6 0;}}}}}}");
        Kit.wrongAt(5, DEEP + "dir a 5{}dir b 6{|file");
        Kit.wrongAt(1, DEEP + "dir a 5{|attr");
        Kit.accepted(DEEP + "dir a 5{}}}}}" + "dir b 6{dir b 7{dir b 8{dir b 9{dir b 10{}}}}}}", 10);
        String next = DEEP.replace("disk 1;", "disk 2;") + "dir a 5{}}}}}}partition q 1 1{";
        Kit.accepted(next + "dir a 1{dir a 2{dir a 3{dir a 4{file a 5 0;}}}}}", 10);
        Kit.wrongAt(5, next + "dir a 1{dir a 2{dir a 3{dir a 4{dir a 5{|file a 6 0;}}}}}}");
        DiskImageDiff x = Kit.differ(DEEP + "dir a 5{}}}}}}", "disk 1;");
        Kit.same("greatest depth", x.image(0, 5), 5);
        Kit.same("depth of the deepest", x.node(0, 4, 6), 5);
        Kit.same("depth of a root's child", x.node(0, 0, 6), 1);
    }

    private static void inodes() {
        Kit.accepted("disk 9;partition p 0 9{file a 0 0;dir b 999{}}", 2);
        Kit.accepted("disk 9;partition p 0 9{dir a 00000{}file b 00999 0;}", 2);
        Kit.wrongAt(2, "disk 9;partition p 0 9{file a |1000 0;}");
        Kit.wrongAt(2, "disk 9;partition p 0 9{dir a |1000{}}");
        Kit.wrongAt(2, "disk 9;partition p 0 9{dir a |99999{}}");
    }

    private static void inodesAlike() {
        String open = "disk 9;partition p 0 1{";
        Kit.wrongAt(4, open + "file a 7 0;file b |7 0;}");
        Kit.wrongAt(4, open + "dir a 7{}dir b |007{}}");
        Kit.wrongAt(4, open + "dir a 7{file b |7 0;}}");
        Kit.wrongAt(4, open + "dir a 1{file b 7 0;}dir c 2{dir d |7{}}}");
        Kit.wrongAt(4, open + "file a 0 0;file b 1 0;file c |0 0;}");
        Kit.wrongAt(4, open + "file a 999 0;file b |999 0;}");
        Kit.accepted(open + "file a 7 0;dir b 8{file c 9 0;}}", 3);
        Kit.accepted(open + "file a 7 0;}partition q 1 1{file a 7 0;}", 2);
        Kit.wrongAt(4, open + "file a 7 0;}partition q 1 1{file a 7 0;file b |7 0;}");
    }

    private static void contents() {
        DiskImageDiff x = Kit.differ("disk 9;partition p 0 9{file a 1 0;file b 2 9999;file c 3 09999;}", "disk 1;");
        Kit.same("least content", x.node(0, 0, 2), 0);
        Kit.same("greatest content", x.node(0, 1, 2), 9999);
        Kit.wrongAt(2, "disk 9;partition p 0 9{file a 1 |10000;}");
        Kit.wrongAt(2, "disk 9;partition p 0 9{file a 1 |99999;}");
        Kit.wrongAt(1, "disk 9;partition p 0 9{file a 1 |010000;}");
    }

    private static void attributes() {
        DiskImageDiff x = Kit.differ(
            "disk 9;partition p 0 9{file a 1 1 attr 0;file b 2 1 attr 7;file c 3 1;dir d 4 attr 00007{}dir e 5{}}", "disk 1;");
        int[] due = {0, 7, 0, 7, 0};
        for (int i = 0; i < due.length; i++) {
            Kit.same("attributes of node " + i, x.node(0, i, 3), due[i]);
        }
        Kit.wrongAt(2, "disk 9;partition p 0 9{file a 1 1 attr |8;}");
        Kit.wrongAt(2, "disk 9;partition p 0 9{dir a 1 attr |8{}}");
        Kit.wrongAt(2, "disk 9;partition p 0 9{dir a 1 attr |99999{}}");
    }

    private static void nameLengths() {
        Kit.accepted("disk 9;partition a 0 9{dir a 1{}file b 2 0;}", 2);
        Kit.accepted("disk 9;partition abcdef 0 9{dir uvwxyz 1{}file zyxwvu 2 0;}", 2);
        Kit.wrongAt(1, "disk 9;partition |abcdefg 0 9{}");
        Kit.wrongAt(1, "disk 9;partition p 0 9{dir |abcdefg 1{}}");
        Kit.wrongAt(1, "disk 9;partition p 0 9{file |abcdefg 1 1;}");
        Kit.wrongAt(1, "disk 9;partition |1 0 9{}");
        Kit.wrongAt(1, "disk 9;partition p 0 9{dir |{}}");
        Kit.wrongAt(1, "disk 9;partition p 0 9{file |1 1;}");
        DiskImageDiff x = Kit.differ("disk 9;partition a 0 1{}partition z 1 1{}partition aa 2 1{}partition zzzzzz 3 1{}",
            "disk 9;partition az 0 1{}partition ba 1 1{}partition aaaaaa 2 1{}partition abcdef 3 1{}");
        int[][] codes = {{1, 26, 28, 387420488}, {53, 55, 14900788, 15473895}};
        for (int image = 0; image < 2; image++) {
            for (int i = 0; i < 4; i++) {
                Kit.same("code of label " + i + " of image " + image, x.partition(image, i, 0), codes[image][i]);
            }
        }
    }

    /** Every letter is a digit of its own, at the first and at the last place of a name. */
    private static void nameLetters() {
        for (char letter = 'a'; letter <= 'z'; letter++) {
            int digit = letter - 'a' + 1;
            DiskImageDiff x = Kit.differ("disk 9;partition " + letter + " 0 9{file " + letter + "aaaaa 1 1;dir q"
                + letter + " 2{}}", "disk 1;");
            Kit.same("label " + letter, x.partition(0, 0, 0), digit);
            Kit.same("name with " + letter + " first", x.node(0, 0, 0), 14900788 + (digit - 1) * 14348907);
            Kit.same("name with " + letter + " last", x.node(0, 1, 0), 17 * 27 + digit);
            Kit.sameText("paths with " + letter, Kit.paths(x, 0), letter + "/" + letter + "aaaaa " + letter + "/q" + letter);
        }
    }

    private static void labelsAlike() {
        for (int like = 0; like < 3; like++) {
            for (int count = like + 1; count < 4; count++) {
                Kit.wrongAt(3, partitions(count) + "partition |" + (char) ('a' + like) + " 8 1{}");
            }
        }
        Kit.accepted(partitions(3) + "partition aa 8 1{}", 0);
        Kit.accepted(partitions(3) + "partition d 8 1{file d 1 1;}", 1);
        Kit.wrongAt(3, "disk 9;partition aaaaaa 0 1{}partition |aaaaaa 1 1{}");
        Kit.accepted("disk 9;partition aaaaaa 0 1{}partition aaaaab 1 1{}partition baaaaa 2 1{}", 0);
    }

    private static void namesAlike() {
        String open = "disk 9;partition p 0 1{";
        Kit.wrongAt(3, open + "file a 1 1;file |a 2 2;}");
        Kit.wrongAt(3, open + "file a 1 1;dir |a 2{}}");
        Kit.wrongAt(3, open + "dir a 1{}file |a 2 2;}");
        Kit.wrongAt(3, open + "dir a 1{file b 2 1;}dir |a 3{}}");
        Kit.wrongAt(3, open + "dir a 1{file b 2 1;dir c 3{}file |b 4 1;}}");
        Kit.wrongAt(3, open + "file zzzzzz 1 1;file |zzzzzz 2 2;}");
        Kit.accepted(open + "file a 1 1;file aa 2 1;file aaa 3 1;dir b 4{}}", 4);
        Kit.accepted(open + "dir a 1{dir a 2{file a 3 1;}}}", 3);
        Kit.accepted(open + "dir a 1{file b 2 1;}file b 3 1;dir c 4{file b 5 1;}}", 5);
        Kit.accepted(open + "file a 1 1;}partition q 1 1{file a 2 1;}", 2);
        Kit.accepted(open + "file p 1 1;}", 1);
    }

    // TEXTS.

    private static void numberLengths() {
        Kit.accepted("disk 00009;partition p 00000 00009{file a 00001 00001 attr 00001;}", 1);
        Kit.wrongAt(1, "disk |000009;");
        Kit.wrongAt(1, "disk 9;partition p |000000 9{}");
        Kit.wrongAt(1, "disk 9;partition p 0 |000009{}");
        Kit.wrongAt(1, "disk 9;partition p 0 9{file a |000001 1;}");
        Kit.wrongAt(1, "disk 9;partition p 0 9{dir a |000001{}}");
        Kit.wrongAt(1, "disk 9;partition p 0 9{file a 1 |000001;}");
        Kit.wrongAt(1, "disk 9;partition p 0 9{file a 1 1 attr |000001;}");
        Kit.wrongAt(1, "disk 9;partition p |0123456789 9{}");
        Kit.wrongAt(1, "disk 9;|123456");
    }

    private static void blanks() {
        Kit.accepted("disk9;partition p0 9{dir a1attr2{file b2 3attr4;}}", 2);
        Kit.accepted(" disk 9 ; partition p 0 9 { dir a 1 attr 2 { file b 2 3 attr 4 ; } } ", 2);
        Kit.accepted("\n\ndisk\n9\n;\npartition\np\n0\n9\n{\ndir\na\n1\nattr\n2\n{\nfile b\n2\n3\n;\n}\n}\n\n", 2);
        Kit.wrongAt(1, "|dis k 9;");
        Kit.wrongAt(1, "disk 9 |9;");
        Kit.wrongAt(1, "disk 9;|part ition p 0 9{}");
        Kit.wrongAt(1, "disk 9;partition a |b 0 9{}");
        Kit.wrongAt(1, "|diskdisk 9;");
        Kit.wrongAt(1, "disk 9;partition p 9|{}");
    }

    private static boolean isBlank(int value) {
        return value == 10 || value == 32;
    }

    /** Behind "disk 9;" only a blank may stand, or the end. */
    private static void everyByteBetweenTokens() {
        for (int value = 0; value < 256; value++) {
            if (isBlank(value)) {
                Kit.accepted("disk 9;" + (char) value, 0);
                Kit.accepted("disk" + (char) value + "9;", 0);
                Kit.accepted((char) value + "disk 9;", 0);
            } else {
                Kit.refused("disk 9;" + (char) value, 1, 7);
                boolean word = value >= 'a' && value <= 'z';
                boolean digit = value >= '0' && value <= '9';
                if (!digit) {
                    Kit.refused("disk" + (char) value + "9;", 1, word ? 0 : 4);
                }
                Kit.refused((char) value + "disk 9;", 1, 0);
            }
        }
    }

    private static void everyByteAsName() {
        String before = "disk 9;partition ";
        for (int value = 0; value < 256; value++) {
            String text = before + (char) value + " 0 9{}";
            if (value >= 'a' && value <= 'z') {
                Kit.accepted(text, 0);
            } else {
                Kit.refused(text, 1, before.length() + (isBlank(value) ? 2 : 0));
            }
        }
    }

    private static void everyByteAsNumber() {
        for (int value = 0; value < 256; value++) {
            String text = "disk " + (char) value + ";";
            if (value >= '1' && value <= '9') {
                Kit.accepted(text, 0);
            } else {
                Kit.refused(text, value == '0' ? 2 : 1, isBlank(value) ? 6 : 5);
            }
        }
    }

    private static void everyByteAsSymbol() {
        for (int value = 0; value < 256; value++) {
            boolean passed = isBlank(value) || value >= '0' && value <= '9';
            String disk = "disk 9" + (char) value;
            String open = "disk 9;partition p 0 9" + (char) value;
            String close = "disk 9;partition p 0 9{" + (char) value;
            String end = "disk 9;partition p 0 9{file a 1 1" + (char) value;
            if (value == ';') {
                Kit.accepted(disk, 0);
                Kit.accepted(end + "}", 1);
            } else {
                Kit.refused(disk, 1, passed ? 7 : 6);
                Kit.refused(end, 1, end.length() - (passed ? 0 : 1));
            }
            if (value == '{') {
                Kit.accepted(open + "}", 0);
            } else if (value < '0' || value > '9') {
                Kit.refused(open, 1, open.length() - (passed ? 0 : 1));
            }
            if (value == '}') {
                Kit.accepted(close, 0);
            } else {
                Kit.refused(close, 1, close.length() - (isBlank(value) ? 0 : 1));
            }
        }
    }

    /** A token goes on as long as it can; what could be two tokens is one. */
    private static void longestTokens() {
        Kit.wrongAt(1, "|diskd 9;");
        Kit.wrongAt(1, "disk 9;|partitionp 0 9{}");
        Kit.wrongAt(1, "disk 9;partition p 0 9{|filea 1 1;}");
        Kit.wrongAt(1, "disk 9;partition p 0 9{|dira 1{}}");
        Kit.wrongAt(1, "disk 9;partition p 0 9{file a 1 1 |attrb 1;}");
        Kit.wrongAt(1, "disk 9;partition p 0 9{file a 1 1 |att 1;}");
        Kit.wrongAt(1, "disk 9;partition p 0 9{file a 11|;}");
        Kit.wrongAt(1, "disk 9;partition p 09|{}");
        Kit.wrongAt(1, "disk |123456;");
    }

    /** A token for each place of the grammar, behind the same tokens as in the text that is fine. */
    private static void everyTokenEverywhere() {
        String[] fine = ("disk 9 ; partition p 0 9 { dir d 1 attr 2 { } dir e 2 { } file f 3 4 attr 5 ; file g 6 7 ; }"
            + " partition q 9 1 { }").replace("disk 9", "disk 10").split(" ");
        String names = " disk dir file attr abc ";
        String[] allowed = {" disk ", " 7 ", " ; ", " partition ", names, " 7 ", " 7 ", " { ", " dir file } ", names, " 7 ",
            " attr { ", " 7 ", " { ", " dir file } ", " dir file } ", names, " 7 ", " attr { ", " dir file } ", " dir file } ",
            names, " 7 ", " 7 ", " attr ; ", " 7 ", " ; ", " dir file } ", names, " 7 ", " 7 ", " attr ; ", " dir file } ",
            " partition ", names, " 7 ", " 7 ", " { ", " dir file } ", " partition "};
        String[] tokens = {"disk", "partition", "dir", "file", "attr", "abc", "abcdefg", "7", "123456", ";", "{", "}", "!", "A"};
        Kit.same("places", allowed.length, fine.length + 1);
        Kit.accepted(String.join(" ", fine), 4);
        String before = "";
        for (int place = 0; place <= fine.length; place++) {
            String rest = String.join(" ", java.util.Arrays.asList(fine).subList(place, fine.length));
            String next = rest.indexOf(' ') < 0 ? "" : rest.substring(rest.indexOf(' ') + 1);
            for (String token : tokens) {
                if (!allowed[place].contains(" " + token + " ")) {
                    Kit.refused(before + token, 1, before.length());
                    Kit.refused(before + token + " " + rest, 1, before.length());
                    Kit.refused(before + token + " " + next, 1, before.length());
                }
            }
            before += place < fine.length ? fine[place] + " " : "";
        }
    }

    private static void keywordLetters() {
        String[] marked = {"|disk 9;", "disk 9;|partition p 0 9{}", "disk 9;partition p 0 9{|dir d 1{}}",
            "disk 9;partition p 0 9{|file f 1 1;}", "disk 9;partition p 0 9{dir d 1 |attr 1{}}",
            "disk 9;partition p 0 9{file f 1 1 |attr 1;}"};
        for (String text : marked) {
            int bar = text.indexOf('|');
            String whole = text.replace("|", "");
            for (int at = bar; Character.isLetter(whole.charAt(at)); at++) {
                String before = whole.substring(0, at);
                String behind = whole.substring(at + 1);
                Kit.refused(before + (char) (whole.charAt(at) + 1) + behind, 1, bar);
                Kit.refused(before + Character.toUpperCase(whole.charAt(at)) + behind, 1, bar);
                Kit.refused(before + behind, 1, bar);
            }
        }
    }

    private static void keywordsAsNames() {
        Kit.accepted("disk 9;partition disk 0 1{}partition file 1 1{}partition dir 2 1{}partition attr 3 1{}", 0);
        Kit.accepted("disk 9;partition p 0 9{file file 1 1;dir dir 2{}dir attr 3 attr 3{}file disk 4 4;}", 4);
        Kit.wrongAt(1, "disk 9;partition |partition 0 9{}");
        Kit.wrongAt(1, "disk 9;partition p 0 9{file |partition 1 1;}");
    }

    /** The end has the length of the text as its position, blanks at the end being part of it. */
    private static void ends() {
        String[] tokens = "disk 9 ; partition p 0 9 { dir a 1 attr 2 { file b 2 3 attr 4 ; } }".split(" ");
        String part = "";
        for (int count = 0; count <= tokens.length; count++) {
            if (count == 3 || count == tokens.length) {
                Kit.accepted(part, count == 3 ? 0 : 2);
            } else {
                Kit.refused(part, 1, part.length());
                Kit.refused(part + " ", 1, part.length() + 1);
                Kit.refused(part + "\n \n", 1, part.length() + 3);
            }
            part += count < tokens.length ? " " + tokens[count] : "";
        }
    }

    private static void lowestCodeFirst() {
        // Of a wrong length the range comes before the place.
        Kit.wrongAt(2, "disk 9;partition p 9 |0{}");
        Kit.wrongAt(2, "disk 9;partition p 3 3{}partition q 4 |0{}");
        // What is no label or name is no like of another one, what is no number has no range.
        Kit.wrongAt(1, "disk 9;partition abcdef 0 1{}partition |abcdefg 1 1{}");
        Kit.wrongAt(1, "disk 9;partition p 0 9{file a 1 |100000;}");
        Kit.wrongAt(2, "disk 9;partition p 0 9{file a 1 1;file b |1001 1;}");
    }

    private static void leftmostErrorFirst() {
        Kit.wrongAt(2, "disk |0;;");
        Kit.wrongAt(6, "disk 5;partition p 0 |6 6");
        Kit.wrongAt(6, "disk 5;partition p 5 |1{}partition p 0 1{}");
        Kit.wrongAt(3, "disk 5;partition p 0 1{}partition |p 0 0{}");
        Kit.wrongAt(3, "disk 5;partition p 0 1{file a 1 1;file |a 1 10000;}");
        Kit.wrongAt(4, "disk 5;partition p 0 1{file a 1 1;file b |1 10000;}");
        Kit.wrongAt(4, "disk 5;partition p 0 1{file a 1 1;dir b |1 attr 8{}}");
        Kit.wrongAt(2, "disk 5;partition p 0 1{file a |1000 10000 attr 8;}");
        Kit.wrongAt(2, "disk 5;partition p 0 1{file a 1 |10000 attr 8;}");
        Kit.wrongAt(1, "disk 5;partition p 0 1{file a 1 1 |2 attr 8;}");
        Kit.wrongAt(1, "disk 5;partition p 0 1{file a 1 1 |!file a 1 1;}");
        Kit.wrongAt(5, partitions(4) + "|partition a 0 0{!");
        Kit.wrongAt(1, partitions(4) + "|! partition");
    }
}
