/** Promises 1 to 6: a new object, the text buffer, reading texts and their errors. */
public final class TextsTest {
    private static final String FILES_23 = files(23);

    public static void main(String[] args) {
        newObject();
        append();
        truncate();
        truncateInToken();
        load();
        loadKeeps();
        tokens();
        misplacedTokens();
        ranges();
        sameNames();
        sameInodes();
        tooMany();
        space();
        firstError();
        Kit.end("TextsTest");
    }

    private static String files(int count) {
        StringBuilder text = new StringBuilder();
        for (int i = 0; i < count; i++) {
            text.append("file ").append((char) ('a' + i)).append(' ').append(i).append(" 0;");
        }
        return text.toString();
    }

    private static void newObject() {
        DiskImageDiff x = new DiskImageDiff();
        Kit.same("new errorCode", x.errorCode(), 0);
        Kit.same("new errorPosition", x.errorPosition(), -1);
        for (int image = 0; image < 2; image++) {
            int[] due = {1, 0, 0, 0, 0, 0, 1};
            for (int what = 0; what < 7; what++) {
                Kit.same("new image " + what, x.image(image, what), due[what]);
            }
        }
        Kit.same("new operations", x.operations(), 0);
        Kit.same("new cost", x.cost() + x.costBack() + x.leastFileCost() + x.fileCost(), 0);
        Kit.same("new present", x.present(0) + x.agreement(0), 0);
        Kit.bounds("new formatted", () -> x.formatted(0));
        Kit.bounds("new truncate", () -> x.truncate(1));
        Kit.same("new append", x.append(0, 0, 0, 0, 0), 20);
    }

    private static void append() {
        DiskImageDiff x = new DiskImageDiff();
        for (int i = 1; i <= 40; i++) {
            Kit.same("append", x.append(0x20202020, 0x20202020, 0x20202020, 0x20202020, 0x20202020), 20 * i);
        }
        Kit.state("append over 800", () -> x.append(0, 0, 0, 0, 0));
        Kit.same("length after a refused append", x.truncate(800), 800);
        x.truncate(781);
        Kit.state("append over 800 by one", () -> x.append(0, 0, 0, 0, 0));
        x.truncate(780);
        Kit.same("append up to 800", x.append(0, 0, 0, 0, 0), 800);
        x.truncate(780);
        Kit.argument("800 blanks", () -> x.load(0));
        Kit.same("end of the blanks", x.errorPosition(), 780);

        Kit.same("append, first byte highest", x.append(0x6469736b, 0x20313233, 0x34353b0a, 0x80ff00c3, 0), 20);
        Kit.argument("high bytes", () -> x.load(0));
        Kit.same("high byte's code", x.errorCode(), 1);
        Kit.same("high byte's position", x.errorPosition(), 12);
    }

    private static void truncate() {
        DiskImageDiff x = new DiskImageDiff();
        Kit.same("truncate to 0", x.truncate(0), 0);
        Kit.type(x, "disk 57;");
        Kit.bounds("truncate to more", () -> x.truncate(9));
        Kit.bounds("truncate below 0", () -> x.truncate(-1));
        Kit.bounds("truncate to the least", () -> x.truncate(Integer.MIN_VALUE));
        Kit.bounds("truncate to the greatest", () -> x.truncate(Integer.MAX_VALUE));
        Kit.same("truncate to the same", x.truncate(8), 8);
        Kit.same("load after truncate", x.load(0), 0);
        Kit.same("size", x.image(0, 0), 57);
    }

    /** Bytes that were cut off are no part of the text. */
    private static void truncateInToken() {
        truncated("disk 57;", 6, 6);
        truncated("disk 57;", 3, 0);
        truncated("disk 5;partition", 11, 7);
        truncated("disk 5;;", 6, 6);
        truncated("disk 5 ;", 6, 6);
        DiskImageDiff x = new DiskImageDiff();
        Kit.type(x, "disk 5;12345");
        x.truncate(7);
        Kit.same("load without what was cut off", x.load(0), 0);
    }

    private static void truncated(String text, int length, int position) {
        DiskImageDiff x = new DiskImageDiff();
        Kit.type(x, text);
        x.truncate(length);
        Kit.argument("load of " + length + " bytes of " + text, () -> x.load(0));
        Kit.same("code of " + length + " bytes of " + text, x.errorCode(), 1);
        Kit.same("position of " + length + " bytes of " + text, x.errorPosition(), position);
    }

    private static void load() {
        DiskImageDiff x = new DiskImageDiff();
        Kit.same("load", Kit.load(x, 0, "disk 9;partition p 0 4{dir d 1{}file f 2 3;}"), 2);
        Kit.same("load in place of the one before", Kit.load(x, 0, "disk 8;"), 0);
        Kit.same("partitions after", x.image(0, 1), 0);
        Kit.same("load the new one", Kit.load(x, 1, "disk 7; partition q 1 6 { file f 2 3 attr 7; }"), 1);
        Kit.same("old size", x.image(0, 0), 8);
        Kit.same("new size", x.image(1, 0), 7);
        Kit.same("buffer after", x.append(0, 0, 0, 0, 0), 20);
        x.truncate(0);
        Kit.same("deep load", Kit.load(x, 0,
            "disk 1;partition p 0 1{dir a 1{dir a 2{dir a 3{dir a 4{file a 5 1;dir b 6{}}}}}file b 7 1;}"), 7);
        Kit.sameText("its paths", Kit.paths(x, 0),
            "p/a p/a/a p/a/a/a p/a/a/a/a p/a/a/a/a/a p/a/a/a/a/b p/b");
        Kit.same("24 nodes", Kit.load(x, 0, "disk 9;partition p 0 4{" + FILES_23 + "dir z 99{}}"), 24);
        Kit.same("four partitions", Kit.load(x, 0, "disk 9;partition a 6 3{}partition b 0 2{}partition c 2 1{}"
            + "partition d 3 3{}"), 0);
        Kit.same("four partitions", x.image(0, 1), 4);
        Kit.same("extremes", Kit.load(x, 0, "disk 99999;partition zzzzzz 0 99999{file zzzzzz 999 9999 attr 7;"
            + "file a 0 0 attr 0;}"), 2);
    }

    private static void loadKeeps() {
        DiskImageDiff x = new DiskImageDiff();
        Kit.load(x, 0, "disk 9;partition p 0 4{file f 2 3;}");
        Kit.type(x, "disk 5;");
        Kit.bounds("load(2)", () -> x.load(2));
        Kit.bounds("load(-1)", () -> x.load(-1));
        Kit.same("buffer after a wrong image", x.truncate(7), 7);
        x.truncate(4);
        Kit.argument("load of an error", () -> x.load(0));
        Kit.same("error code", x.errorCode(), 1);
        Kit.same("error position", x.errorPosition(), 4);
        Kit.same("the image stays", x.image(0, 0) + x.image(0, 2), 10);
        Kit.bounds("the buffer is empty", () -> x.truncate(1));
        Kit.bounds("load(2) again", () -> x.load(2));
        Kit.same("error code stays", x.errorCode(), 1);
        Kit.same("error position stays", x.errorPosition(), 4);
        Kit.load(x, 1, "disk 6;");
        Kit.same("error code after a good load", x.errorCode(), 0);
        Kit.same("error position after a good load", x.errorPosition(), -1);
        Kit.argument("late error", () -> Kit.load(x, 1, "disk 77;partition p 0 4{file f 2 3;}}"));
        Kit.same("the image stays", x.image(1, 0), 6);
        Kit.same("the image stays", x.image(1, 1), 0);
    }

    private static void tokens() {
        Kit.accepted("disk5;", 0);
        Kit.accepted("  \n disk \n 5 \n ; \n ", 0);
        Kit.accepted("disk00005;partition p00000 00001{dir dir1attr2{}}", 1);
        Kit.accepted("disk 5;partition disk 0 1{file file 1 2;dir dir 3{}file attr 4 5attr 6;}", 3);
        Kit.refused("", 1, 0);
        Kit.refused(" \n ", 1, 3);
        Kit.refused("disks 5;", 1, 0);
        Kit.refused("Disk 5;", 1, 0);
        Kit.refused("disk\t5;", 1, 4);
        Kit.refused("disk 000005;", 1, 5);
        Kit.refused("disk 5;\r", 1, 7);
        Kit.refused("disk 5;partition abcdefg 0 1{}", 1, 17);
        Kit.refused("disk 5;partition p 0 1{file abcdefg 1 1;}", 1, 28);
        Kit.refused("disk 5;partitionp 0 1{}", 1, 7);
        Kit.refused("disk 5;partition a b 0 1{}", 1, 19);
        Kit.refused("disk 5;partition Z 0 1{}", 1, 17);
    }

    private static void misplacedTokens() {
        Kit.refused("partition p 0 1{}", 1, 0);
        Kit.refused("disk ;", 1, 5);
        Kit.refused("disk 5", 1, 6);
        Kit.refused("disk 5 ", 1, 7);
        Kit.refused("disk 5{", 1, 6);
        Kit.refused("disk 5;;", 1, 7);
        Kit.refused("disk 5;disk 5;", 1, 7);
        Kit.refused("disk 5;partition", 1, 16);
        Kit.refused("disk 5;partition 1 0 1{}", 1, 17);
        Kit.refused("disk 5;partition }", 1, 17);
        Kit.refused("disk 5;partition p {}", 1, 19);
        Kit.refused("disk 5;partition p 0 {}", 1, 21);
        Kit.refused("disk 5;partition p 0 1;", 1, 22);
        Kit.refused("disk 5;partition p 0 1{", 1, 23);
        Kit.refused("disk 5;partition p 0 1{}}", 1, 24);
        Kit.refused("disk 5;partition p 0 1{{}}", 1, 23);
        Kit.refused("disk 5;partition p 0 1{attr 1}", 1, 23);
        Kit.refused("disk 5;partition p 0 1{partition q 2 1{}}", 1, 23);
        Kit.refused("disk 5;partition p 0 1{dir d{}}", 1, 28);
        Kit.refused("disk 5;partition p 0 1{dir d 1;}", 1, 30);
        Kit.refused("disk 5;partition p 0 1{dir d 1 1{}}", 1, 31);
        Kit.refused("disk 5;partition p 0 1{dir d 1{}", 1, 32);
        Kit.refused("disk 5;partition p 0 1{dir d 1 attr{}}", 1, 35);
        Kit.refused("disk 5;partition p 0 1{dir d 1 attr 1 attr 1{}}", 1, 38);
        Kit.refused("disk 5;partition p 0 1{file f 1;}", 1, 31);
        Kit.refused("disk 5;partition p 0 1{file f 1 attr 1;}", 1, 32);
        Kit.refused("disk 5;partition p 0 1{file f 1 2{}}", 1, 33);
        Kit.refused("disk 5;partition p 0 1{file f 1 2}", 1, 33);
        Kit.refused("disk 5;partition p 0 1{file f 1 2 attr;}", 1, 38);
        Kit.refused("disk 5;partition p 0 1{file f 1 2 attr 1 2;}", 1, 41);
        Kit.refused("disk 5;partition p 0 1{file f 1 2;;}", 1, 34);
        Kit.refused("disk 5;partition p 0 1{file f 1 2 atrr 1;}", 1, 34);
    }

    private static void ranges() {
        Kit.refused("disk 0;", 2, 5);
        Kit.refused("disk 5;partition p 0 0{}", 2, 21);
        Kit.refused("disk 5;partition p 0 1{dir d 1000{}}", 2, 29);
        Kit.refused("disk 5;partition p 0 1{file f 1000 1;}", 2, 30);
        Kit.refused("disk 5;partition p 0 1{file f 1 10000;}", 2, 32);
        Kit.refused("disk 5;partition p 0 1{file f 1 1 attr 8;}", 2, 39);
        Kit.refused("disk 5;partition p 0 1{dir d 1 attr 8{}}", 2, 36);
        Kit.accepted("disk 5;partition p 0 1{dir d 999 attr 7{}file f 0 9999 attr 7;}", 2);
    }

    private static void sameNames() {
        Kit.refused("disk 5;partition p 0 1{}partition p 1 1{}", 3, 34);
        Kit.refused("disk 5;partition p 0 1{file a 1 1;dir a 2{}}", 3, 38);
        Kit.refused("disk 5;partition p 0 1{dir a 1{}file b 2 1;file a 3 1;}", 3, 48);
        Kit.refused("disk 5;partition p 0 1{dir a 1{file c 2 1;dir c 3{}}}", 3, 46);
        Kit.accepted("disk 5;partition p 0 1{dir p 1{file p 2 1;}}partition q 1 1{file p 1 1;}", 3);
        Kit.accepted("disk 5;partition p 0 1{dir a 1{file c 2 1;}dir b 3{file c 4 1;}}", 4);
        Kit.accepted("disk 5;partition a 0 1{}partition aa 1 1{}partition b 2 1{}", 0);
    }

    private static void sameInodes() {
        Kit.refused("disk 5;partition p 0 1{file a 1 1;dir b 1{}}", 4, 40);
        Kit.refused("disk 5;partition p 0 1{dir a 1{file c 1 1;}}", 4, 38);
        Kit.refused("disk 5;partition p 0 1{dir a 1{file c 2 1;}file d 0002 1;}", 4, 50);
        Kit.accepted("disk 5;partition p 0 1{file a 1 1;}partition q 1 1{file a 1 1;}", 2);
        Kit.refused("disk 5;partition p 0 1{file a 1 1;file a 1 1;}", 3, 39);
    }

    private static void tooMany() {
        String four = "disk 9;partition a 0 1{}partition b 1 1{}partition c 2 1{}partition d 3 1{}";
        Kit.accepted(four, 0);
        Kit.refused(four + "partition", 5, four.length());
        Kit.refused(four + " partition a 0 1{}", 5, four.length() + 1);
        Kit.refused(four + "dir", 1, four.length());
        String full = "disk 9;partition p 0 4{" + FILES_23 + "dir z 99{";
        Kit.accepted(full + "}}", 24);
        Kit.refused(full + "file a 1 1;}}", 5, full.length());
        Kit.refused(full + "}dir a", 5, full.length() + 1);
        Kit.refused(full + "}}partition q 4 1{file", 5, full.length() + 18);
        Kit.refused(full + "attr", 1, full.length());
        String deep = "disk 1;partition p 0 1{dir a 1{dir a 2{dir a 3{dir a 4{dir a 5{";
        Kit.accepted(deep + "}}}}}}", 5);
        Kit.refused(deep + "dir a 1{", 5, deep.length());
        Kit.refused(deep + "file a 1 1;", 5, deep.length());
        Kit.refused(deep + "word", 1, deep.length());
        Kit.accepted(deep + "}file b 6 1;}file b 7 1;}}}}", 7);
    }

    private static void space() {
        Kit.accepted("disk 10;partition p 0 10{}", 0);
        Kit.accepted("disk 10;partition p 9 1{}", 0);
        Kit.refused("disk 10;partition p 0 11{}", 6, 22);
        Kit.refused("disk 10;partition p 9 2{}", 6, 22);
        Kit.refused("disk 10;partition p 10 1{}", 6, 23);
        Kit.refused("disk 99999;partition p 99999 99999{}", 6, 29);
        String middle = "disk 10;partition p 3 3{}partition q ";
        Kit.accepted(middle + "0 3{}", 0);
        Kit.accepted(middle + "6 4{}", 0);
        Kit.refused(middle + "0 4{}", 6, middle.length() + 2);
        Kit.refused(middle + "5 1{}", 6, middle.length() + 2);
        Kit.refused(middle + "4 1{}", 6, middle.length() + 2);
        Kit.refused(middle + "3 3{}", 6, middle.length() + 2);
        Kit.refused(middle + "2 5{}", 6, middle.length() + 2);
        Kit.refused(middle + "0 0{}", 2, middle.length() + 2);
        Kit.refused("disk 10;partition a 0 1{}partition b 4 1{}partition c 1 4{}", 6, 56);
    }

    private static void firstError() {
        Kit.refused("disk 0;partition p 0 0{", 2, 5);
        Kit.refused("disk 5;partition p 0 9{file f 1000 1;}", 6, 21);
        Kit.refused("disk 5;partition p 0 1{}partition p 0 1{}", 3, 34);
        Kit.refused("disk 5;partition p 0 1{file a 1 1;dir a 1{}}", 3, 38);
        Kit.refused("disk 5;partition p 0 1{file a 1 1;dir b 1}", 4, 40);
    }
}
