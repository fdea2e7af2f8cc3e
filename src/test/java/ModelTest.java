/** Long runs of calls made up by a fixed generator: the program and the model must answer alike. */
public final class ModelTest {
    private static final int RUNS = 1500;

    private long seed;
    private DiskImageDiff differ = new DiskImageDiff();
    private Model model = new Model();
    private final StringBuilder log = new StringBuilder();

    private ModelTest(long seed) {
        this.seed = seed;
    }

    public static void main(String[] args) {
        for (int run = 0; run < RUNS; run++) {
            new ModelTest(run).run();
        }
        Kit.end("ModelTest");
    }

    /** A number from 0 to bound - 1. */
    private int random(int bound) {
        seed = seed * 6364136223846793005L + 1442695040888963407L;
        return (int) ((seed >>> 33) % bound);
    }

    private boolean chance(int percent) {
        return random(100) < percent;
    }

    private void call(String what, Kit.Call program, Kit.Call due) {
        log.append(what).append('\n');
        String got = Kit.outcome(program);
        String want = Kit.outcome(due);
        if (!got.equals(want)) {
            System.out.println(log);
        }
        Kit.sameText(what, got, want);
    }

    private void run() {
        String oldText = text(6 + random(24));
        loadText(0, oldText);
        if (chance(50)) {
            loadText(1, chance(70) ? scatter(oldText) : text(6 + random(24)));
        } else {
            loadText(1, oldText);
            for (int i = random(12); i > 0; i--) {
                change(1);
            }
        }
        askAll();
        for (int round = 0; round < 3; round++) {
            for (int i = 1 + random(4); i > 0; i--) {
                change(random(2));
            }
            if (chance(30)) {
                loadText(random(2), broken(text(random(20))));
            }
            askAll();
        }
    }

    // Texts.

    private String text(int wanted) {
        StringBuilder text = new StringBuilder("disk ").append(40 + random(3)).append(blank()).append(';');
        int partitions = random(5);
        int first = 0;
        for (int p = 0; p < partitions; p++) {
            first += random(4);
            int length = 1 + random(5);
            text.append(blank()).append("partition ").append((char) ('a' + (p * 2 + random(2)))).append(' ').append(first)
                .append(' ').append(length).append(blank()).append('{');
            first += length;
            int[] inode = {random(3)};
            nodes(text, 1, wanted / partitions, inode);
            text.append('}');
        }
        return text.length() > 800 ? text(wanted / 2) : text.toString();
    }

    private String blank() {
        return chance(10) ? chance(50) ? " " : "\n" : "";
    }

    private void nodes(StringBuilder text, int depth, int wanted, int[] inode) {
        for (int i = 0; i < wanted; i++) {
            String head = " " + (char) ('a' + i % 26) + (chance(20) ? "b" : "") + " " + inode[0];
            inode[0] += 1 + random(2);
            String attributes = chance(25) ? " attr " + random(3) : "";
            if (depth < 5 && chance(35)) {
                text.append("dir").append(head).append(attributes).append(blank()).append('{');
                int inside = random(wanted - i);
                nodes(text, depth + 1, inside, inode);
                i += inside;
                text.append('}');
            } else {
                text.append("file").append(head).append(' ').append(random(6)).append(attributes).append(';');
            }
        }
    }

    /** Changes single digits and letters behind blanks; most results are images still. */
    private String scatter(String text) {
        StringBuilder changed = new StringBuilder(text);
        for (int i = random(10); i > 0; i--) {
            int at = random(changed.length());
            char c = changed.charAt(at);
            if (c >= '0' && c <= '9') {
                changed.setCharAt(at, (char) ('0' + random(10)));
            }
            if (at > 0 && c >= 'a' && c <= 'z' && changed.charAt(at - 1) == ' ') {
                changed.setCharAt(at, (char) ('a' + random(26)));
            }
        }
        return changed.toString();
    }

    private String broken(String text) {
        String[] parts = {"}", "{", ";", " 0", " 7 ", "attr 3", " dir z 77{", "file y 78 3;", "partition q 45 1{}", "a",
            "abcdefg", "123456", "!", "\u00e9", "~", " ", "A", "99999", "1000", " file ", "disk", "partition"};
        StringBuilder changed = new StringBuilder(text);
        for (int i = 1 + random(2); i > 0; i--) {
            int at = random(changed.length() + 1);
            int end = Math.min(changed.length(), at + random(3));
            changed.replace(at, end, chance(70) ? parts[random(parts.length)] : "");
        }
        changed.setLength(Math.min(changed.length(), chance(90) ? 800 : random(800)));
        return changed.toString();
    }

    private void loadText(int image, String text) {
        Kit.type(differ, text);
        call("load(" + image + ") of " + text, () -> differ.load(image), () -> model.load(image, text));
        call("errorCode", () -> differ.errorCode(), () -> model.errorCode);
        call("errorPosition", () -> differ.errorPosition(), () -> model.errorPosition);
    }

    // Changes.

    private int anyNode(int image) {
        return random(model.image(image, 2) + 2) - 1;
    }

    private void change(int image) {
        int node = anyNode(image);
        int other = anyNode(image) - (chance(5) ? 1 : 0);
        int name = chance(90) ? 1 + random(26) : chance(50) ? 28 + random(60) : random(400000000);
        int content = chance(90) ? random(6) : random(12000) - 1000;
        int attributes = random(10) - 1;
        int kind = random(11);
        int cost = chance(80) ? random(12) : random(104) - 2;
        switch (random(9)) {
            case 0 -> call("rename " + image + " " + node + " " + name, () -> differ.rename(image, node, name),
                () -> model.rename(image, node, name));
            case 1 -> call("write " + image + " " + node + " " + content, () -> differ.write(image, node, content),
                () -> model.write(image, node, content));
            case 2 -> call("setAttributes " + image + " " + node + " " + attributes,
                () -> differ.setAttributes(image, node, attributes),
                () -> model.setAttributes(image, node, attributes));
            case 3 -> call("remove " + image + " " + node, () -> differ.remove(image, node),
                () -> model.remove(image, node));
            case 4 -> call("swap", this::swap, () -> model.swap());
            case 5 -> call("setCost " + kind + " " + cost, () -> differ.setCost(kind, cost),
                () -> model.setCost(kind, cost));
            default -> call("move " + image + " " + node + " " + other, () -> differ.move(image, node, other),
                () -> model.move(image, node, other));
        }
    }

    private double swap() {
        differ.swap();
        return 0;
    }

    // Questions.

    private void askAll() {
        model.compare();
        for (int image = 0; image < 2; image++) {
            askImage(image);
        }
        askIdentity();
        askScript();
        call("leastFileCost", () -> differ.leastFileCost(), () -> model.leastFileCost());
        call("fileCost", () -> differ.fileCost(), () -> model.fileCost());
        call("costBack", () -> differ.costBack(), () -> model.costBack());
        log.setLength(log.length() > 40000 ? 0 : log.length());
    }

    private void askImage(int image) {
        for (int i = -1; i < 8; i++) {
            int what = i;
            call("image", () -> differ.image(image, what), () -> model.image(image, what));
        }
        for (int i = -1; i < 5; i++) {
            int partition = i;
            int what = random(6) - 1;
            int inode = random(30) - 1;
            call("partition", () -> differ.partition(image, partition, what),
                () -> model.partition(image, partition, what));
            call("byInode", () -> differ.byInode(image, partition, inode),
                () -> model.byInode(image, partition, inode));
        }
        for (int i = -1; i < 25; i++) {
            int node = i;
            for (int j = -1; j < 9; j++) {
                int what = j;
                call("node", () -> differ.node(image, node, what), () -> model.node(image, node, what));
            }
            int index = random(12) - 1;
            call("formatPath", () -> differ.formatPath(image, node), () -> model.formatPath(image, node));
            call("formatted", () -> differ.formatted(index), () -> model.formatted(index));
        }
    }

    private void askIdentity() {
        for (int i = -1; i < 25; i++) {
            int number = i;
            call("matchedPartition", () -> differ.matchedPartition(number), () -> model.matchedPartition(number));
            call("matchedNode", () -> differ.matchedNode(number), () -> model.matchedNode(number));
            call("passOf", () -> differ.passOf(number), () -> model.passOf(number));
            call("matches", () -> differ.matches(number), () -> model.matches(number));
            call("readyAfter", () -> differ.readyAfter(number), () -> model.readyAfter(number));
        }
        call("similarity", () -> differ.similarity(), () -> model.similarity());
    }

    private void askScript() {
        call("operations", () -> differ.operations(), () -> model.operations());
        call("cost", () -> differ.cost(), () -> model.cost());
        for (int i = -1; i <= model.operations() + 1; i++) {
            int operation = i;
            int last = i == 0 ? 4 : 3;
            for (int j = -1; j < last; j++) {
                int what = j;
                call("operation", () -> differ.operation(operation, what), () -> model.operation(operation, what));
            }
            call("present", () -> differ.present(operation), () -> model.present(operation));
            call("agreement", () -> differ.agreement(operation), () -> model.agreement(operation));
            call("operationsOf", () -> differ.operationsOf(operation), () -> model.operationsOf(operation));
        }
    }
}
