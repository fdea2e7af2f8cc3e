/** The least cost of files where nearly every pair may be assigned, against the model (promises 33 and 34). */
public final class ManyFilesTest {
    private static final int RUNS = 1500;

    private long seed;

    private ManyFilesTest(long seed) {
        this.seed = seed;
    }

    public static void main(String[] args) {
        for (int run = 0; run < RUNS; run++) {
            new ManyFilesTest(run).run();
        }
        Kit.end("ManyFilesTest");
    }

    private int random(int bound) {
        seed = seed * 6364136223846793005L + 1442695040888963407L;
        return (int) ((seed >>> 33) % bound);
    }

    private void run() {
        String oldText = text();
        String newText = text();
        DiskImageDiff differ = Kit.differ(oldText, newText);
        Model model = new Model();
        model.load(0, oldText);
        model.load(1, newText);
        for (int round = 0; round < 4; round++) {
            for (int kind = 4; kind <= 9; kind++) {
                int cost = random(round == 0 ? 8 : 100);
                differ.setCost(kind, cost);
                model.setCost(kind, cost);
            }
            model.compare();
            Kit.same("leastFileCost of " + oldText + " and " + newText, differ.leastFileCost(), model.leastFileCost());
            Kit.same("fileCost of " + oldText + " and " + newText, differ.fileCost(), model.fileCost());
        }
    }

    /** One or two partitions with two directories each, and files in all of them that are much alike. */
    private String text() {
        StringBuilder text = new StringBuilder("disk 9;");
        int partitions = 1 + random(2);
        for (int p = 0; p < partitions; p++) {
            text.append("partition ").append((char) ('a' + p)).append(' ').append(p).append(" 1{");
            int[] inode = {random(4)};
            int most = 7 / partitions;
            files(text, random(most), inode);
            text.append("dir y ").append(900 + random(2)).append('{');
            files(text, random(most), inode);
            text.append("}dir z ").append(902 + random(2)).append('{');
            files(text, random(most + 1), inode);
            text.append("}}");
        }
        return text.toString();
    }

    private void files(StringBuilder text, int count, int[] inode) {
        int letter = random(3);
        for (int i = 0; i < count; i++) {
            text.append("file ").append((char) ('a' + letter)).append(' ').append(inode[0]).append(' ')
                .append(random(5)).append(random(2) == 0 ? " attr 1;" : ";");
            letter += 1 + random(2);
            inode[0] += 1 + random(2);
        }
    }
}
