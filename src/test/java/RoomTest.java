import java.lang.management.ManagementFactory;

/** A run of 512 calls stays far below the room of LANGUAGE.md: calls make no objects but their exceptions. */
public final class RoomTest {
    private static final int CALLS = 512;

    private static long made() {
        com.sun.management.ThreadMXBean bean = (com.sun.management.ThreadMXBean) ManagementFactory.getThreadMXBean();
        return bean.getThreadAllocatedBytes(Thread.currentThread().getId());
    }

    public static void main(String[] args) {
        StringBuilder text = new StringBuilder("disk 9;partition p 0 9{dir z 99{}");
        for (int i = 0; i < 23; i++) {
            text.append("file ").append((char) ('a' + i)).append(' ').append(i).append(" 0;");
        }
        text.append('}');
        DiskImageDiff x = Kit.differ(text.toString(), text.toString().replace(" 0;", " 1 attr 3;"));
        int sum = 0;
        long before = made();
        for (int i = 0; i < CALLS / 8; i++) {
            x.write(0, 1 + i % 23, i);
            sum += x.leastFileCost();
            x.setAttributes(1, i % 24, i % 8);
            sum += x.costBack();
            x.move(0, 1 + i % 23, i % 2 == 0 ? 0 : -1);
            sum += x.agreement(x.operations());
            sum += x.formatPath(0, 23);
            x.swap();
        }
        long bytes = made() - before;
        Kit.sameText("some answers", String.valueOf(sum > 0), "true");
        Kit.sameText("bytes made by 512 calls (" + bytes + ") are few", String.valueOf(bytes < 65536), "true");
        before = made();
        DiskImageDiff other = new DiskImageDiff();
        bytes = made() - before;
        Kit.same("a new object", other.operations(), 0);
        Kit.sameText("bytes made by a new object (" + bytes + ") are few", String.valueOf(bytes < 65536), "true");
        Kit.end("RoomTest");
    }
}
