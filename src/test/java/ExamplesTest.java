/** The constant and the three examples of the document. */
public final class ExamplesTest {
    public static void main(String[] args) {
        Kit.same("NONE", DiskImageDiff.NONE, -1);
        firstExample();
        secondExample();
        thirdExample();
        Kit.end("ExamplesTest");
    }

    private static void firstExample() {
        DiskImageDiff x = new DiskImageDiff();
        Kit.same("1a", x.append(1684632427, 540621680, 1634890857, 1953066862, 543236144), 20);
        Kit.same("1b", x.append(540375910, 1768711456, 2015375648, 842759456, 538976288), 40);
        Kit.same("1c", x.truncate(35), 35);
        Kit.same("1d", x.load(0), 1);
        Kit.same("1e", x.truncate(0), 0);
        Kit.same("1f", x.append(1684632427, 540621680, 1634890857, 1953066862, 543236144), 20);
        Kit.same("1g", x.append(540375910, 1768711456, 2032152864, 859536672, 538976288), 40);
        Kit.same("1h", x.truncate(35), 35);
        Kit.same("1i", x.load(1), 1);
        Kit.same("1j", x.matchedNode(0), 0);
        Kit.same("1k", x.operations(), 2);
        Kit.same("1l", x.cost(), 5);
        Kit.same("1m", x.agreement(1), 1);
    }

    private static void secondExample() {
        DiskImageDiff x = new DiskImageDiff();
        Kit.same("2a", x.append(1684632427, 540621680, 1634890857, 1953066862, 543236144), 20);
        Kit.same("2b", x.append(540375908, 1769087076, 540113789, 1718185061, 543563829), 40);
        Kit.same("2c", x.append(540294013, 538976288, 538976288, 538976288, 538976288), 60);
        Kit.same("2d", x.truncate(44), 44);
        Kit.same("2e", x.load(0), 2);
        Kit.same("2f", x.move(0, 1, 0), 1);
        Kit.same("2g", x.formatPath(0, 1), 5);
        Kit.same("2h", x.operations(), 2);
        Kit.same("2i", x.cost(), 21);
        Kit.same("2j", x.costBack(), 19);
    }

    private static void thirdExample() {
        DiskImageDiff x = new DiskImageDiff();
        Kit.same("3a", x.append(1684632427, 540621680, 1634890857, 1953066862, 543236144), 20);
        Kit.same("3b", x.append(540095099, 2099257376, 538976288, 538976288, 538976288), 40);
        Kit.same("3c", x.truncate(25), 25);
        Kit.argument("3d", () -> x.load(0));
        Kit.same("3e", x.errorCode(), 6);
        Kit.same("3f", x.errorPosition(), 21);
        Kit.same("3g", x.image(0, 1), 0);
    }
}
