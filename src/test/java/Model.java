import java.util.ArrayList;
import java.util.HashMap;
import java.util.HashSet;
import java.util.List;
import java.util.Map;
import java.util.NoSuchElementException;
import java.util.Set;

/** The document once more, as plainly as can be and by other means than the program's: trees, maps and replays. */
final class Model {
    static final class Part {
        String label;
        int first;
        int length;
        final Item root = new Item();
    }

    static final class Item {
        String name;
        int inode;
        int content = -1;
        int attributes;
        boolean file;
        Item parent;
        Part part;
        final List<Item> kids = new ArrayList<>();

        int depth() {
            return parent == null ? 0 : parent.depth() + 1;
        }

        String path() {
            return parent == null ? "" : parent.path() + "/" + name;
        }

        List<Item> tree() {
            List<Item> all = new ArrayList<>();
            all.add(this);
            for (Item kid : kids) {
                all.addAll(kid.tree());
            }
            return all;
        }

        Item kid(String wanted) {
            for (Item kid : kids) {
                if (kid.name.equals(wanted)) {
                    return kid;
                }
            }
            return null;
        }
    }

    static final class Disk {
        int size = 1;
        final List<Part> parts = new ArrayList<>();

        List<Item> items() {
            List<Item> all = new ArrayList<>();
            for (Part part : parts) {
                all.addAll(items(part));
            }
            return all;
        }

        static List<Item> items(Part part) {
            List<Item> all = part.root.tree();
            all.remove(0);
            return all;
        }
    }

    record Step(int kind, int oldNumber, int newNumber, Object oldThing, Object newThing) {
    }

    final Disk[] disks = {new Disk(), new Disk()};
    final int[] costs = {20, 1, 5, 10, 4, 2, 3, 1, 1, 2, 1};
    int errorCode = 0;
    int errorPosition = -1;
    private String formatted = "";

    private final Map<Part, Part> partMatch = new HashMap<>();
    private final Map<Item, Item> itemMatch = new HashMap<>();
    private final Map<Item, Integer> passes = new HashMap<>();
    private List<Step> script = new ArrayList<>();

    // Exceptions, each for its own use.

    static RuntimeException bounds() {
        return new IndexOutOfBoundsException();
    }

    private Disk disk(int image) {
        if (image < 0 || image > 1) {
            throw bounds();
        }
        return disks[image];
    }

    private Part part(int image, int partition) {
        Disk disk = disk(image);
        if (partition < 0 || partition >= disk.parts.size()) {
            throw bounds();
        }
        return disk.parts.get(partition);
    }

    private Item item(int image, int node) {
        List<Item> items = disk(image).items();
        if (node < 0 || node >= items.size()) {
            throw bounds();
        }
        return items.get(node);
    }

    // Texts.

    int load(int image, String text) {
        disk(image);
        ModelParser parser = new ModelParser(text);
        Disk disk = parser.disk();
        errorCode = parser.errorCode;
        errorPosition = parser.errorPosition;
        if (disk == null) {
            throw new IllegalArgumentException();
        }
        disks[image] = disk;
        return disk.items().size();
    }

    // Reports.

    int image(int image, int what) {
        Disk disk = disk(image);
        List<Item> items = disk.items();
        int files = (int) items.stream().filter(item -> item.file).count();
        return switch (what) {
            case 0 -> disk.size;
            case 1 -> disk.parts.size();
            case 2 -> items.size();
            case 3 -> items.size() - files;
            case 4 -> files;
            case 5 -> items.stream().mapToInt(Item::depth).max().orElse(0);
            case 6 -> disk.size - disk.parts.stream().mapToInt(part -> part.length).sum();
            default -> throw new IllegalArgumentException();
        };
    }

    int partition(int image, int partition, int what) {
        Part part = part(image, partition);
        return switch (what) {
            case 0 -> Kit.code(part.label);
            case 1 -> part.first;
            case 2 -> part.length;
            case 3 -> Disk.items(part).size();
            default -> throw new IllegalArgumentException();
        };
    }

    int node(int image, int node, int what) {
        Item item = item(image, node);
        return switch (what) {
            case 0 -> Kit.code(item.name);
            case 1 -> item.inode;
            case 2 -> item.content;
            case 3 -> item.attributes;
            case 4 -> disk(image).items().indexOf(item.parent);
            case 5 -> disk(image).parts.indexOf(item.part);
            case 6 -> item.depth();
            case 7 -> item.tree().size() - 1;
            default -> throw new IllegalArgumentException();
        };
    }

    int byInode(int image, int partition, int inode) {
        for (Item item : Disk.items(part(image, partition))) {
            if (item.inode == inode) {
                return disk(image).items().indexOf(item);
            }
        }
        throw new NoSuchElementException();
    }

    int formatPath(int image, int node) {
        Item item = item(image, node);
        formatted = item.part.label + item.path();
        return formatted.length();
    }

    int formatted(int index) {
        if (index < 0 || index >= formatted.length()) {
            throw bounds();
        }
        return formatted.charAt(index);
    }

    // Changes.

    static String nameOf(int code) {
        StringBuilder name = new StringBuilder();
        for (int rest = code; rest > 0; rest /= 27) {
            name.insert(0, (char) ('`' + rest % 27));
        }
        return name.toString();
    }

    int rename(int image, int node, int code) {
        Item item = item(image, node);
        String name = nameOf(code);
        if (!name.matches("[a-z]{1,6}")) {
            throw new IllegalArgumentException();
        }
        Item other = item.parent.kid(name);
        if (other != null && other != item) {
            throw new IllegalStateException();
        }
        int previous = Kit.code(item.name);
        item.name = name;
        return previous;
    }

    int write(int image, int node, int content) {
        Item item = item(image, node);
        if (content < 0 || content > 9999) {
            throw new IllegalArgumentException();
        }
        if (!item.file) {
            throw new IllegalStateException();
        }
        int previous = item.content;
        item.content = content;
        return previous;
    }

    int setAttributes(int image, int node, int attributes) {
        Item item = item(image, node);
        if (attributes < 0 || attributes > 7) {
            throw new IllegalArgumentException();
        }
        int previous = item.attributes;
        item.attributes = attributes;
        return previous;
    }

    int remove(int image, int node) {
        Item item = item(image, node);
        item.parent.kids.remove(item);
        return item.tree().size();
    }

    int move(int image, int node, int parent) {
        Item item = item(image, node);
        Item target = parent == -1 ? item.part.root : item(image, parent);
        if (target.file || target.part != item.part || item.tree().contains(target)) {
            throw new IllegalArgumentException();
        }
        Item other = target.kid(item.name);
        int height = item.tree().stream().mapToInt(Item::depth).max().getAsInt() - item.depth();
        if (other != null && other != item || target.depth() + 1 + height > 5) {
            throw new IllegalStateException();
        }
        item.parent.kids.remove(item);
        target.kids.add(item);
        item.parent = target;
        return disk(image).items().indexOf(item);
    }

    int swap() {
        Disk first = disks[0];
        disks[0] = disks[1];
        disks[1] = first;
        return 0;
    }

    // Identity.

    private interface Alike<T> {
        boolean test(T before, T after, int pass);
    }

    private static <T> void match(List<T> before, List<T> after, int pass, Map<T, T> found, Alike<T> alike) {
        for (T one : before) {
            if (!found.containsKey(one)) {
                for (T other : after) {
                    if (!found.containsValue(other) && alike.test(one, other, pass)) {
                        found.put(one, other);
                        break;
                    }
                }
            }
        }
    }

    private boolean alike(Item a, Item b, int pass) {
        if (a.file != b.file || partMatch.get(a.part) != b.part) {
            return false;
        }
        boolean path = a.path().equals(b.path());
        boolean inode = a.inode == b.inode;
        boolean content = a.file && a.content == b.content;
        return pass == 1 ? path && inode : pass == 2 ? inode : pass == 3 ? path
            : pass == 4 ? content && a.name.equals(b.name) : content;
    }

    /** Works out identity and script anew; to be called before the answers below. */
    void compare() {
        partMatch.clear();
        itemMatch.clear();
        passes.clear();
        for (int pass = 1; pass <= 3; pass++) {
            match(disks[0].parts, disks[1].parts, pass, partMatch, (a, b, p) -> {
                boolean label = a.label.equals(b.label);
                boolean first = a.first == b.first;
                return p == 1 ? label && first : p == 2 ? label : first;
            });
        }
        for (int pass = 1; pass <= 5; pass++) {
            match(disks[0].items(), disks[1].items(), pass, itemMatch, this::alike);
            for (Item item : itemMatch.keySet()) {
                passes.putIfAbsent(item, pass);
            }
        }
        script = writeScript();
    }

    int matchedPartition(int partition) {
        return disks[1].parts.indexOf(partMatch.get(part(0, partition)));
    }

    int matchedNode(int node) {
        return disks[1].items().indexOf(itemMatch.get(item(0, node)));
    }

    int passOf(int node) {
        return passes.getOrDefault(item(0, node), 0);
    }

    int matches(int pass) {
        if (pass < 1 || pass > 5) {
            throw new IllegalArgumentException();
        }
        return (int) passes.values().stream().filter(p -> p == pass).count();
    }

    double similarity() {
        int sum = disks[0].items().size() + disks[1].items().size();
        if (sum == 0) {
            throw new NoSuchElementException();
        }
        int same = 0;
        for (Map.Entry<Item, Item> pair : itemMatch.entrySet()) {
            same += kinds(pair.getKey(), pair.getValue()).isEmpty() ? 1 : 0;
        }
        return 2.0 * same / sum;
    }

    // The script.

    int setCost(int kind, int cost) {
        if (kind < 0 || kind > 10 || cost < 0 || cost > 99) {
            throw new IllegalArgumentException();
        }
        int previous = costs[kind];
        costs[kind] = cost;
        return previous;
    }

    private List<Integer> kinds(Item a, Item b) {
        boolean bothRoots = a.parent.parent == null && b.parent.parent == null && partMatch.get(a.part) == b.part;
        boolean agree = bothRoots || itemMatch.containsKey(a.parent) && itemMatch.get(a.parent) == b.parent;
        List<Integer> kinds = new ArrayList<>();
        if (!agree || !a.name.equals(b.name)) {
            kinds.add(5);
        }
        if (a.file && a.content != b.content) {
            kinds.add(6);
        }
        if (a.attributes != b.attributes) {
            kinds.add(7);
        }
        if (a.inode != b.inode) {
            kinds.add(8);
        }
        return kinds;
    }

    private List<Step> writeScript() {
        List<Step> steps = new ArrayList<>();
        List<Part> oldParts = disks[0].parts;
        List<Part> newParts = disks[1].parts;
        List<Item> oldItems = disks[0].items();
        List<Item> newItems = disks[1].items();
        for (Part a : oldParts) {
            if (!partMatch.containsKey(a)) {
                steps.add(new Step(0, oldParts.indexOf(a), -1, a, null));
            }
        }
        for (Part a : oldParts) {
            Part b = partMatch.get(a);
            if (b != null && !a.label.equals(b.label)) {
                steps.add(new Step(1, oldParts.indexOf(a), newParts.indexOf(b), a, b));
            }
            if (b != null && (a.first != b.first || a.length != b.length)) {
                steps.add(new Step(2, oldParts.indexOf(a), newParts.indexOf(b), a, b));
            }
        }
        for (Part b : newParts) {
            if (!partMatch.containsValue(b)) {
                steps.add(new Step(3, -1, newParts.indexOf(b), null, b));
            }
        }
        for (Item b : newItems) {
            if (!itemMatch.containsValue(b)) {
                steps.add(new Step(4, -1, newItems.indexOf(b), null, b));
            }
        }
        for (Item a : oldItems) {
            Item b = itemMatch.get(a);
            if (b != null) {
                for (int kind : kinds(a, b)) {
                    steps.add(new Step(kind, oldItems.indexOf(a), newItems.indexOf(b), a, b));
                }
            }
        }
        for (int i = oldItems.size() - 1; i >= 0; i--) {
            Item a = oldItems.get(i);
            if (!itemMatch.containsKey(a) && partMatch.containsKey(a.part)) {
                steps.add(new Step(9, i, -1, a, null));
            }
        }
        if (disks[0].size != disks[1].size) {
            steps.add(new Step(10, -1, -1, null, null));
        }
        return steps;
    }

    int operations() {
        return script.size();
    }

    int operation(int operation, int what) {
        if (operation < 0 || operation >= script.size()) {
            throw bounds();
        }
        Step step = script.get(operation);
        return switch (what) {
            case 0 -> step.kind;
            case 1 -> step.oldNumber;
            case 2 -> step.newNumber;
            default -> throw new IllegalArgumentException();
        };
    }

    int operationsOf(int kind) {
        if (kind < 0 || kind > 10) {
            throw new IllegalArgumentException();
        }
        return (int) script.stream().filter(step -> step.kind == kind).count();
    }

    int cost() {
        return script.stream().mapToInt(step -> costs[step.kind]).sum();
    }

    int costBack() {
        swap();
        compare();
        int cost = cost();
        swap();
        compare();
        return cost;
    }

    // Replay.

    private List<Step> done(int operations) {
        if (operations < 0 || operations > script.size()) {
            throw bounds();
        }
        return script.subList(0, operations);
    }

    private Set<Object> presentThings(int operations) {
        Set<Object> present = new HashSet<>(disks[0].parts);
        present.addAll(disks[0].items());
        for (Step step : done(operations)) {
            if (step.kind == 0) {
                present.remove(step.oldThing);
                present.removeAll(Disk.items((Part) step.oldThing));
            } else if (step.kind == 3 || step.kind == 4) {
                present.add(step.newThing);
            } else if (step.kind == 9) {
                present.remove(step.oldThing);
            }
        }
        return present;
    }

    int present(int operations) {
        return (int) presentThings(operations).stream().filter(thing -> thing instanceof Item).count();
    }

    private boolean agrees(Object thing, int operations) {
        for (Step step : done(operations)) {
            if (step.newThing == thing && (step.kind == 3 || step.kind == 4)) {
                return true;
            }
        }
        if (!partMatch.containsKey(thing) && !itemMatch.containsKey(thing)) {
            return false;
        }
        for (Step step : script.subList(operations, script.size())) {
            if (step.oldThing == thing) {
                return false;
            }
        }
        return true;
    }

    int agreement(int operations) {
        done(operations);
        return (int) presentThings(operations).stream().filter(thing -> agrees(thing, operations)).count();
    }

    int readyAfter(int node) {
        Item item = item(1, node);
        Item asked = item;
        for (Map.Entry<Item, Item> pair : itemMatch.entrySet()) {
            if (pair.getValue() == item) {
                asked = pair.getKey();
            }
        }
        int operations = 0;
        while (!agrees(asked, operations)) {
            operations++;
        }
        return operations;
    }

    // The cost of files.

    private int pairCost(Item a, Item b) {
        return kinds(a, b).stream().mapToInt(kind -> costs[kind]).sum();
    }

    int fileCost() {
        int sum = 0;
        for (Item a : disks[0].items()) {
            if (a.file && itemMatch.containsKey(a)) {
                sum += pairCost(a, itemMatch.get(a));
            } else if (a.file && partMatch.containsKey(a.part)) {
                sum += costs[9];
            }
        }
        for (Item b : disks[1].items()) {
            sum += b.file && !itemMatch.containsValue(b) ? costs[4] : 0;
        }
        return sum;
    }

    /** One partition after the other: their files have nothing to do with one another. */
    int leastFileCost() {
        int sum = 0;
        for (Part b : disks[1].parts) {
            if (!partMatch.containsValue(b)) {
                sum += costs[4] * (int) Disk.items(b).stream().filter(item -> item.file).count();
            }
        }
        for (Map.Entry<Part, Part> pair : partMatch.entrySet()) {
            List<Item> before = Disk.items(pair.getKey()).stream().filter(item -> item.file).toList();
            List<Item> after = Disk.items(pair.getValue()).stream().filter(item -> item.file).toList();
            sum += Math.min(before.size(), after.size()) <= 5
                ? leastByTrying(before, after) : leastByWays(before, after);
        }
        return sum;
    }

    private int leastByTrying(List<Item> before, List<Item> after) {
        int[][] pairs = new int[before.size()][after.size()];
        for (int i = 0; i < before.size(); i++) {
            for (int j = 0; j < after.size(); j++) {
                pairs[i][j] = pairCost(before.get(i), after.get(j));
            }
        }
        return tryAll(pairs, 0, 0, after.size(), new HashMap<>());
    }

    private int tryAll(int[][] pairs, int row, int used, int width, Map<Long, Integer> known) {
        if (row == pairs.length) {
            return costs[4] * (width - Integer.bitCount(used));
        }
        long key = (long) row << 32 | used;
        Integer before = known.get(key);
        if (before != null) {
            return before;
        }
        int least = costs[9] + tryAll(pairs, row + 1, used, width, known);
        for (int j = 0; j < width; j++) {
            if ((used >> j & 1) == 0) {
                least = Math.min(least, pairs[row][j] + tryAll(pairs, row + 1, used | 1 << j, width, known));
            }
        }
        known.put(key, least);
        return least;
    }

    /** Adds pairs one at a time along the cheapest changing way (Bellman and Ford), while that lowers the cost. */
    private int leastByWays(List<Item> before, List<Item> after) {
        int rows = before.size();
        int columns = after.size();
        int[] rowOf = new int[columns];
        java.util.Arrays.fill(rowOf, -1);
        boolean[] taken = new boolean[rows];
        int cost = rows * costs[9] + columns * costs[4];
        while (true) {
            int[] way = new int[columns];
            java.util.Arrays.fill(way, 1000000);
            int[] start = new int[rows];
            java.util.Arrays.fill(start, 1000000);
            for (int i = 0; i < rows; i++) {
                start[i] = taken[i] ? 1000000 : 0;
            }
            int[] via = new int[columns];
            for (int round = 0; round <= rows + columns; round++) {
                for (int i = 0; i < rows; i++) {
                    for (int j = 0; j < columns; j++) {
                        int extra = pairCost(before.get(i), after.get(j)) - costs[9] - costs[4];
                        if (rowOf[j] != i && start[i] < 1000000 && start[i] + extra < way[j]) {
                            way[j] = start[i] + extra;
                            via[j] = i;
                        }
                    }
                }
                for (int j = 0; j < columns; j++) {
                    int i = rowOf[j];
                    if (i >= 0 && way[j] < 1000000) {
                        int back = way[j] - pairCost(before.get(i), after.get(j)) + costs[9] + costs[4];
                        if (back < start[i]) {
                            start[i] = back;
                        }
                    }
                }
            }
            int best = -1;
            for (int j = 0; j < columns; j++) {
                if (rowOf[j] < 0 && (best < 0 || way[j] < way[best])) {
                    best = j;
                }
            }
            if (best < 0 || way[best] >= 0) {
                return cost;
            }
            cost += way[best];
            int column = best;
            while (true) {
                int row = via[column];
                int previous = -1;
                for (int j = 0; j < columns; j++) {
                    previous = rowOf[j] == row ? j : previous;
                }
                rowOf[column] = row;
                if (previous < 0) {
                    taken[row] = true;
                    break;
                }
                column = previous;
            }
        }
    }
}
