import java.util.NoSuchElementException;

/** A differ of two disk images that are read from texts. */
public final class DiskImageDiff {
    public static final int NONE = -1;

    private static final int TEXT_LIMIT = 800;
    private static final int APPENDED_BYTES = 20;
    private static final int MAX_PARTITIONS = 4;
    private static final int MAX_NODES = 24;
    private static final int MAX_DEPTH = 5;
    private static final int MAX_INODE = 999;
    private static final int MAX_CONTENT = 9999;
    private static final int MAX_ATTRIBUTES = 7;
    private static final int MAX_NUMBER = 99999;
    private static final int MAX_COST = 99;

    private static final int NAME_LETTERS = 6;
    private static final int NAME_BASE = 27;
    private static final int HIGHEST_PLACE = 27 * 27 * 27 * 27 * 27;
    private static final int NAME_CODES = HIGHEST_PLACE * NAME_BASE;
    private static final int PATH_LIMIT = NAME_LETTERS + MAX_DEPTH * (1 + NAME_LETTERS);

    private static final int REMOVE_PARTITION = 0;
    private static final int RELABEL = 1;
    private static final int RESIZE = 2;
    private static final int ADD_PARTITION = 3;
    private static final int CREATE = 4;
    private static final int MOVE = 5;
    private static final int WRITE = 6;
    private static final int SET_ATTRIBUTES = 7;
    private static final int RENUMBER = 8;
    private static final int DELETE = 9;
    private static final int RESIZE_DISK = 10;
    private static final int KINDS = 11;

    private static final int PARTITION_PASSES = 3;
    private static final int NODE_PASSES = 5;

    private final int[] text = new int[TEXT_LIMIT];
    private int textLength = 0;
    private int lastErrorCode = 0;
    private int lastErrorPosition = NONE;
    private final Reader reader = new Reader();
    private Image oldImage = new Image();
    private Image newImage = new Image();
    private Image spareImage = new Image();
    private final int[] path = new int[PATH_LIMIT];
    private int pathLength = 0;
    private final int[] costs = {20, 1, 5, 10, 4, 2, 3, 1, 1, 2, 1};
    private final Identity identity = new Identity();
    private final Script script = new Script();
    private boolean outdated = true;
    private final Identity identityBack = new Identity();
    private final Script scriptBack = new Script();
    private final FileExplanation files = new FileExplanation();

    public DiskImageDiff() {
    }

    public int append(int a, int b, int c, int d, int e) throws IllegalStateException {
        if (textLength + APPENDED_BYTES > TEXT_LIMIT) {
            throw new IllegalStateException("the text buffer is full");
        }
        putBytes(a);
        putBytes(b);
        putBytes(c);
        putBytes(d);
        putBytes(e);
        return textLength;
    }

    public int truncate(int length) throws IndexOutOfBoundsException {
        if (length < 0 || length > textLength) {
            throw new IndexOutOfBoundsException("no such length");
        }
        textLength = length;
        return textLength;
    }

    public int load(int image) throws IndexOutOfBoundsException, IllegalArgumentException {
        Image replaced = requireImage(image);
        boolean correct = reader.readImage(text, textLength, spareImage);
        textLength = 0;
        lastErrorCode = reader.errorCode;
        lastErrorPosition = reader.errorPosition;
        if (!correct) {
            throw new IllegalArgumentException("the text has an error");
        }
        Image loaded = spareImage;
        spareImage = replaced;
        if (image == 0) {
            oldImage = loaded;
        } else {
            newImage = loaded;
        }
        outdated = true;
        return loaded.nodeCount;
    }

    public int errorCode() {
        return lastErrorCode;
    }

    public int errorPosition() {
        return lastErrorPosition;
    }

    public int image(int image, int what) throws IndexOutOfBoundsException, IllegalArgumentException {
        Image asked = requireImage(image);
        switch (what) {
            case 0: return asked.size;
            case 1: return asked.partitionCount;
            case 2: return asked.nodeCount;
            case 3: return asked.nodeCount - asked.countFiles();
            case 4: return asked.countFiles();
            case 5: return asked.greatestDepth(0, asked.nodeCount);
            case 6: return asked.freeSectors();
            default: throw new IllegalArgumentException("no such report on an image");
        }
    }

    public int partition(int image, int partition, int what)
            throws IndexOutOfBoundsException, IllegalArgumentException {
        Image asked = imageWithPartition(image, partition);
        switch (what) {
            case 0: return asked.label[partition];
            case 1: return asked.first[partition];
            case 2: return asked.length[partition];
            case 3: return asked.nodesIn(partition);
            default: throw new IllegalArgumentException("no such report on a partition");
        }
    }

    public int node(int image, int node, int what) throws IndexOutOfBoundsException, IllegalArgumentException {
        Image asked = imageWithNode(image, node);
        switch (what) {
            case 0: return asked.name[node];
            case 1: return asked.inode[node];
            case 2: return asked.content[node];
            case 3: return asked.attributes[node];
            case 4: return asked.parent[node];
            case 5: return asked.home[node];
            case 6: return asked.depth[node];
            case 7: return asked.treeSize(node) - 1;
            default: throw new IllegalArgumentException("no such report on a node");
        }
    }

    public int byInode(int image, int partition, int inode) throws IndexOutOfBoundsException, NoSuchElementException {
        Image asked = imageWithPartition(image, partition);
        int found = asked.nodeWithInode(partition, inode);
        if (found == NONE) {
            throw new NoSuchElementException("no node has this inode");
        }
        return found;
    }

    public int formatPath(int image, int node) throws IndexOutOfBoundsException {
        Image asked = imageWithNode(image, node);
        pathLength = 0;
        putName(asked.label[asked.home[node]]);
        for (int level = 1; level <= asked.depth[node]; level++) {
            putPathByte('/');
            putName(asked.name[asked.ancestor(node, level)]);
        }
        return pathLength;
    }

    public int formatted(int index) throws IndexOutOfBoundsException {
        if (index < 0 || index >= pathLength) {
            throw new IndexOutOfBoundsException("no such byte");
        }
        return path[index];
    }

    public int rename(int image, int node, int name)
            throws IndexOutOfBoundsException, IllegalArgumentException, IllegalStateException {
        Image changed = imageWithNode(image, node);
        if (!isNameCode(name)) {
            throw new IllegalArgumentException("not the code of a name");
        }
        if (changed.hasOtherChild(changed.home[node], changed.parent[node], name, node)) {
            throw new IllegalStateException("another child has this name");
        }
        int previous = changed.name[node];
        changed.name[node] = name;
        outdated = true;
        return previous;
    }

    public int write(int image, int node, int content)
            throws IndexOutOfBoundsException, IllegalArgumentException, IllegalStateException {
        Image changed = imageWithNode(image, node);
        if (content < 0 || content > MAX_CONTENT) {
            throw new IllegalArgumentException("the content is out of range");
        }
        if (!changed.isFile(node)) {
            throw new IllegalStateException("a directory has no content");
        }
        int previous = changed.content[node];
        changed.content[node] = content;
        outdated = true;
        return previous;
    }

    public int setAttributes(int image, int node, int attributes)
            throws IndexOutOfBoundsException, IllegalArgumentException {
        Image changed = imageWithNode(image, node);
        if (attributes < 0 || attributes > MAX_ATTRIBUTES) {
            throw new IllegalArgumentException("the attributes are out of range");
        }
        int previous = changed.attributes[node];
        changed.attributes[node] = attributes;
        outdated = true;
        return previous;
    }

    public int remove(int image, int node) throws IndexOutOfBoundsException {
        Image changed = imageWithNode(image, node);
        outdated = true;
        return changed.cutTree(node);
    }

    public int move(int image, int node, int parent)
            throws IndexOutOfBoundsException, IllegalArgumentException, IllegalStateException {
        Image changed = imageWithNode(image, node);
        if (parent != NONE) {
            requireNode(changed, parent);
            if (!changed.canHold(parent, node)) {
                throw new IllegalArgumentException("the node cannot be in this parent");
            }
        }
        if (changed.hasOtherChild(changed.home[node], parent, changed.name[node], node)) {
            throw new IllegalStateException("another child has this name");
        }
        if (changed.depthAfterMove(node, parent) > MAX_DEPTH) {
            throw new IllegalStateException("a node would be too deep");
        }
        outdated = true;
        return changed.moveTree(node, parent);
    }

    public void swap() {
        Image previousOld = oldImage;
        oldImage = newImage;
        newImage = previousOld;
        outdated = true;
    }

    public int matchedPartition(int partition) throws IndexOutOfBoundsException {
        requirePartition(oldImage, partition);
        refresh();
        return identity.newPartition[partition];
    }

    public int matchedNode(int node) throws IndexOutOfBoundsException {
        requireNode(oldImage, node);
        refresh();
        return identity.newNode[node];
    }

    public int passOf(int node) throws IndexOutOfBoundsException {
        requireNode(oldImage, node);
        refresh();
        return identity.pass[node];
    }

    public int matches(int pass) throws IllegalArgumentException {
        if (pass < 1 || pass > NODE_PASSES) {
            throw new IllegalArgumentException("no such pass");
        }
        refresh();
        return identity.matchedInPass(pass);
    }

    public double similarity() throws NoSuchElementException {
        int nodes = oldImage.nodeCount + newImage.nodeCount;
        if (nodes <= 0) {
            throw new NoSuchElementException("both images have no nodes");
        }
        refresh();
        return (double) (2 * identity.unchangedNodes()) / (double) nodes;
    }

    public int setCost(int kind, int cost) throws IllegalArgumentException {
        requireKind(kind);
        if (cost < 0 || cost > MAX_COST) {
            throw new IllegalArgumentException("the cost is out of range");
        }
        int previous = costs[kind];
        costs[kind] = cost;
        return previous;
    }

    public int operations() {
        refresh();
        return script.count;
    }

    public int operation(int operation, int what) throws IndexOutOfBoundsException, IllegalArgumentException {
        refresh();
        if (operation < 0 || operation >= script.count) {
            throw new IndexOutOfBoundsException("no such operation");
        }
        switch (what) {
            case 0: return script.kind[operation];
            case 1: return script.oldNumber[operation];
            case 2: return script.newNumber[operation];
            default: throw new IllegalArgumentException("no such report on an operation");
        }
    }

    public int operationsOf(int kind) throws IllegalArgumentException {
        requireKind(kind);
        refresh();
        return script.countOf(kind);
    }

    public int cost() {
        refresh();
        return script.costWith(costs);
    }

    public int costBack() {
        identityBack.match(newImage, oldImage);
        scriptBack.explain(identityBack);
        return scriptBack.costWith(costs);
    }

    public int present(int operations) throws IndexOutOfBoundsException {
        refresh();
        requirePerformed(operations);
        return script.presentAfter(operations, oldImage);
    }

    public int agreement(int operations) throws IndexOutOfBoundsException {
        refresh();
        requirePerformed(operations);
        return script.agreementAfter(operations, newImage);
    }

    public int readyAfter(int node) throws IndexOutOfBoundsException {
        requireNode(newImage, node);
        refresh();
        return script.nodeReady[node];
    }

    public int leastFileCost() {
        refresh();
        return files.leastCost(identity, costs);
    }

    public int fileCost() {
        refresh();
        return files.costOfMatched(identity, costs);
    }

    private void putBytes(int four) {
        for (int shift = 24; shift >= 0; shift -= 8) {
            if (textLength < TEXT_LIMIT) {
                text[textLength] = (four >>> shift) & 255;
                textLength++;
            }
        }
    }

    private Image requireImage(int image) {
        if (image != 0 && image != 1) {
            throw new IndexOutOfBoundsException("no such image");
        }
        return image == 0 ? oldImage : newImage;
    }

    private Image imageWithPartition(int image, int partition) {
        Image asked = requireImage(image);
        requirePartition(asked, partition);
        return asked;
    }

    private Image imageWithNode(int image, int node) {
        Image asked = requireImage(image);
        requireNode(asked, node);
        return asked;
    }

    private static void requirePartition(Image image, int partition) {
        if (partition < 0 || partition >= image.partitionCount) {
            throw new IndexOutOfBoundsException("no such partition");
        }
    }

    private static void requireNode(Image image, int node) {
        if (node < 0 || node >= image.nodeCount) {
            throw new IndexOutOfBoundsException("no such node");
        }
    }

    private static void requireKind(int kind) {
        if (kind < 0 || kind >= KINDS) {
            throw new IllegalArgumentException("no such kind of operation");
        }
    }

    private void requirePerformed(int performed) {
        if (performed < 0 || performed > script.count) {
            throw new IndexOutOfBoundsException("the script has no such part");
        }
    }

    private void refresh() {
        if (outdated) {
            identity.match(oldImage, newImage);
            script.explain(identity);
            outdated = false;
        }
    }

    private void putPathByte(int value) {
        if (pathLength < PATH_LIMIT) {
            path[pathLength] = value;
            pathLength++;
        }
    }

    private void putName(int code) {
        for (int place = HIGHEST_PLACE; place > 0; place /= NAME_BASE) {
            int digit = code / place % NAME_BASE;
            if (digit > 0) {
                putPathByte('a' + digit - 1);
            }
        }
    }

    private static boolean isNameCode(int code) {
        if (code <= 0 || code >= NAME_CODES) {
            return false;
        }
        int rest = code;
        for (int i = 0; i < NAME_LETTERS && rest > 0; i++) {
            if (rest % NAME_BASE == 0) {
                return false;
            }
            rest /= NAME_BASE;
        }
        return true;
    }

    /** One image; the rows of its nodes are kept in preorder, so that a node and all in it stand side by side. */
    private static final class Image {
        int size = 1;
        int partitionCount = 0;
        final int[] label = new int[MAX_PARTITIONS];
        final int[] first = new int[MAX_PARTITIONS];
        final int[] length = new int[MAX_PARTITIONS];
        int nodeCount = 0;
        final int[] name = new int[MAX_NODES];
        final int[] inode = new int[MAX_NODES];
        /** NONE for a directory. */
        final int[] content = new int[MAX_NODES];
        final int[] attributes = new int[MAX_NODES];
        /** NONE for a child of a root. */
        final int[] parent = new int[MAX_NODES];
        /** The partition of each node. */
        final int[] home = new int[MAX_NODES];
        final int[] depth = new int[MAX_NODES];
        private final int[] order = new int[MAX_NODES];
        private final int[] place = new int[MAX_NODES];
        private final int[] held = new int[MAX_NODES];

        void makeEmpty() {
            size = 1;
            partitionCount = 0;
            nodeCount = 0;
        }

        void addPartition(int newLabel, int newFirst, int newLength) {
            if (partitionCount < MAX_PARTITIONS) {
                label[partitionCount] = newLabel;
                first[partitionCount] = newFirst;
                length[partitionCount] = newLength;
                partitionCount++;
            }
        }

        /** Adds a node as the last one of the last partition and returns its number. */
        int addNode(int newParent, int newName, int newInode, int newContent, int newAttributes) {
            int node = nodeCount;
            if (node < MAX_NODES) {
                name[node] = newName;
                inode[node] = newInode;
                content[node] = newContent;
                attributes[node] = newAttributes;
                parent[node] = newParent;
                home[node] = partitionCount - 1;
                depth[node] = depthOf(newParent) + 1;
                nodeCount++;
            }
            return node;
        }

        boolean hasLabel(int wanted) {
            for (int i = 0; i < partitionCount; i++) {
                if (label[i] == wanted) {
                    return true;
                }
            }
            return false;
        }

        boolean hasFreeSectors(int from, int count) {
            if (from + count > size) {
                return false;
            }
            for (int i = 0; i < partitionCount; i++) {
                if (from < first[i] + length[i] && first[i] < from + count) {
                    return false;
                }
            }
            return true;
        }

        int freeSectors() {
            int free = size;
            for (int i = 0; i < partitionCount; i++) {
                free -= length[i];
            }
            return free;
        }

        boolean isFile(int node) {
            return content[node] != NONE;
        }

        int countFiles() {
            int count = 0;
            for (int i = 0; i < nodeCount; i++) {
                if (isFile(i)) {
                    count++;
                }
            }
            return count;
        }

        int greatestDepth(int from, int to) {
            int greatest = 0;
            for (int i = from; i < to; i++) {
                greatest = Math.max(greatest, depth[i]);
            }
            return greatest;
        }

        int nodesIn(int partition) {
            int count = 0;
            for (int i = 0; i < nodeCount; i++) {
                if (home[i] == partition) {
                    count++;
                }
            }
            return count;
        }

        int nodeWithInode(int partition, int wanted) {
            for (int i = 0; i < nodeCount; i++) {
                if (home[i] == partition && inode[i] == wanted) {
                    return i;
                }
            }
            return NONE;
        }

        boolean hasOtherChild(int partition, int holder, int wanted, int except) {
            for (int i = 0; i < nodeCount; i++) {
                if (i != except && home[i] == partition && parent[i] == holder && name[i] == wanted) {
                    return true;
                }
            }
            return false;
        }

        /** The depth of a directory, or 0 for NONE, a root. */
        int depthOf(int directory) {
            return directory == NONE ? 0 : depth[directory];
        }

        /** The number of a node and of all nodes in it. */
        int treeSize(int node) {
            return treeEnd(node) - node;
        }

        private int treeEnd(int node) {
            int end = node + 1;
            while (end < nodeCount && home[end] == home[node] && depth[end] > depth[node]) {
                end++;
            }
            return end;
        }

        private int partitionEnd(int partition) {
            int end = 0;
            while (end < nodeCount && home[end] <= partition) {
                end++;
            }
            return end;
        }

        /** The node of a depth on the way from the root to a node. */
        int ancestor(int node, int level) {
            int at = node;
            for (int i = depth[node]; i > level; i--) {
                if (parent[at] != NONE) {
                    at = parent[at];
                }
            }
            return at;
        }

        boolean canHold(int directory, int node) {
            boolean inNode = directory >= node && directory < treeEnd(node);
            return !isFile(directory) && home[directory] == home[node] && !inNode;
        }

        int depthAfterMove(int node, int holder) {
            return greatestDepth(node, treeEnd(node)) - depth[node] + depthOf(holder) + 1;
        }

        int cutTree(int node) {
            int end = treeEnd(node);
            int kept = 0;
            for (int i = 0; i < nodeCount; i++) {
                if (i < node || i >= end) {
                    order[kept] = i;
                    kept++;
                }
            }
            reorder(kept);
            return end - node;
        }

        int moveTree(int node, int holder) {
            int end = treeEnd(node);
            int target = holder == NONE ? partitionEnd(home[node]) : treeEnd(holder);
            int deeper = depthOf(holder) + 1 - depth[node];
            for (int i = node; i < end; i++) {
                depth[i] += deeper;
            }
            parent[node] = holder;
            int count = orderRange(0, 0, Math.min(node, target));
            if (target < end) {
                count = orderRange(count, node, end);
                count = orderRange(count, target, node);
                count = orderRange(count, end, nodeCount);
            } else {
                count = orderRange(count, end, target);
                count = orderRange(count, node, end);
                count = orderRange(count, target, nodeCount);
            }
            reorder(count);
            return place[node];
        }

        private int orderRange(int count, int from, int to) {
            int next = count;
            for (int i = from; i < to; i++) {
                if (next < MAX_NODES) {
                    order[next] = i;
                    next++;
                }
            }
            return next;
        }

        /** Keeps the nodes that the order names, numbered anew in that order. */
        private void reorder(int count) {
            for (int i = 0; i < count; i++) {
                place[order[i]] = i;
            }
            reorderRow(name, count);
            reorderRow(inode, count);
            reorderRow(content, count);
            reorderRow(attributes, count);
            reorderRow(parent, count);
            reorderRow(home, count);
            reorderRow(depth, count);
            nodeCount = count;
            for (int i = 0; i < count; i++) {
                if (parent[i] != NONE) {
                    parent[i] = place[parent[i]];
                }
            }
        }

        private void reorderRow(int[] row, int count) {
            System.arraycopy(row, 0, held, 0, MAX_NODES);
            for (int i = 0; i < count; i++) {
                row[i] = held[order[i]];
            }
        }
    }

    /** Reads an image from a text; it stands before one token at a time. */
    private static final class Reader {
        private static final int END = 0;
        private static final int WORD = 1;
        private static final int NUMBER = 2;
        private static final int SYMBOL = 3;
        private static final int UNKNOWN = 4;
        private static final int BLANK = 5;

        private static final int UNEXPECTED = 1;
        private static final int OUT_OF_RANGE = 2;
        private static final int SAME_NAME = 3;
        private static final int SAME_INODE = 4;
        private static final int TOO_MANY = 5;
        private static final int NO_SPACE = 6;

        private static final int NUMBER_DIGITS = 5;

        private int[] text = new int[0];
        private int textEnd = 0;
        private Image target;
        /** The directory that is being read, NONE for a root. */
        private int holder = NONE;
        private int tokenKind = END;
        private int tokenStart = 0;
        private int tokenEnd = 0;
        /** The number that the token is, or the code of the name that it is. */
        private int value = 0;
        int errorCode = 0;
        int errorPosition = NONE;

        /** Returns whether the text has no error; the image is not to be used if it has one. */
        boolean readImage(int[] bytes, int length, Image image) {
            text = bytes;
            textEnd = Math.min(length, bytes.length);
            target = image;
            target.makeEmpty();
            errorCode = 0;
            errorPosition = NONE;
            tokenEnd = 0;
            advance();
            boolean correct = readDisk();
            for (int i = 0; correct && tokenKind != END && i <= MAX_PARTITIONS; i++) {
                correct = readPartition() && readNodes();
            }
            return correct;
        }

        private boolean readDisk() {
            if (!isWord("disk")) {
                return fail(UNEXPECTED);
            }
            advance();
            if (!checkNumber(1, MAX_NUMBER)) {
                return false;
            }
            target.size = value;
            advance();
            return readSymbol(';');
        }

        private boolean readPartition() {
            if (!isWord("partition")) {
                return fail(UNEXPECTED);
            }
            if (target.partitionCount >= MAX_PARTITIONS) {
                return fail(TOO_MANY);
            }
            advance();
            if (!checkName()) {
                return false;
            }
            int label = value;
            if (target.hasLabel(label)) {
                return fail(SAME_NAME);
            }
            advance();
            if (!checkNumber(0, MAX_NUMBER)) {
                return false;
            }
            int first = value;
            advance();
            if (!checkNumber(1, MAX_NUMBER)) {
                return false;
            }
            if (!target.hasFreeSectors(first, value)) {
                return fail(NO_SPACE);
            }
            target.addPartition(label, first, value);
            advance();
            return readSymbol('{');
        }

        /** Reads the nodes of a partition and the brace behind them. */
        private boolean readNodes() {
            holder = NONE;
            for (int i = 0; i <= textEnd; i++) {
                if (isSymbol('}')) {
                    advance();
                    if (holder == NONE) {
                        return true;
                    }
                    holder = target.parent[holder];
                } else if (!readNode()) {
                    return false;
                }
            }
            return fail(UNEXPECTED);
        }

        /** Reads a file, or a directory as far as its opening brace. */
        private boolean readNode() {
            boolean file = isWord("file");
            if (!file && !isWord("dir")) {
                return fail(UNEXPECTED);
            }
            if (target.nodeCount >= MAX_NODES || target.depthOf(holder) >= MAX_DEPTH) {
                return fail(TOO_MANY);
            }
            advance();
            if (!checkName()) {
                return false;
            }
            int partition = target.partitionCount - 1;
            int name = value;
            if (target.hasOtherChild(partition, holder, name, NONE)) {
                return fail(SAME_NAME);
            }
            advance();
            if (!checkNumber(0, MAX_INODE)) {
                return false;
            }
            int inode = value;
            if (target.nodeWithInode(partition, inode) != NONE) {
                return fail(SAME_INODE);
            }
            advance();
            int content = NONE;
            if (file) {
                if (!checkNumber(0, MAX_CONTENT)) {
                    return false;
                }
                content = value;
                advance();
            }
            return readNodeRest(name, inode, content);
        }

        private boolean readNodeRest(int name, int inode, int content) {
            int attributes = 0;
            if (isWord("attr")) {
                advance();
                if (!checkNumber(0, MAX_ATTRIBUTES)) {
                    return false;
                }
                attributes = value;
                advance();
            }
            boolean file = content != NONE;
            if (!isSymbol(file ? ';' : '{')) {
                return fail(UNEXPECTED);
            }
            advance();
            int node = target.addNode(holder, name, inode, content, attributes);
            if (!file) {
                holder = node;
            }
            return true;
        }

        private boolean readSymbol(int symbol) {
            if (!isSymbol(symbol)) {
                return fail(UNEXPECTED);
            }
            advance();
            return true;
        }

        private boolean checkName() {
            if (tokenKind != WORD || tokenEnd - tokenStart > NAME_LETTERS) {
                return fail(UNEXPECTED);
            }
            value = 0;
            for (int i = tokenStart; i < tokenEnd; i++) {
                value = value * NAME_BASE + text[i] - 'a' + 1;
            }
            return true;
        }

        private boolean checkNumber(int least, int greatest) {
            if (tokenKind != NUMBER) {
                return fail(UNEXPECTED);
            }
            value = 0;
            for (int i = tokenStart; i < tokenEnd; i++) {
                value = value * 10 + text[i] - '0';
            }
            if (value < least || value > greatest) {
                return fail(OUT_OF_RANGE);
            }
            return true;
        }

        private boolean isSymbol(int symbol) {
            return tokenKind == SYMBOL && text[tokenStart] == symbol;
        }

        private boolean isWord(String word) {
            if (tokenKind != WORD || tokenEnd - tokenStart != word.length()) {
                return false;
            }
            for (int i = 0; i < word.length(); i++) {
                if (text[tokenStart + i] != word.charAt(i)) {
                    return false;
                }
            }
            return true;
        }

        private boolean fail(int code) {
            errorCode = code;
            errorPosition = tokenStart;
            return false;
        }

        private void advance() {
            tokenStart = tokenEnd;
            while (tokenStart < textEnd && byteKind(text[tokenStart]) == BLANK) {
                tokenStart++;
            }
            tokenEnd = tokenStart;
            if (tokenStart >= textEnd) {
                tokenKind = END;
                return;
            }
            tokenKind = byteKind(text[tokenStart]);
            tokenEnd++;
            if (tokenKind == WORD || tokenKind == NUMBER) {
                while (tokenEnd < textEnd && byteKind(text[tokenEnd]) == tokenKind) {
                    tokenEnd++;
                }
            }
            if (tokenKind == NUMBER && tokenEnd - tokenStart > NUMBER_DIGITS) {
                tokenKind = UNKNOWN;
            }
        }

        /** The kind of a token in which a byte stands, or BLANK. */
        private static int byteKind(int value) {
            if (value >= 'a' && value <= 'z') {
                return WORD;
            }
            if (value >= '0' && value <= '9') {
                return NUMBER;
            }
            if (value == ';' || value == '{' || value == '}') {
                return SYMBOL;
            }
            return value == 10 || value == 32 ? BLANK : UNKNOWN;
        }
    }

    /** Which partitions and nodes of an image go on as which ones of another image. */
    private static final class Identity {
        Image before;
        Image after;
        /** The new number by the old one and the old by the new, NONE for what is unmatched; likewise for nodes. */
        final int[] newPartition = new int[MAX_PARTITIONS];
        final int[] oldPartition = new int[MAX_PARTITIONS];
        final int[] newNode = new int[MAX_NODES];
        final int[] oldNode = new int[MAX_NODES];
        /** By old number, 0 for an unmatched node. */
        final int[] pass = new int[MAX_NODES];

        void match(Image oldSide, Image newSide) {
            before = oldSide;
            after = newSide;
            forget(newPartition, NONE);
            forget(oldPartition, NONE);
            forget(newNode, NONE);
            forget(oldNode, NONE);
            forget(pass, 0);
            for (int i = 1; i <= PARTITION_PASSES; i++) {
                matchPartitions(i);
            }
            for (int i = 1; i <= NODE_PASSES; i++) {
                matchNodes(i);
            }
        }

        private static void forget(int[] row, int value) {
            for (int i = 0; i < row.length; i++) {
                row[i] = value;
            }
        }

        private void matchPartitions(int inPass) {
            for (int i = 0; i < before.partitionCount; i++) {
                for (int j = 0; j < after.partitionCount && newPartition[i] == NONE; j++) {
                    if (oldPartition[j] == NONE && isSamePartition(inPass, i, j)) {
                        newPartition[i] = j;
                        oldPartition[j] = i;
                    }
                }
            }
        }

        private boolean isSamePartition(int inPass, int i, int j) {
            boolean sameLabel = before.label[i] == after.label[j];
            boolean sameFirst = before.first[i] == after.first[j];
            switch (inPass) {
                case 1: return sameLabel && sameFirst;
                case 2: return sameLabel;
                default: return sameFirst;
            }
        }

        private void matchNodes(int inPass) {
            for (int i = 0; i < before.nodeCount; i++) {
                for (int j = 0; j < after.nodeCount && newNode[i] == NONE; j++) {
                    if (oldNode[j] == NONE && isSameNode(inPass, i, j)) {
                        newNode[i] = j;
                        oldNode[j] = i;
                        pass[i] = inPass;
                    }
                }
            }
        }

        private boolean isSameNode(int inPass, int i, int j) {
            if (!arePartitionsMatched(i, j) || before.isFile(i) != after.isFile(j)) {
                return false;
            }
            boolean sameContent = before.isFile(i) && before.content[i] == after.content[j];
            switch (inPass) {
                case 1: return before.inode[i] == after.inode[j] && haveSamePath(i, j);
                case 2: return before.inode[i] == after.inode[j];
                case 3: return haveSamePath(i, j);
                case 4: return sameContent && before.name[i] == after.name[j];
                default: return sameContent;
            }
        }

        /** Whether an old node and a new node lie in partitions that are matched with each other. */
        boolean arePartitionsMatched(int i, int j) {
            return newPartition[before.home[i]] == after.home[j];
        }

        private boolean haveSamePath(int i, int j) {
            if (before.depth[i] != after.depth[j]) {
                return false;
            }
            int oldAt = i;
            int newAt = j;
            for (int level = before.depth[i]; level > 0 && oldAt != NONE && newAt != NONE; level--) {
                if (before.name[oldAt] != after.name[newAt]) {
                    return false;
                }
                oldAt = before.parent[oldAt];
                newAt = after.parent[newAt];
            }
            return true;
        }

        private boolean doParentsAgree(int i, int j) {
            int oldParent = before.parent[i];
            int newParent = after.parent[j];
            if (oldParent == NONE || newParent == NONE) {
                return oldParent == newParent && arePartitionsMatched(i, j);
            }
            return newNode[oldParent] == newParent;
        }

        /** Whether an old node needs an operation of a kind (5 to 8) to be like a new one. */
        boolean needs(int kind, int i, int j) {
            switch (kind) {
                case MOVE: return before.name[i] != after.name[j] || !doParentsAgree(i, j);
                case WRITE: return before.content[i] != after.content[j];
                case SET_ATTRIBUTES: return before.attributes[i] != after.attributes[j];
                case RENUMBER: return before.inode[i] != after.inode[j];
                default: return false;
            }
        }

        int matchedInPass(int wanted) {
            int count = 0;
            for (int i = 0; i < before.nodeCount; i++) {
                if (pass[i] == wanted) {
                    count++;
                }
            }
            return count;
        }

        int unchangedNodes() {
            int count = 0;
            for (int i = 0; i < before.nodeCount; i++) {
                if (newNode[i] != NONE && isUnchanged(i, newNode[i])) {
                    count++;
                }
            }
            return count;
        }

        private boolean isUnchanged(int i, int j) {
            for (int kind = MOVE; kind <= RENUMBER; kind++) {
                if (needs(kind, i, j)) {
                    return false;
                }
            }
            return true;
        }
    }

    /** The operations that lead from an image to another one. */
    private static final class Script {
        /** Two for each matched partition, four for each matched node, one for each end of what is unmatched. */
        private static final int LIMIT = 2 * MAX_PARTITIONS + 4 * MAX_NODES + 1;

        int count = 0;
        final int[] kind = new int[LIMIT];
        final int[] oldNumber = new int[LIMIT];
        final int[] newNumber = new int[LIMIT];
        /** By new number: after how many operations it is there as the new image has it; likewise for nodes. */
        final int[] partitionReady = new int[MAX_PARTITIONS];
        final int[] nodeReady = new int[MAX_NODES];

        void explain(Identity identity) {
            count = 0;
            removePartitions(identity);
            changePartitions(identity);
            addPartitions(identity);
            createNodes(identity);
            changeNodes(identity);
            deleteNodes(identity);
            if (identity.before.size != identity.after.size) {
                put(RESIZE_DISK, NONE, NONE);
            }
        }

        private void put(int newKind, int oldOne, int newOne) {
            if (count < LIMIT) {
                kind[count] = newKind;
                oldNumber[count] = oldOne;
                newNumber[count] = newOne;
                count++;
            }
        }

        private void removePartitions(Identity identity) {
            for (int i = 0; i < identity.before.partitionCount; i++) {
                if (identity.newPartition[i] == NONE) {
                    put(REMOVE_PARTITION, i, NONE);
                }
            }
        }

        private void changePartitions(Identity identity) {
            Image before = identity.before;
            Image after = identity.after;
            for (int i = 0; i < before.partitionCount; i++) {
                int j = identity.newPartition[i];
                if (j != NONE) {
                    int start = count;
                    if (before.label[i] != after.label[j]) {
                        put(RELABEL, i, j);
                    }
                    if (before.first[i] != after.first[j] || before.length[i] != after.length[j]) {
                        put(RESIZE, i, j);
                    }
                    partitionReady[j] = readySince(start);
                }
            }
        }

        private void addPartitions(Identity identity) {
            for (int j = 0; j < identity.after.partitionCount; j++) {
                if (identity.oldPartition[j] == NONE) {
                    put(ADD_PARTITION, NONE, j);
                    partitionReady[j] = count;
                }
            }
        }

        private void createNodes(Identity identity) {
            for (int j = 0; j < identity.after.nodeCount; j++) {
                if (identity.oldNode[j] == NONE) {
                    put(CREATE, NONE, j);
                    nodeReady[j] = count;
                }
            }
        }

        private void changeNodes(Identity identity) {
            for (int i = 0; i < identity.before.nodeCount; i++) {
                int j = identity.newNode[i];
                if (j != NONE) {
                    int start = count;
                    for (int change = MOVE; change <= RENUMBER; change++) {
                        if (identity.needs(change, i, j)) {
                            put(change, i, j);
                        }
                    }
                    nodeReady[j] = readySince(start);
                }
            }
        }

        private void deleteNodes(Identity identity) {
            for (int i = identity.before.nodeCount - 1; i >= 0; i--) {
                if (identity.newNode[i] == NONE && identity.newPartition[identity.before.home[i]] != NONE) {
                    put(DELETE, i, NONE);
                }
            }
        }

        /** What needs no operation agrees from the beginning. */
        private int readySince(int start) {
            return count == start ? 0 : count;
        }

        int countOf(int wanted) {
            int found = 0;
            for (int i = 0; i < count; i++) {
                if (kind[i] == wanted) {
                    found++;
                }
            }
            return found;
        }

        int costWith(int[] costs) {
            int sum = 0;
            for (int i = 0; i < count; i++) {
                sum += costs[kind[i]];
            }
            return sum;
        }

        int presentAfter(int performed, Image before) {
            int present = before.nodeCount;
            for (int i = 0; i < performed; i++) {
                switch (kind[i]) {
                    case REMOVE_PARTITION:
                        present -= before.nodesIn(oldNumber[i]);
                        break;
                    case CREATE:
                        present++;
                        break;
                    case DELETE:
                        present--;
                        break;
                    default:
                        break;
                }
            }
            return present;
        }

        /** Whatever agrees is a partition or node of the new image, or the one matched with it. */
        int agreementAfter(int performed, Image after) {
            int agreeing = 0;
            for (int j = 0; j < after.partitionCount; j++) {
                if (partitionReady[j] <= performed) {
                    agreeing++;
                }
            }
            for (int j = 0; j < after.nodeCount; j++) {
                if (nodeReady[j] <= performed) {
                    agreeing++;
                }
            }
            return agreeing;
        }
    }

    /** What it costs to explain the new files by the old ones. */
    private static final class FileExplanation {
        private static final int UNREACHED = 1000000;

        /** The old files in matched partitions and the new ones, from 1 on; 0 stands for no file. */
        private final int[] oldFile = new int[MAX_NODES + 1];
        private final int[] newFile = new int[MAX_NODES + 1];
        private int oldCount = 0;
        private int newCount = 0;
        private int side = 0;
        /** What it costs more (never above 0) to assign a pair than to leave both files alone. */
        private final int[][] extra = new int[MAX_NODES + 1][MAX_NODES + 1];
        private final int[] rowPrice = new int[MAX_NODES + 1];
        private final int[] columnPrice = new int[MAX_NODES + 1];
        /** The row that each column is assigned to, 0 for none. */
        private final int[] rowOf = new int[MAX_NODES + 1];
        private final int[] cameFrom = new int[MAX_NODES + 1];
        private final int[] slack = new int[MAX_NODES + 1];
        private final boolean[] visited = new boolean[MAX_NODES + 1];

        int costOfMatched(Identity identity, int[] costs) {
            listFiles(identity);
            int sum = costOfNone(costs);
            for (int row = 1; row <= oldCount; row++) {
                int i = oldFile[row];
                int j = identity.newNode[i];
                if (j != NONE) {
                    sum += pairCost(identity, costs, i, j) - costs[DELETE] - costs[CREATE];
                }
            }
            return sum;
        }

        int leastCost(Identity identity, int[] costs) {
            listFiles(identity);
            fillExtra(identity, costs);
            assignAll();
            int sum = costOfNone(costs);
            for (int column = 1; column <= side; column++) {
                sum += extra[rowOf[column]][column];
            }
            return sum;
        }

        private void listFiles(Identity identity) {
            Image before = identity.before;
            Image after = identity.after;
            oldCount = 0;
            for (int i = 0; i < before.nodeCount; i++) {
                if (before.isFile(i) && identity.newPartition[before.home[i]] != NONE) {
                    oldCount++;
                    oldFile[oldCount] = i;
                }
            }
            newCount = 0;
            for (int j = 0; j < after.nodeCount; j++) {
                if (after.isFile(j)) {
                    newCount++;
                    newFile[newCount] = j;
                }
            }
            side = Math.max(oldCount, newCount);
        }

        /** The cost if no file is assigned. */
        private int costOfNone(int[] costs) {
            return oldCount * costs[DELETE] + newCount * costs[CREATE];
        }

        private static int pairCost(Identity identity, int[] costs, int i, int j) {
            int sum = 0;
            for (int kind = MOVE; kind <= RENUMBER; kind++) {
                if (identity.needs(kind, i, j)) {
                    sum += costs[kind];
                }
            }
            return sum;
        }

        private void fillExtra(Identity identity, int[] costs) {
            int apart = costs[DELETE] + costs[CREATE];
            for (int row = 1; row <= side; row++) {
                for (int column = 1; column <= side; column++) {
                    extra[row][column] = 0;
                    if (row <= oldCount && column <= newCount
                            && identity.arePartitionsMatched(oldFile[row], newFile[column])) {
                        int together = pairCost(identity, costs, oldFile[row], newFile[column]);
                        extra[row][column] = Math.min(together - apart, 0);
                    }
                }
            }
        }

        /** The Hungarian method: prices of rows and columns that prove the assignment to be the least. */
        private void assignAll() {
            for (int i = 0; i <= side; i++) {
                rowPrice[i] = 0;
                columnPrice[i] = 0;
                rowOf[i] = 0;
            }
            for (int row = 1; row <= side; row++) {
                assignAlong(freeColumnFor(row));
            }
        }

        /** Grows cheapest ways from a row until one reaches a column without a row, and returns that column. */
        private int freeColumnFor(int row) {
            for (int i = 0; i <= side; i++) {
                slack[i] = UNREACHED;
                visited[i] = false;
                cameFrom[i] = 0;
            }
            rowOf[0] = row;
            int column = 0;
            for (int step = 0; step <= side && rowOf[column] != 0; step++) {
                visited[column] = true;
                int next = nearestFrom(column);
                raisePrices(slack[next]);
                column = next;
            }
            return column;
        }

        private int nearestFrom(int column) {
            int row = rowOf[column];
            int nearest = 0;
            for (int i = 1; i <= side; i++) {
                if (!visited[i]) {
                    int reduced = extra[row][i] - rowPrice[row] - columnPrice[i];
                    if (reduced < slack[i]) {
                        slack[i] = reduced;
                        cameFrom[i] = column;
                    }
                    if (nearest == 0 || slack[i] < slack[nearest]) {
                        nearest = i;
                    }
                }
            }
            return nearest;
        }

        private void raisePrices(int amount) {
            for (int i = 0; i <= side; i++) {
                if (visited[i]) {
                    rowPrice[rowOf[i]] += amount;
                    columnPrice[i] -= amount;
                } else {
                    slack[i] -= amount;
                }
            }
        }

        private void assignAlong(int freeColumn) {
            int column = freeColumn;
            for (int step = 0; step <= side && column != 0; step++) {
                int previous = cameFrom[column];
                rowOf[column] = rowOf[previous];
                column = previous;
            }
        }
    }
}
