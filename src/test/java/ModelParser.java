import java.util.ArrayList;
import java.util.List;
import java.util.regex.Matcher;
import java.util.regex.Pattern;

/** Reads a text for the model: all tokens first, then by descent, an error being thrown out of it. */
final class ModelParser {
    private static final class Wrong extends RuntimeException {
        private static final long serialVersionUID = 1;
    }

    private record Token(String text, int position) {
    }

    private final List<Token> tokens = new ArrayList<>();
    private int at = 0;
    private final Model.Disk disk = new Model.Disk();
    int errorCode = 0;
    int errorPosition = -1;

    ModelParser(String text) {
        Matcher matcher = Pattern.compile("[a-z]+|[0-9]+|[^ \n]", Pattern.DOTALL).matcher(text);
        while (matcher.find()) {
            tokens.add(new Token(matcher.group(), matcher.start()));
        }
        tokens.add(new Token("", text.length()));
    }

    /** The image, or null if there is an error. */
    Model.Disk disk() {
        try {
            word("disk");
            disk.size = number(1, 99999);
            word(";");
            while (!peek().isEmpty()) {
                part();
            }
            return disk;
        } catch (Wrong wrong) {
            return null;
        }
    }

    private String peek() {
        return tokens.get(at).text();
    }

    private void check(boolean fine, int code) {
        if (!fine) {
            errorCode = code;
            errorPosition = tokens.get(at).position();
            throw new Wrong();
        }
    }

    private void word(String wanted) {
        check(peek().equals(wanted), 1);
        at++;
    }

    private int number(int least, int greatest) {
        int number = look(least, greatest);
        at++;
        return number;
    }

    private int look(int least, int greatest) {
        check(peek().matches("[0-9]{1,5}"), 1);
        int number = Integer.parseInt(peek());
        check(number >= least && number <= greatest, 2);
        return number;
    }

    private String name() {
        check(peek().matches("[a-z]{1,6}"), 1);
        return peek();
    }

    private void part() {
        check(peek().equals("partition"), 1);
        check(disk.parts.size() < 4, 5);
        at++;
        Model.Part part = new Model.Part();
        part.label = name();
        for (Model.Part other : disk.parts) {
            check(!other.label.equals(part.label), 3);
        }
        at++;
        part.first = number(0, 99999);
        part.length = look(1, 99999);
        check(part.first + part.length <= disk.size, 6);
        for (Model.Part other : disk.parts) {
            boolean apart = other.first + other.length <= part.first || part.first + part.length <= other.first;
            check(apart, 6);
        }
        at++;
        part.root.part = part;
        disk.parts.add(part);
        word("{");
        kids(part.root);
        word("}");
    }

    private void kids(Model.Item holder) {
        while (!peek().equals("}")) {
            item(holder);
        }
    }

    private void item(Model.Item holder) {
        check(peek().equals("dir") || peek().equals("file"), 1);
        check(disk.items().size() < 24 && holder.depth() < 5, 5);
        Model.Item item = new Model.Item();
        item.file = peek().equals("file");
        at++;
        item.name = name();
        check(holder.kid(item.name) == null, 3);
        at++;
        item.inode = look(0, 999);
        for (Model.Item other : Model.Disk.items(holder.part)) {
            check(other.inode != item.inode, 4);
        }
        at++;
        if (item.file) {
            item.content = number(0, 9999);
        }
        if (peek().equals("attr")) {
            at++;
            item.attributes = number(0, 7);
        }
        item.parent = holder;
        item.part = holder.part;
        holder.kids.add(item);
        if (item.file) {
            word(";");
        } else {
            word("{");
            kids(item);
            word("}");
        }
    }
}
