import java.io.IOException;
import java.lang.reflect.Method;
import java.lang.reflect.Modifier;
import java.nio.file.Files;
import java.nio.file.Path;
import java.util.ArrayList;
import java.util.List;
import java.util.regex.Matcher;
import java.util.regex.Pattern;

/** What the document says of the face: its lines in their order, the headings ahead of its calls, and its types. */
final class FaceSentences {
    private static final Path SOURCE = Path.of("src/main/java/AnchorChains.java");
    private static final Pattern HEAD = Pattern.compile(" {4}// (---- [^\n]*)\n");
    private static final Pattern LINE = Pattern.compile("\n {4}(public [^;{=]*?(?: = [^;]*)?)\\s*[;{]");

    private FaceSentences() {
    }

    static void all() throws IOException {
        numbers();
        String source = Files.readString(SOURCE);
        Due.says(0, "Ahead of the calls put, take, change, turn, copy, exchange, set the interface says: ---- rows.");
        heads(source, "---- rows", "put, take, change, turn, copy, exchange, set");
        Due.says(0, "Ahead of the calls append, clearBuffer, firstError, read, keep, restore, undo the interface says: "
                + "---- texts, snapshots.");
        heads(source, "---- texts, snapshots", "append, clearBuffer, firstError, read, keep, restore, undo");
        Due.says(0, "Ahead of the calls sign, anchor, turned, gap, partner, doubled, count, setting the interface "
                + "says: ---- looks; nothing is changed.");
        heads(source, "---- looks; nothing is changed", "sign, anchor, turned, gap, partner, doubled, count, setting");
        Due.says(0, "Ahead of the calls ifSet, ifChanged, bestLength, likeShare, digest the interface says: ---- what "
                + "would be; nothing is changed.");
        heads(source, "---- what would be; nothing is changed", "ifSet, ifChanged, bestLength, likeShare, digest");
    }

    private static void numbers() {
        Due.says(0, "All numbers are integers, but for a share.");
        for (Method method : AnchorChains.class.getDeclaredMethods()) {
            if (Modifier.isPublic(method.getModifiers())) {
                String name = method.getName();
                String due = name.equals("likeShare") ? "double" : name.equals("digest") ? "long" : "int";
                Due.same("what " + name + " returns", method.getReturnType().getName(), due);
                for (Class<?> type : method.getParameterTypes()) {
                    Due.same("what " + name + " takes", type.getName(), "int");
                }
            }
        }
    }

    private static void heads(String source, String head, String calls) {
        for (String call : calls.split(", ")) {
            Matcher declared = Pattern.compile("\n {4}public \\w+ " + call + "\\(").matcher(source);
            String last = "";
            if (declared.find()) {
                Matcher heads = HEAD.matcher(source.substring(0, declared.start() + 1));
                while (heads.find()) {
                    last = heads.group(1);
                }
            }
            Due.same("the heading ahead of " + call, last, head);
        }
    }

    /** The public lines of a class's text, without what stands between their braces. */
    static List<String> publicLines(String text) {
        List<String> lines = new ArrayList<>();
        Matcher line = LINE.matcher(text);
        while (line.find()) {
            lines.add(line.group(1).replaceAll("\\s+", " "));
        }
        return lines;
    }

    static void sameAsWritten(String document) throws IOException {
        Matcher block = Pattern.compile("(?s)```java(.*?)```").matcher(document);
        Due.same("the document has a face", block.find() ? 1 : 0, 1);
        String source = Files.readString(SOURCE);
        String head = "public final class AnchorChains {\n";
        List<String> written = publicLines(block.group(1));
        Due.same("lines of the face", written.size(), 29);
        Due.same("the face in its order", publicLines(source).toString(), written.toString());
        Due.same("the document's class", block.group(1).indexOf(head), 1);
        Due.same("the class's own line", source.contains("\n" + head) ? 1 : 0, 1);
    }
}
