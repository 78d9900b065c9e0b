import java.io.IOException;
import java.lang.reflect.Method;
import java.lang.reflect.Modifier;
import java.nio.file.Files;
import java.nio.file.Path;
import java.util.ArrayList;
import java.util.List;

/**
 * README.md: its examples, line by line, answer what is written behind them, and each call of the face
 * is named. To be run from the project's directory.
 */
public final class ReadmeTest {

    private static final String ANSWER = "// ";

    private final List<String> lines = new ArrayList<>();
    private int read;

    private ReadmeTest(String page) {
        boolean isJava = false;
        for (String line : page.split("\n")) {
            if (line.startsWith("```")) {
                isJava = line.equals("```java");
            } else if (isJava) {
                lines.add(line);
            }
        }
    }

    public static void main(String[] args) throws IOException {
        String page = Files.readString(Path.of("README.md"));
        ReadmeTest examples = new ReadmeTest(page);
        examples.first();
        examples.second();
        Due.same("lines of the examples", examples.read, examples.lines.size());
        for (Method method : Bumpward.class.getDeclaredMethods()) {
            if (Modifier.isPublic(method.getModifiers())) {
                Due.so("README.md names " + method.getName(), page.contains("`" + method.getName() + "`"));
            }
        }
        Due.end("ReadmeTest");
    }

    private void first() {
        Bumpward b = new Bumpward();
        is("Bumpward b = new Bumpward();", "");
        is("b.edge(1, 1, 1, 0);", b.edge(1, 1, 1, 0));
        int who = b.walker(0, 1, 100, true);
        is("int who = b.walker(0, 1, 100, true);", who);
        is("b.feel(who, false);", b.feel(who, false));
        is("b.forward(who, false);", b.forward(who, false));
        is("b.ofWalker(who, 3);", b.ofWalker(who, 3));
        is("b.feel(who, false);", b.feel(who, false));
        is("b.where(who, 1);", b.where(who, 1));
        is("b.safety(who, 1);", b.safety(who, 1));
    }

    private void second() {
        Bumpward b = new Bumpward();
        is("Bumpward b = new Bumpward();", "");
        is("b.edge(14, 1, 2, 1);", b.edge(14, 1, 2, 1));
        int one = b.walker(14, 1, 200, true);
        is("int one = b.walker(14, 1, 200, true);", one);
        int two = b.walker(14, 1, 200, true);
        is("int two = b.walker(14, 1, 200, true);", two);
        is("b.feel(one, false);", b.feel(one, false));
        is("b.pass(60);", b.pass(60));
        is("b.feel(two, false);", b.feel(two, false));
        is("b.turn(two, true, false);", b.turn(two, true, false));
        is("b.feel(two, false);", b.feel(two, false));
        is("b.meet(one, two);", b.meet(one, two));
        is("b.house(10);", b.house(10));
        is("b.ofWalker(one, 8);", b.ofWalker(one, 8));
        is("b.safety(one, 3);", b.safety(one, 3));
        is("b.way(one, 8, 20);", b.way(one, 8, 20));
        is("b.row(2);", "\"" + b.row(2) + "\"");
    }

    /** The next line of the page is that call, with that answer (none is written as an empty text). */
    private void is(String call, Object answer) {
        String line = read < lines.size() ? lines.get(read) : "";
        read++;
        int at = line.indexOf(ANSWER);
        String written = at < 0 ? "" : line.substring(at + ANSWER.length());
        Due.text("the call in line " + read, (at < 0 ? line : line.substring(0, at)).trim(), call);
        boolean isSame = written.equals("" + answer) || !written.isEmpty() && written.startsWith(answer + ": ");
        Due.so("\"" + written + "\" behind " + call + ", which answers " + answer + ",", isSame);
    }
}
