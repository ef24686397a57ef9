import java.io.IOException;
import java.lang.management.ManagementFactory;
import java.nio.file.Files;
import java.nio.file.Path;
import java.util.List;
import java.util.NoSuchElementException;
import java.util.regex.Matcher;
import java.util.regex.Pattern;

/** What of LANGUAGE.md can be seen in the source, and the room that objects and calls take. */
public final class RulesTest {
    private static final int MOST_LINES = 60;
    private static final int MOST_BYTES_OF_AN_OBJECT = 120_000;
    private static final int MOST_BYTES_OF_CALLS = 20_000;
    private static int wrong = 0;

    private static void due(String what, boolean holds) {
        if (!holds) {
            wrong++;
            System.out.println("rule broken: " + what);
        }
    }

    public static void main(String[] args) throws IOException {
        List<String> lines = Files.readAllLines(Path.of("src/main/java/RoundDays.java"));
        words(String.join("\n", lines));
        staticFields(lines);
        methodLengths(lines);
        room();
        System.out.println(wrong == 0 ? "the rules hold" : wrong + " rules are broken");
        if (wrong != 0) {
            System.exit(1);
        }
    }

    private static void words(String source) {
        String code = source.replaceAll("(?s)/\\*.*?\\*/", "").replaceAll("//[^\n]*", "");
        String[] refused = {"->", "::", "\\btry\\b", "\\bcatch\\b", "\\bfinally\\b", "\\bsynchronized\\b", "\\bassert\\b",
            "\\bpackage\\b", "\\w+Exact\\(", "\\bprotected\\b", "\\bSystem\\.(?!arraycopy)", "\\bRandom\\b", "\\bThread\\b",
            "\\bvar\\b", "\\bfloat\\b", "\\bdouble\\b", "static \\{"};
        for (String form : refused) {
            due("no " + form, !Pattern.compile(form).matcher(code).find());
        }
        Matcher imports = Pattern.compile("(?m)^import (.*);").matcher(code);
        while (imports.find()) {
            due("import " + imports.group(1), imports.group(1).equals("java.util.NoSuchElementException"));
        }
        Matcher thrown = Pattern.compile("throw [^;]*;").matcher(code);
        while (thrown.find()) {
            due(thrown.group(), thrown.group().equals("throw new NoSuchElementException();"));
        }
        due("signs 1 to 127", source.chars().allMatch(sign -> sign > 0 && sign < 128));
    }

    private static void staticFields(List<String> lines) {
        for (String line : lines) {
            boolean field = line.contains("static") && line.endsWith(";") && !line.contains("(");
            due("a static field is final: " + line.trim(), !field || line.contains("final"));
        }
    }

    private static void methodLengths(List<String> lines) {
        int start = -1;
        String closing = "";
        for (int i = 0; i < lines.size(); i++) {
            Matcher opened = Pattern.compile("^( {4}| {8})[a-zA-Z].*\\) (throws \\w+ )?\\{$").matcher(lines.get(i));
            if (opened.matches() && !lines.get(i).contains(" class ")) {
                start = i;
                closing = opened.group(1) + "}";
            } else if (start >= 0 && lines.get(i).equals(closing)) {
                due("a short method: " + lines.get(start).trim(), i - start < MOST_LINES);
                start = -1;
            }
        }
    }

    private static long allocated() {
        com.sun.management.ThreadMXBean bean = (com.sun.management.ThreadMXBean) ManagementFactory.getThreadMXBean();
        return bean.getThreadAllocatedBytes(Thread.currentThread().getId());
    }

    private static void room() {
        callAll(new RoundDays());
        long start = allocated();
        RoundDays x = new RoundDays();
        long made = allocated();
        for (int i = 0; i < 12; i++) {
            callAll(x);
        }
        long called = allocated();
        due("an object takes " + (made - start) + " bytes", made - start < MOST_BYTES_OF_AN_OBJECT);
        due("calls take " + (called - made) + " bytes", called - made < MOST_BYTES_OF_CALLS);
    }

    private static void callAll(RoundDays x) {
        x.feed(1952801133, 1931490363, 1684109600, 807416096, 840971067);
        x.text();
        x.fault();
        x.family(0, 14);
        x.weed(99);
        for (int what = 0; what < 7; what++) {
            x.now(what);
        }
        x.may();
        x.come(true, 0);
        x.sure(0);
        x.add(true);
        x.addAll(true);
        x.addAll(false);
        x.drop(0);
        x.name(0, 1);
        x.sort();
        x.drawn(60, 7);
        x.image(0);
        x.alike(0);
        x.make(1);
        x.sign(0);
        x.meets(0, 0);
        x.met(0, 1);
        x.rings(0, 1);
        try {
            x.ring(0, 1, 0);
        } catch (NoSuchElementException none) {
            x.fault();
        }
        x.starters(13, 0);
        x.starters(13, 1);
        x.starter(13, 77, 5);
        x.by(13, 77);
        x.turned();
        x.tell();
        x.undo();
        x.restore(0);
        x.end(0);
    }
}
