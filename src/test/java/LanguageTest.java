import java.nio.file.Files;
import java.nio.file.Path;
import java.util.HashMap;
import java.util.List;
import java.util.Map;
import java.util.regex.Matcher;
import java.util.regex.Pattern;

/** The rules of ../shared/LANGUAGE.md that can be looked for in the source's words, under their numbers. */
public final class LanguageTest {
    private static final Checks CHECKS = new Checks();

    private static final String[] RULED_OUT = {
        "2: \\bclass (?!TurningSums\\b)|\\benum\\b|\\brecord\\b|\\binterface\\b|->|::",
        "3: \\b(Object|Long|Double|Float|Byte|Short|Character|Boolean|Number)\\b",
        "4: \\bSystem\\.(?!arraycopy\\()|\\bMath\\.(?!floorMod\\(|max\\(|abs\\()|\\bArrays\\.(?!fill\\()|\\bInteger\\b",
        "4: \\w+Exact\\b|MIN_VALUE|MAX_VALUE|\\bjava\\.(?!util\\.Arrays;)",
        "5: \\bstatic (?!final\\b)(?!\\w+ \\w+\\()|\\bstatic \\{",
        "6: \\b(throw|throws|try|catch|finally|synchronized|assert|instanceof|equals|hashCode|toString)\\b",
        "9: \\bwhile\\b|\\bdo\\b",
        "10: \"",
        "1: \\bprotected\\b|\\bpackage\\b|\\bvolatile\\b|\\btransient\\b",
        "3: [^\\x00-\\x7f]"
    };

    /** A counter that is set, held against a bound that is no reckoning with the counter, and moved by one. */
    private static final Pattern COUNTED = Pattern.compile(
        "int (\\w+) = [^;]+; \\1 (<=? (?![^;]*\\b\\1\\b)[^;]+; \\1\\+\\+|>=? (?![^;]*\\b\\1\\b)[^;]+; \\1--)");
    private static final Pattern METHOD = Pattern.compile("    (public|private) .*?(\\w+)\\((.*)\\) \\{");

    public static void main(String[] args) throws Exception {
        Path source = Path.of(args.length > 0 ? args[0] : "src/main/java/TurningSums.java");
        String text = Files.readString(source).replaceAll("(?s)/\\*.*?\\*/", "").replaceAll("//[^\n]*", "");
        words(text);
        loops(text);
        countersStayAsTheyAre(text);
        objects(text);
        methods(List.of(text.split("\n")));
        noRecursionAndNotDeep(List.of(text.split("\n")));
        CHECKS.end("LanguageTest");
    }

    private static void words(String text) {
        for (String rule : RULED_OUT) {
            Matcher found = Pattern.compile(rule.substring(rule.indexOf(' ') + 1)).matcher(text);
            boolean has = found.find();
            CHECKS.due("rule " + rule + (has ? " is broken by " + found.group() : ""), has ? 1 : 0, 0);
        }
    }

    /** Rule 9. */
    private static void loops(String text) {
        Matcher loop = Pattern.compile("\\bfor \\((.*)\\) \\{").matcher(text);
        int many = 0;
        while (loop.find()) {
            many++;
            boolean counted = COUNTED.matcher(loop.group(1)).matches();
            CHECKS.due("rule 9: the end is seen of for (" + loop.group(1) + ")", counted ? 1 : 0, 1);
        }
        CHECKS.due("every loop stands on a line of its own", text.split("\\bfor\\b", -1).length - 1, many);
    }

    /** Rule 9: inside a loop nothing but its header moves its counter. */
    private static void countersStayAsTheyAre(String text) {
        String[] lines = text.split("\n");
        for (int i = 0; i < lines.length; i++) {
            Matcher loop = Pattern.compile("( *)for \\(int (\\w+) = .*").matcher(lines[i]);
            if (!loop.matches()) {
                continue;
            }
            Pattern moved = Pattern.compile("(?<![\\w.])" + loop.group(2) + "( [-+*/%&|^]?= |\\+\\+|--)"
                + "|(\\+\\+|--)" + loop.group(2) + "\\b");
            for (int j = i + 1; !lines[j].equals(loop.group(1) + "}"); j++) {
                CHECKS.due("rule 9: " + loop.group(2) + " is moved by: " + lines[j].trim(),
                    moved.matcher(lines[j]).find() ? 1 : 0, 0);
            }
        }
    }

    /** Rule 12, and the room: rows are made with the object, none by a call. */
    private static void objects(String text) {
        for (String line : text.split("\n")) {
            boolean makes = Pattern.compile("\\bnew\\b|\\.clone\\(|Arrays\\.copy").matcher(line).find();
            boolean ofAField = line.matches("    private final \\w+(\\[])+ \\w+ = new [^;]+;");
            CHECKS.due("rule 12: made outside a field: " + line.trim(), makes && !ofAField ? 1 : 0, 0);
        }
    }

    /** Rule 11. */
    private static void methods(List<String> lines) {
        int begin = -1;
        String name = "";
        for (int i = 0; i < lines.size(); i++) {
            Matcher method = METHOD.matcher(lines.get(i));
            if (method.matches()) {
                begin = i;
                name = method.group(2);
                CHECKS.due("rule 11: parameters of " + name, method.group(3).split(",").length > 7 ? 1 : 0, 0);
            } else if (begin >= 0 && lines.get(i).equals("    }")) {
                CHECKS.due("rule 11: lines of " + name, i - begin + 1 > 60 ? 1 : 0, 0);
                begin = -1;
            }
        }
    }

    /** Rules 8 and 11: no method comes to itself, and calls go at most eight deep. */
    private static void noRecursionAndNotDeep(List<String> lines) {
        Map<String, StringBuilder> bodies = new HashMap<>();
        StringBuilder body = new StringBuilder();
        for (String line : lines) {
            Matcher method = METHOD.matcher(line);
            if (method.matches()) {
                body = new StringBuilder();
                CHECKS.due("rule 1: methods named " + method.group(2), bodies.put(method.group(2), body) == null ? 1 : 2, 1);
            } else {
                body.append(line).append('\n');
            }
        }
        for (String name : bodies.keySet()) {
            CHECKS.due("rules 8, 11: calls go too deep from " + name, depth(name, bodies, 1) > 8 ? 1 : 0, 0);
        }
    }

    private static int depth(String name, Map<String, StringBuilder> bodies, int at) {
        int deepest = at;
        for (String other : bodies.keySet()) {
            boolean called = Pattern.compile("(?<![\\w.])" + other + "\\(").matcher(bodies.get(name)).find();
            if (called && at <= 8) {
                deepest = Math.max(deepest, depth(other, bodies, at + 1));
            }
        }
        return deepest;
    }
}
