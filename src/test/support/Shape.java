import java.util.ArrayList;
import java.util.HashSet;
import java.util.LinkedHashMap;
import java.util.List;
import java.util.Map;
import java.util.Set;
import java.util.regex.Matcher;
import java.util.regex.Pattern;

/** The methods of a source, by a look at its words: how long each is, what it calls, how deep its calls go. */
final class Shape {
    private static final Pattern HEAD = Pattern.compile("(?m)^ +(?:(?:public|private|static|final) )*([\\w\\[\\]]+) (\\w+)\\(([^)]*)\\) \\{");
    private static final Pattern CALL = Pattern.compile("(?:\\b(Math|Integer|Arrays|System)\\.)?\\b(\\w+)\\(");
    private static final Set<String> NO_TYPES = Set.of("else", "return", "new", "case");
    private static final int TOO_DEEP = 1000;

    private final Map<String, String> bodies = new LinkedHashMap<>();
    private final Map<String, Integer> parameters = new LinkedHashMap<>();
    private final List<String> twice = new ArrayList<>();

    Shape(String source) {
        String code = withoutComments(source);
        Matcher head = HEAD.matcher(code);
        while (head.find()) {
            if (NO_TYPES.contains(head.group(1))) {
                continue;
            }
            String name = head.group(2);
            if (bodies.containsKey(name)) {
                twice.add(name);
            }
            bodies.put(name, code.substring(head.end() - 1, endOfBlock(code, head.end() - 1)));
            parameters.put(name, head.group(3).isEmpty() ? 0 : head.group(3).split(",").length);
        }
    }

    private static String withoutComments(String source) {
        return source.replaceAll("(?s)/\\*.*?\\*/", " ").replaceAll("//[^\n]*", " ");
    }

    private static int endOfBlock(String code, int start) {
        int open = 0;
        for (int i = start; i < code.length(); i++) {
            open += code.charAt(i) == '{' ? 1 : code.charAt(i) == '}' ? -1 : 0;
            if (open == 0) {
                return i + 1;
            }
        }
        return code.length();
    }

    Set<String> methods() {
        return bodies.keySet();
    }

    /** Two of one name can't be told apart by a look. */
    List<String> namedTwice() {
        return twice;
    }

    int lines(String method) {
        return bodies.get(method).split("\n").length;
    }

    int parametersOf(String method) {
        return parameters.get(method);
    }

    boolean makesObjects(String method) {
        return Pattern.compile("\\bnew\\b|\\bclone\\(|\\bcopyOf").matcher(bodies.get(method)).find();
    }

    /** How many calls stand open at most, the method's own and the library's counted too. */
    int depth(String method) {
        return depth(method, new HashSet<>());
    }

    private int depth(String method, Set<String> open) {
        if (!open.add(method)) {
            return TOO_DEEP;
        }
        int below = 0;
        Matcher call = CALL.matcher(bodies.get(method));
        while (call.find()) {
            if (call.group(1) != null) {
                below = Math.max(below, 1);
            } else if (bodies.containsKey(call.group(2))) {
                below = Math.max(below, depth(call.group(2), open));
            }
        }
        open.remove(method);
        return below + 1;
    }
}
