import java.nio.file.Files;
import java.nio.file.Paths;
import java.util.ArrayList;
import java.util.LinkedHashMap;
import java.util.List;
import java.util.Map;
import java.util.Set;
import java.util.TreeSet;
import java.util.regex.Matcher;
import java.util.regex.Pattern;

/**
 * LANGUAGE.md, rules 8 and 11: calls go at most eight deep, the library's own among them, and none comes back to
 * itself. A call is taken for one of every method that has its name and so many parameters, of whatever class.
 */
public final class DepthTest extends Kit {
    private static final int DEEPEST = 8;
    private static final Pattern HEAD =
            Pattern.compile("^( {4,8})(?:[\\w\\[\\]]+ )*(\\w+)\\((.*)\\) \\{$");
    private static final Pattern CALL = Pattern.compile("\\b(\\w+)\\(");
    private static final Set<String> LIBRARY =
            new TreeSet<>(List.of("fill/2", "arraycopy/5", "bitCount/1", "max/2", "min/2", "length/0", "charAt/1"));
    private final Map<String, Set<String>> calls = new LinkedHashMap<>();
    private final Map<String, List<String>> deepest = new LinkedHashMap<>();

    public static void main(String[] args) throws Exception {
        promise = "LANGUAGE.md, rule 11";
        DepthTest test = new DepthTest();
        test.read(new String(Files.readAllBytes(Paths.get("src/main/java/ShoeingDay.java")), "ISO-8859-1"));
        due("methods are found", test.calls.size() > 100, true);
        for (String method : test.calls.keySet()) {
            List<String> way = test.deepestFrom(method, new ArrayList<>());
            due("from " + way + " at most eight deep", way.size() <= DEEPEST, true);
        }
        finish("no calls go deeper than eight");
    }

    private void read(String source) {
        String code = source.replaceAll("(?s)/\\*.*?\\*/", "").replaceAll("//[^\n]*", "");
        String[] lines = code.replaceAll("\"[^\"\n]*\"", "\"\"").replaceAll("'[^'\n]*'", "0").split("\n");
        for (int i = 0; i < lines.length; i++) {
            Matcher head = HEAD.matcher(lines[i]);
            if (head.find() && !head.group(2).matches("if|for|while|switch")) {
                StringBuilder body = new StringBuilder();
                for (i++; !lines[i].equals(head.group(1) + "}"); i++) {
                    body.append(lines[i]).append('\n');
                }
                String name = head.group(2) + "/" + partsOf(head.group(3) + ")", 0);
                calls.computeIfAbsent(name, any -> new TreeSet<>()).addAll(callsIn(body.toString()));
            }
        }
    }

    private static Set<String> callsIn(String body) {
        Set<String> found = new TreeSet<>();
        Matcher call = CALL.matcher(body);
        while (call.find()) {
            found.add(call.group(1) + "/" + partsOf(body, call.end()));
        }
        return found;
    }

    /** How many parts, between commas, stand up to the sign that closes them. */
    private static int partsOf(String text, int from) {
        int open = 1;
        int commas = 0;
        int at = from;
        for (; open > 0; at++) {
            char sign = text.charAt(at);
            open += sign == '(' || sign == '[' ? 1 : sign == ')' || sign == ']' ? -1 : 0;
            commas += sign == ',' && open == 1 ? 1 : 0;
        }
        return text.substring(from, at - 1).isBlank() ? 0 : commas + 1;
    }

    private List<String> deepestFrom(String method, List<String> behind) {
        if (behind.contains(method)) {
            due("a call that comes back: " + behind + " and " + method, true, false);
            return List.of(method);
        }
        if (!deepest.containsKey(method)) {
            List<String> ahead = new ArrayList<>(behind);
            ahead.add(method);
            List<String> best = List.of();
            for (String called : calls.getOrDefault(method, Set.of())) {
                boolean known = calls.containsKey(called) || LIBRARY.contains(called);
                List<String> way = known ? deepestFrom(called, ahead) : List.of();
                best = way.size() > best.size() ? way : best;
            }
            List<String> whole = new ArrayList<>(List.of(method));
            whole.addAll(best);
            deepest.put(method, whole);
        }
        return deepest.get(method);
    }
}
