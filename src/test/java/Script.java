import java.lang.reflect.Method;
import java.util.ArrayList;
import java.util.HashMap;
import java.util.List;
import java.util.Map;

/**
 * Runs of calls written as text, a call a line: "street 0 5 = 0". A number may also be several: "0..3"
 * or "-1,4"; then the call is made for each (the last number changing fastest), and the answers due
 * stand in that order, or one for all. "low" and "high" are the ends of int. A line "new" starts over
 * with a new object; what stands behind "#" says why.
 */
final class Script {
    private static final Map<String, Method> CALLS = calls();

    private final Due due;
    private final String title;
    private ParkDesk desk = new ParkDesk();

    private Script(Due due, String title) {
        this.due = due;
        this.title = title;
    }

    static void play(Due due, String title, String lines) {
        Script script = new Script(due, title);
        for (String line : lines.split("\n")) {
            String text = line.replaceAll("#.*", "").trim();
            if (text.equals("new")) {
                script.desk = new ParkDesk();
            } else if (!text.isEmpty()) {
                script.line(text);
            }
        }
    }

    private static Map<String, Method> calls() {
        Map<String, Method> calls = new HashMap<>();
        for (Method method : ParkDesk.class.getMethods()) {
            if (method.getDeclaringClass() == ParkDesk.class) {
                calls.put(method.getName(), method);
            }
        }
        return calls;
    }

    private void line(String text) {
        String[] sides = text.split("=");
        if (sides.length != 2) {
            throw new IllegalStateException("a line without an answer: " + text);
        }
        String[] words = sides[0].trim().split("\\s+");
        String[] answers = sides[1].trim().split("\\s+");
        List<List<Object>> all = List.of(List.of());
        for (int i = 1; i < words.length; i++) {
            all = joined(all, values(words[i]));
        }
        if (answers.length != 1 && answers.length != all.size()) {
            throw new IllegalStateException(all.size() + " calls, other answers: " + text);
        }
        for (int i = 0; i < all.size(); i++) {
            String answer = answers[answers.length == 1 ? 0 : i];
            String call = title + ": " + words[0] + all.get(i);
            due.due(call, call(words[0], all.get(i)), Integer.parseInt(answer));
        }
    }

    private static List<List<Object>> joined(List<List<Object>> heads, List<Object> tails) {
        List<List<Object>> all = new ArrayList<>();
        for (List<Object> head : heads) {
            for (Object tail : tails) {
                List<Object> one = new ArrayList<>(head);
                one.add(tail);
                all.add(one);
            }
        }
        return all;
    }

    private static List<Object> values(String word) {
        List<Object> values = new ArrayList<>();
        for (String part : word.split(",")) {
            String[] ends = part.split("\\.\\.");
            if (ends.length == 2) {
                for (int v = Integer.parseInt(ends[0]); v <= Integer.parseInt(ends[1]); v++) {
                    values.add(v);
                }
            } else {
                values.add(value(part));
            }
        }
        return values;
    }

    private static Object value(String word) {
        return switch (word) {
            case "true" -> true;
            case "false" -> false;
            case "low" -> Integer.MIN_VALUE;
            case "high" -> Integer.MAX_VALUE;
            default -> Integer.valueOf(word);
        };
    }

    private int call(String name, List<Object> args) {
        try {
            return (Integer) CALLS.get(name).invoke(desk, args.toArray());
        } catch (ReflectiveOperationException e) {
            throw new IllegalStateException(title + ": " + name + args, e);
        }
    }
}
