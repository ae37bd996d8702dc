import java.lang.reflect.Method;
import java.nio.file.Files;
import java.nio.file.Path;
import java.util.HashMap;
import java.util.Map;
import java.util.regex.Matcher;
import java.util.regex.Pattern;

/** The calls that README.md shows, one behind the other: each answers what is told behind it. */
public final class ReadmeTest extends Checks {
    private static final Pattern CALL = Pattern.compile("(?:int (\\w+) = )?x\\.(\\w+)\\((.*)\\); *// (-?\\d+).*");
    private static final Map<String, Integer> NAMES = new HashMap<>();

    public static void main(String[] args) throws Exception {
        String[] blocks = Files.readString(Path.of("README.md")).split("```java\n");
        is("blocks of calls", blocks.length, 2);
        String[] lines = blocks[1].substring(0, blocks[1].indexOf("```")).split("\n");
        is("the first line makes the object", lines[0].equals("SoldNews x = new SoldNews();") ? 1 : 0, 1);
        NAMES.put("SoldNews.NONE", SoldNews.NONE);
        SoldNews x = new SoldNews();
        for (int i = 1; i < lines.length; i++) {
            Matcher call = CALL.matcher(lines[i]);
            is("a call with its answer stands in \"" + lines[i] + "\"", call.matches() ? 1 : 0, 1);
            if (call.matches()) {
                ask(x, call);
            }
        }
        end();
    }

    private static void ask(SoldNews x, Matcher call) throws Exception {
        String[] words = call.group(3).isEmpty() ? new String[0] : call.group(3).split(", *");
        for (Method method : SoldNews.class.getMethods()) {
            if (method.getDeclaringClass() == SoldNews.class && method.getName().equals(call.group(2))) {
                Class<?>[] types = method.getParameterTypes();
                is("arguments of " + call.group(), words.length, types.length);
                Object[] values = new Object[words.length];
                for (int i = 0; i < words.length; i++) {
                    values[i] = types[i] == long.class ? valueOf(words[i]) : (Object) (int) valueOf(words[i]);
                }
                long got = ((Number) method.invoke(x, values)).longValue();
                is(call.group(), got, Long.parseLong(call.group(4)));
                if (call.group(1) != null) {
                    NAMES.put(call.group(1), (int) got);
                }
            }
        }
    }

    private static long valueOf(String word) {
        Integer named = NAMES.get(word);
        return named != null ? named : Long.decode(word.replaceAll("L$", ""));
    }
}
