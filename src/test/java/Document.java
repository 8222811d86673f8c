import java.io.IOException;
import java.io.UncheckedIOException;
import java.nio.file.Files;
import java.nio.file.Path;
import java.util.ArrayList;
import java.util.LinkedHashMap;
import java.util.List;
import java.util.Map;
import java.util.regex.Matcher;
import java.util.regex.Pattern;

/** The document's sections, and which of their words some test quotes. */
final class Document {
    static final String TERMS = "Terms";
    private static final Pattern HEADING = Pattern.compile("(?m)^## (.*)$");
    private static final int SHOWN = 60;

    private final Map<String, String> texts = new LinkedHashMap<>();
    private final Map<String, boolean[]> quoted = new LinkedHashMap<>();

    Document() {
        String all;
        try {
            all = Files.readString(Path.of("../shared/DOC.md"));
        } catch (IOException e) {
            throw new UncheckedIOException(e);
        }
        Matcher heading = HEADING.matcher(all);
        String name = null;
        int from = 0;
        while (heading.find()) {
            keep(name, all.substring(from, heading.start()));
            name = heading.group(1).replaceAll(":.*", "");
            from = heading.end();
        }
        keep(name, all.substring(from));
    }

    static String promise(int number) {
        return "Promise " + number;
    }

    private void keep(String name, String text) {
        if (name == null) {
            return;
        }
        String plain = text.replaceAll("```\\w*", " ").replaceAll("==== \\d\\.", " ").replaceAll("\\s+", " ").trim();
        if (name.startsWith("Promise")) {
            // A promise begins with its declaration, which LanguageTest compares with the class.
            plain = plain.replaceFirst("^`[^`]*`: ", "");
        }
        texts.put(name, plain);
        quoted.put(name, new boolean[plain.length()]);
    }

    /** Whether the section has these words; they count as quoted from now on. */
    boolean quote(String section, String words) {
        String text = texts.getOrDefault(section, "");
        boolean found = false;
        for (int at = text.indexOf(words); at >= 0; at = text.indexOf(words, at + 1)) {
            if (at == 0 || !Character.isLetterOrDigit(text.charAt(at - 1))) {
                found = true;
                for (int i = at; i < at + words.length(); i++) {
                    quoted.get(section)[i] = true;
                }
            }
        }
        return found;
    }

    /** Words of "Terms" and of the promises that no test quotes. */
    List<String> unquoted() {
        List<String> found = new ArrayList<>();
        for (Map.Entry<String, String> section : texts.entrySet()) {
            if (section.getKey().equals(TERMS) || section.getKey().startsWith("Promise")) {
                addUnquoted(section.getKey(), section.getValue(), found);
            }
        }
        return found;
    }

    private void addUnquoted(String name, String text, List<String> found) {
        boolean[] is = quoted.get(name);
        for (int i = 0; i < is.length; i++) {
            if (!is[i] && text.charAt(i) != ' ') {
                found.add(name + ": " + text.substring(i, Math.min(text.length(), i + SHOWN)));
                while (i < is.length && !is[i]) {
                    i++;
                }
            }
        }
    }

    int promises() {
        int found = 0;
        for (String name : texts.keySet()) {
            found += name.startsWith("Promise") ? 1 : 0;
        }
        return found;
    }
}
