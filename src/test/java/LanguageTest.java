import java.nio.file.Files;
import java.nio.file.Path;
import java.util.regex.Matcher;
import java.util.regex.Pattern;

/** What of the rules of the language can be seen from the class's text. */
public final class LanguageTest {
    private static final Due due = new Due("LanguageTest");

    public static void main(String[] args) throws Exception {
        String source = Files.readString(Path.of("src/main/java/LeagueOffice.java"));
        String code = source.replaceAll("(?s)/\\*.*?\\*/", "").replaceAll("//[^\n]*", "");
        String bare = code.replaceAll("\"[^\"]*\"", "\"\"").replaceAll("'(\\\\.|[^'])'", "'x'");
        due.isTrue("every sign is plain", source.chars().allMatch(c -> c == 10 || c >= 32 && c < 127));
        for (String word : new String[] {"throw", "throws", "try", "catch", "finally", "synchronized", "assert", "instanceof", "protected",
            "package", "Exception", "Error", "Object", "HashMap", "Random", "Thread", "System.out", "System.nanoTime", "@Override",
            "equals", "hashCode", "toString", "static \\{", "->", "::", "\\.\\.\\."}) {
            boolean isWord = Character.isLetter(word.charAt(word.length() - 1));
            boolean found = Pattern.compile(isWord ? "\\b" + word + "\\b" : word).matcher(bare.replace("@", "")).find();
            due.isTrue("no " + word, !found);
        }
        Matcher imports = Pattern.compile("import ([\\w.]+);").matcher(bare);
        while (imports.find()) due.isTrue("import " + imports.group(1), imports.group(1).equals("java.util.Arrays"));
        long classes = Pattern.compile("\\bclass \\w+").matcher(bare).results().count();
        due.isTrue("so many classes: " + classes, classes <= 12);
        publicMembers(bare);
        methods(bare);
        due.end();
    }

    private static void publicMembers(String bare) {
        long members = Pattern.compile("\n    public \\w+ \\w+\\(").matcher(bare).results().count();
        due.is("public methods", members, 41 - 1);
        due.is("public words", Pattern.compile("\\bpublic\\b").matcher(bare).results().count(), 1 + 2 + 1 + 40);
    }

    private static void methods(String bare) {
        Matcher m = Pattern.compile("\n( +)(?:public |private )?(?:static )?\\w+(?:\\[\\])? (\\w+)\\(([^)]*)\\) \\{").matcher(bare);
        int seen = 0;
        while (m.find()) {
            int end = bare.indexOf("\n" + m.group(1) + "}", m.end());
            long lines = bare.substring(m.start() + 1, end).lines().count() + 1;
            due.isTrue(m.group(2) + " is short", lines <= 60);
            due.isTrue(m.group(2) + " takes seven at most", m.group(3).split(",").length <= 7);
            boolean isPublic = bare.substring(m.start(), m.end()).contains("public ");
            boolean sameName = Pattern.compile("\n    public \\w+ " + m.group(2) + "\\(").matcher(bare).find();
            due.isTrue(m.group(2) + " bears no public one's name", isPublic || !sameName);
            seen++;
        }
        due.isTrue("methods seen: " + seen, seen > 120);
    }
}
