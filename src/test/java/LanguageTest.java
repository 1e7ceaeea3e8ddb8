import java.nio.file.Files;
import java.nio.file.Path;
import java.util.Set;
import java.util.TreeSet;
import java.util.regex.Matcher;
import java.util.regex.Pattern;

/** What of ../shared/LANGUAGE.md can be seen in the program's text alone. It runs from the project's root. */
public final class LanguageTest {
    private static final Path PROGRAM = Path.of("src/main/java/LoanNames.java");
    private static final Set<String> FACE = Set.of("family", "feed", "deal", "law", "word", "fault", "size", "leaf",
        "plain", "same", "add", "clear", "passed", "net", "codes", "lends", "price", "loan", "step", "bears", "cost",
        "breach", "bars", "offer", "sly", "honest", "innocent", "parts", "stop", "heap", "group", "count");
    private static final String HEAD = "(?m)^( {4}| {8})((?:public |private |static |final |abstract )*)"
        + "(?:[A-Za-z]+(?:\\[\\])? )?([A-Za-z]+)\\(([^)]*)\\) \\{$";

    private static int wrong;

    public static void main(String[] args) throws Exception {
        String whole = Files.readString(PROGRAM);
        String bare = whole.replaceAll("(?s)/\\*.*?\\*/", "").replaceAll("//[^\n]*", "")
            .replaceAll("\"[^\"\n]*\"", "\"\"");
        for (String word : new String[] {"throw", "throws", "try", "catch", "synchronized", "assert", "yield", "var",
            "sealed", "native", "volatile", "transient", "protected", "package", "Object", "Exception", "Random"}) {
            refuse(Pattern.compile("\\b" + word + "\\b").matcher(bare).find(), "the word " + word);
        }
        refuse(bare.contains("->") || bare.contains("::"), "a lambda or a method reference");
        refuse(Pattern.compile("\\w+Exact\\(").matcher(bare).find(), "a function whose name ends in Exact");
        refuse(whole.chars().anyMatch(c -> c > 126 || c < 32 && c != '\n'), "a sign beyond 126");
        Matcher imports = Pattern.compile("(?m)^import (.*);$").matcher(bare);
        while (imports.find()) {
            refuse(!Set.of("java.util.Arrays", "java.util.ArrayList", "java.util.List").contains(imports.group(1)),
                "import " + imports.group(1));
        }
        refuse(bare.split("\\bclass \\w+ \\{", -1).length - 1 > 12, "more than twelve classes");
        refuse(Pattern.compile("(?m)^    (?!public|private|\\})\\w").matcher(bare).find(), "a package-visible member");
        Matcher state = Pattern.compile("(?m)^ +(?:private |public )?static (?!final )[^(]*[=;]").matcher(bare);
        refuse(state.find(), "a static field that is not final");
        methods(bare);
        if (wrong != 0) {
            System.exit(1);
        }
    }

    private static void methods(String bare) {
        Set<String> names = new TreeSet<>();
        Matcher heads = Pattern.compile(HEAD).matcher(bare);
        while (heads.find()) {
            String name = heads.group(3);
            names.add(name);
            boolean isPublic = heads.group(2).contains("public");
            refuse(FACE.contains(name) && !isPublic, "a method of its own named " + name);
            refuse(!FACE.contains(name) && isPublic && !name.equals("LoanNames"), "public " + name);
            refuse(heads.group(4).split(",").length > 7, "more than seven parameters of " + name);
            int end = bare.indexOf("\n" + heads.group(1) + "}\n", heads.start());
            refuse(bare.substring(heads.start(), end).split("\n").length > 60, "more than sixty lines of " + name);
        }
        refuse(!names.containsAll(FACE), "a face that is not whole");
    }

    private static void refuse(boolean is, String what) {
        if (is) {
            wrong++;
            System.out.println("the program has " + what);
        }
    }
}
