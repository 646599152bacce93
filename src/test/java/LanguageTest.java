import java.io.IOException;
import java.nio.file.Files;
import java.nio.file.Path;
import java.util.regex.Matcher;
import java.util.regex.Pattern;

/** A coarse watch over the rules of LANGUAGE.md that can be seen in the text of the program. */
public final class LanguageTest {
    private static final String[] FORBIDDEN = {
        "\\bimport\\b", "\\bpackage\\b", "\\bcatch\\b", "\\bfinally\\b", "\\bsynchronized\\b", "\\bassert\\b",
        "\\bSystem\\.(?!arraycopy)", "->", "::", "Exact\\(", "\\bnative\\b", "\\bvolatile\\b", "\\btransient\\b",
        "\\bprotected\\b", "@", "[^\\x00-\\x7f]", "\\bwhile \\(true\\)",
        "\\bstatic (?!final )[\\w\\[\\]]+ \\w+\\s*[;=]", "\\bstatic \\{", "\"\\s*\\+", "\\+\\s*\"",
    };

    public static void main(String[] args) throws IOException {
        String text = Files.readString(Path.of("src/main/java/CertHerd.java"));
        String code = text.replaceAll("(?s)/\\*.*?\\*/", "").replaceAll("//[^\n]*", "");
        for (String pattern : FORBIDDEN) {
            Matcher matcher = Pattern.compile(pattern).matcher(code);
            Check.same("forbidden " + pattern, matcher.find() ? matcher.group() : "", "");
        }
        Check.end();
    }
}
