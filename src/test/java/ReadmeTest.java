import java.nio.file.Files;
import java.nio.file.Path;
import java.util.regex.Matcher;
import java.util.regex.Pattern;

/** What README.md shows and says is so: its example is run as it stands there, and the paths it names are there. */
public final class ReadmeTest {
    private static final Due due = new Due();

    public static void main(String[] args) throws Exception {
        String readme = Files.readString(Path.of("README.md"));
        example(readme);
        pathsNamed(readme);
        due.end();
    }

    /** The calls below are those of README.md, one by one: a call changed there must be changed here. */
    private static void example(String readme) {
        String shown = between(readme, "```java\n", "```");
        Matcher quoted = Pattern.compile("String text = \"([^\"]*)\";").matcher(shown);
        boolean told = quoted.find();
        due.holds("README.md shows a text", told);
        if (!told) {
            return;
        }
        SkittleGentry x = new SkittleGentry();
        Due.feed(x, quoted.group(1));
        due.is("told(2)", x.told(2), quoted.group(1).length());
        shows(shown, "x.county();", "3 skittles");
        due.is("county()", x.county(), 3);
        due.is("fault()", x.fault(), SkittleGentry.NONE);
        shows(shown, "x.ball(2, 1, 8);", "{0, 1, 2}: 7");
        due.is("ball(2, 1, 8)", x.ball(2, 1, 8), 7);
        shows(shown, "x.undo();", "0 more can be");
        due.is("undo()", x.undo(), 0);
        due.is("told(3)", x.told(3), 7);
        shows(shown, "x.spare(0b001, 0b000);", "2008");
        due.is("spare(1, 0)", x.spare(0b001, 0b000), 2008);
        shows(shown, "x.lift(0);", "NOT");
        due.is("lift(0)", x.lift(0), SkittleGentry.NOT);
    }

    private static void shows(String shown, String call, String answer) {
        boolean found = false;
        for (String line : shown.split("\n")) {
            found |= line.startsWith(call) && line.contains("//") && line.contains(answer);
        }
        due.holds("README.md shows " + call + " with " + answer, found);
    }

    private static void pathsNamed(String readme) {
        String[] paths = {"src/main/java/SkittleGentry.java", ".ci/run", "src/test/java/", "../shared/DOC.md",
            "../shared/LANGUAGE.md"};
        for (String path : paths) {
            due.holds("README.md names " + path, readme.contains(path));
            due.holds(path + " is there", Files.exists(Path.of(path)));
        }
        due.holds(".ci/run can be run", Files.isExecutable(Path.of(".ci/run")));
    }

    private static String between(String text, String begin, String end) {
        int from = text.indexOf(begin);
        int to = from < 0 ? -1 : text.indexOf(end, from + begin.length());
        return to < 0 ? "" : text.substring(from + begin.length(), to);
    }
}
