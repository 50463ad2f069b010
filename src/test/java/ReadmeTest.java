import java.io.IOException;
import java.nio.file.Files;
import java.nio.file.Path;
import java.util.ArrayList;
import java.util.List;
import java.util.regex.Matcher;
import java.util.regex.Pattern;

/** The example of README.md: its text has no fault, its calls give the answers that it tells. */
public final class ReadmeTest {
    private static final Pattern CALL = Pattern.compile("booth\\.(.*); *// (-?[0-9]+): .*");

    private final List<String> calls = new ArrayList<>();
    private int at;

    public static void main(String[] args) throws IOException {
        new ReadmeTest().hold(Files.readAllLines(Path.of("README.md")));
        Check.end("ReadmeTest");
    }

    private void hold(List<String> readme) {
        for (String line : readme) {
            Matcher call = CALL.matcher(line);
            if (call.matches()) {
                calls.add(call.group(1) + " = " + call.group(2));
            }
        }
        ReplayBooth x = Check.told(textOf(readme));
        gives("camera(0, 3)", x.camera(0, 3));
        gives("verdict(0, 1)", x.verdict(0, 1));
        gives("verdict(0, 2)", x.verdict(0, 2));
        gives("gap(0, 0, 1, false)", x.gap(0, 0, 1, false));
        gives("boards(0)", x.boards(0));
        gives("next()", x.next());
        gives("side(0, 3)", x.side(0, 3));
        gives("challenge(0, 0)", x.challenge(0, 0));
        gives("side(0, 3)", x.side(0, 3));
        gives("side(0, 1)", x.side(0, 1));
        gives("seconds(3)", x.seconds(3));
        gives("log(0, 2)", x.log(0, 2));
        gives("undo()", x.undo());
        gives("play(0, 6)", x.play(0, 6));
        Check.due("calls in README.md", calls.size(), at);
    }

    private void gives(String call, int answer) {
        Check.same("call " + at + " of README.md", at < calls.size() ? calls.get(at) : "none", call + " = " + answer);
        at++;
    }

    /** What stands between the line that opens a text and the next fence. */
    private static String textOf(List<String> readme) {
        StringBuilder text = new StringBuilder();
        int first = readme.indexOf("```text") + 1;
        for (int i = first; i < readme.size() && !readme.get(i).equals("```"); i++) {
            text.append(readme.get(i)).append('\n');
        }
        return text.toString();
    }
}
