import java.io.IOException;
import java.nio.file.Files;
import java.nio.file.Path;

/** The example of README.md answers what its comments say, and is still the one that stands there. */
public final class ReadmeTest {
    private static final String[] EXAMPLE = {
        "x.section();", "x.sub(100);", "x.sub(100);", "x.section();", "x.sub(100);", "x.begin(10, 20, 5);",
        "x.connect(0, 80);", "x.report(0, 90, 1);", "x.detect(0, true);", "x.state(0);", "x.request(0, 2);",
        "x.tick(11);", "x.state(0);", "x.count(4, 0);",
    };

    public static void main(String[] args) throws IOException {
        answers();
        stands(Files.readString(Path.of("README.md")));
        Kit.end();
    }

    private static void answers() {
        TrackKeeper x = new TrackKeeper();
        Kit.same("section 0", x.section(), 0);
        Kit.same("subsection 0", x.sub(100), 0);
        Kit.same("subsection 1", x.sub(100), 1);
        Kit.same("section 1", x.section(), 1);
        Kit.same("subsection 2", x.sub(100), 2);
        Kit.same("length of the track", x.begin(10, 20, 5), 300);
        x.connect(0, 80);
        Kit.same("report", x.report(0, 90, 1), true);
        x.detect(0, true);
        Kit.same("state", x.state(0), TrackKeeper.OCCUPIED);
        Kit.same("request", x.request(0, 2), 2);
        Kit.same("tick", x.tick(11), 11);
        Kit.same("state later", x.state(0), TrackKeeper.UNKNOWN);
        Kit.same("withdrawn", x.count(4, 0), 1);
    }

    private static void stands(String readme) {
        int place = 0;
        for (String call : EXAMPLE) {
            int found = readme.indexOf(call, place);
            Kit.same(call + " stands in README.md, in its order", found >= 0, true);
            place = Math.max(place, found + call.length());
        }
    }
}
