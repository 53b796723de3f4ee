import java.io.IOException;
import java.nio.file.Files;
import java.nio.file.Path;

/** That README.md's example is the one that stands here, that it answers what README.md says, and names each test. */
final class ReadmeTest {
    public static void main(String[] args) throws IOException {
        theExample();
        String readme = Files.readString(Path.of("README.md"));
        theSameLines(readme, Files.readString(Path.of("src/test/java/ReadmeTest.java")));
        theTests(readme);
        Checks.finish();
    }

    private static void theExample() {
        ChuteLoft loft = new ChuteLoft();
        int jumper = loft.jumper(80, 3);
        int rig = loft.rig(200, 30);
        Checks.same("who had it", loft.lend(rig, jumper), -1);
        Checks.same("neat", loft.pack(rig, jumper), 9);
        loft.wind(9, 10, 0);
        Checks.same("ground", loft.wind(0, -10, 0), 10);
        Checks.same("aboard", loft.board(jumper, 0, 4), 1);
        int spot = loft.spot(3);
        int points = loft.fly(spot, 3);
        double x = loft.landed(jumper, false);
        Checks.same("numbers", jumper + rig, 0);
        Checks.same("spot", spot, 100);
        Checks.same("points", points, 3);
        Checks.same("x", x, -4.0);
        Checks.same("why not", loft.refuses(jumper), 2);
    }

    /** Each call of the example, without what is said behind it, stands in the test too. */
    private static void theSameLines(String readme, String test) {
        int from = readme.indexOf("```java");
        int to = readme.indexOf("```", from + 3);
        Checks.same("there is an example", from >= 0 && to > from, true);
        for (String line : readme.substring(from, to).split("\n")) {
            String call = line.replaceFirst("\\s*//.*", "").replaceFirst("^```java", "").replaceFirst(";$", "").trim();
            Checks.same(call + " is tested", test.contains(call), true);
        }
    }

    private static void theTests(String readme) throws IOException {
        try (var files = Files.newDirectoryStream(Path.of("src/test/java"), "*.java")) {
            for (Path file : files) {
                String name = file.getFileName().toString().replace(".java", "");
                Checks.same("README.md names " + name, readme.contains("`" + name + "`"), true);
            }
        }
    }
}
