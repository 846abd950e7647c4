import java.io.IOException;
import java.nio.file.Files;
import java.nio.file.Path;
import java.util.regex.Matcher;
import java.util.regex.Pattern;

/**
 * The examples of README.md stand here line by line, so that they are compiled and run. The third argument is the
 * project's folder, for the two texts to be compared.
 */
final class ReadmeTest {
    private static final Checks CHECKS = new Checks();
    private static final Pattern EXAMPLE = Pattern.compile("(?s)```java\n(.*?)```");
    private static final int EXAMPLES = 2;

    public static void main(String[] args) throws IOException {
        examples();
        Path folder = Path.of(args[2]);
        String here = withoutIndents(Files.readString(folder.resolve("src/test/java/ReadmeTest.java")));
        Matcher example = EXAMPLE.matcher(Files.readString(folder.resolve("README.md")));
        int found = 0;
        while (example.find()) {
            found++;
            CHECKS.due("example " + found + " of README.md stands here", here.contains(withoutIndents(example.group(1))),
                true);
        }
        CHECKS.due("examples of README.md", found, EXAMPLES);
        CHECKS.end("ReadmeTest");
    }

    private static String withoutIndents(String text) {
        return text.replaceAll("(?m)^ +", "");
    }

    private static void examples() {
        AlumWorks works = new AlumWorks();
        works.bring(0, 100);                // coal
        works.bring(1, 10);                 // barrels of urine
        int clamp = works.pile(80);
        works.light(clamp, 20);
        works.pass(10);                     // ten days go by, and the shale is burnt
        int pit = works.dig(120);
        works.steep(clamp, pit);            // half of what is burnt is alum
        int pan = works.pan();
        works.draw(pit, pan, 60);
        if (works.about(pan, 3) == 1) {     // the egg swims
            works.pour(pan, works.barrels(pan));
        }
        works.setShip(3, 60);               // the ship of the days 3, 10, 17, ...
        int coins = works.pass(7);

        CHECKS.due("coins", coins, 100);
        CHECKS.due("barrels poured", works.count(3), 6);
        CHECKS.due("all crystals taken", works.count(9), 20);
        CHECKS.due("shale left", works.clamp(clamp, 0), 0);
        long before = works.digest();

        String refused = "";
        try {
            works.light(clamp, 61);         // not 1 to 60, and the clamp has no shale left
        } catch (IllegalArgumentException named) {
            refused = "the works are as they were";
        }

        CHECKS.due("the refused call", refused, "the works are as they were");
        CHECKS.due("digest() behind it", works.digest(), before);
    }
}
