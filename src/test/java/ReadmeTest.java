import java.io.IOException;
import java.nio.file.Files;
import java.nio.file.Path;
import java.util.List;

/** The example of README.md: that it answers what is told there, and that it stands there as it is run here. */
public final class ReadmeTest {
    private static final Path README = Path.of("README.md");
    private static final Path OWN = Path.of("src/test/java/ReadmeTest.java");

    public static void main(String[] args) throws IOException {
        example();
        quoted();
        Check.finish();
    }

    private static void example() {
        TurtleChalk school = new TurtleChalk();
        school.repeat(4, false);
        school.forward(2, false);
        school.turn(1, false);
        school.end();
        int square = school.write(0);
        Check.due("square", square, 0);
        Check.due("steps", school.steps(square), 17);
        Check.due("strokes", school.strokes(square), 8);
        Check.due("fault", school.fault(square), TurtleChalk.FINE);

        school.set(0, 2, false);
        school.repeat(4, false);
        school.call(3);
        school.end();
        school.word(3);
        school.forward(0, true);
        school.turn(1, false);
        school.end();
        int other = school.write(1);
        Check.due("areAlike", school.areAlike(square, other), true);
        Check.due("haveOneForm", school.haveOneForm(square, other), false);
        Check.due("likeness", school.likeness(square, other), 50);

        int exercise = school.exercise(square, 10, 50);
        int work = school.handIn(square, exercise);
        int next = school.handIn(other, exercise);
        Check.due("copyOf", school.copyOf(next), TurtleChalk.NONE);
        Check.due("hangs", school.hangs(next), 300);
        Check.due("onWall", school.onWall(2, 2), work);
        Check.due("allow", school.allow(exercise, 4, 50), 1);
        Check.due("meets", school.meets(next), false);
    }

    /** Each line of the example without its comment stands in this file. */
    private static void quoted() throws IOException {
        String own = Files.readString(OWN);
        List<String> lines = Files.readAllLines(README);
        int from = lines.indexOf("```java");
        Check.holds("README.md has an example", from >= 0);
        for (int i = from + 1; i < lines.size() && !lines.get(i).equals("```"); i++) {
            String code = lines.get(i).replaceAll("//.*", "").replaceAll(";\\s*$", "").trim();
            Check.holds("run here: " + lines.get(i), own.contains(code));
        }
    }
}
