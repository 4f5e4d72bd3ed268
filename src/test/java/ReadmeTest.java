import java.lang.reflect.Method;
import java.lang.reflect.Modifier;
import java.nio.file.Files;
import java.nio.file.Path;
import java.util.ArrayList;
import java.util.List;
import java.util.Set;
import java.util.TreeSet;
import java.util.regex.Matcher;
import java.util.regex.Pattern;

/** What README.md says: its programs and commands are run as they stand there. */
public final class ReadmeTest {
    private static String page;

    public static void main(String[] args) throws Exception {
        page = Files.readString(Path.of("README.md"));
        programsPrintWhatTheyShould();
        testsRunAsTold();
        oneTestRunsAsTold();
        callsAreTheFace();
        examplesUseEachCall();
        testsAreNamed();
        Check.finish();
    }

    private static void programsPrintWhatTheyShould() throws Exception {
        List<String> programs = fenced("java");
        Check.due("programs of README.md", programs.size(), 2);
        Project project = new Project();
        for (String program : programs) {
            project.put(nameOf(program) + ".java", program);
        }
        Project.Ended ended = project.run(commands(0));
        Check.due("exit code of the programs", ended.code(), 0);
        same("what the programs print", ended.printed(), fenced("text").get(0));
        project.remove();
    }

    private static String nameOf(String program) {
        Matcher matcher = Pattern.compile("public final class (\\w+)").matcher(program);
        Check.due("a program has a class", matcher.find() ? 1 : 0, 1);
        return matcher.group(1);
    }

    private static void testsRunAsTold() throws Exception {
        same("how all tests are run", commands(1), "sh " + Project.SCRIPT + "\n");
        Project project = new Project();
        RunTest.putPassing(project);
        Check.due("exit code of " + commands(1), project.run(commands(1)).code(), 0);
        project.remove();
    }

    private static void oneTestRunsAsTold() throws Exception {
        Project project = new Project();
        project.copyTests();
        Project.Ended ended = project.run(commands(2));
        Check.due("exit code of one test alone", ended.code(), 0);
        same("what one test alone prints", ended.printed(), "all answers are as due\n");
        project.remove();
    }

    private static void callsAreTheFace() {
        Set<String> told = new TreeSet<>();
        for (String[] row : callRows()) {
            told.add(row[0] + " " + row[1]);
        }
        Set<String> face = new TreeSet<>();
        for (Method method : BitDrive.class.getDeclaredMethods()) {
            if (Modifier.isPublic(method.getModifiers())) {
                face.add(method.getName() + " " + method.getParameterCount());
            }
        }
        same("the calls that README.md names", told.toString(), face.toString());
    }

    private static void examplesUseEachCall() {
        String programs = String.join("", fenced("java"));
        for (String[] row : callRows()) {
            Check.due("an example of " + row[0], programs.contains("drive." + row[0] + "(") ? 1 : 0, 1);
        }
    }

    /** Name and number of parameters of each call in the table; the rows follow the promises from 2 on. */
    private static List<String[]> callRows() {
        List<String[]> rows = new ArrayList<>();
        Matcher matcher = Pattern.compile("(?m)^\\| `(\\w+)\\((.*?)\\)` \\| (\\d+): ").matcher(page);
        while (matcher.find()) {
            String parameters = matcher.group(2);
            int many = parameters.isEmpty() ? 0 : parameters.split(", ").length;
            Check.due("promise of " + matcher.group(1), Integer.parseInt(matcher.group(3)), rows.size() + 2);
            rows.add(new String[] {matcher.group(1), String.valueOf(many)});
        }
        return rows;
    }

    private static void testsAreNamed() throws Exception {
        Set<String> files = new TreeSet<>();
        for (Path file : Project.list(Path.of(Project.TESTS))) {
            files.add(file.getFileName().toString().replace(".java", ""));
        }
        String part = page.substring(page.indexOf("The tests are in"));
        Set<String> told = new TreeSet<>();
        Matcher matcher = Pattern.compile("`([A-Z]\\w+)`").matcher(part);
        while (matcher.find()) {
            told.add(matcher.group(1));
        }
        same("the tests that README.md names", told.toString(), files.toString());
    }

    private static String commands(int i) {
        return fenced("sh").get(i);
    }

    /** What stands between the fences of that kind, in their order. */
    private static List<String> fenced(String kind) {
        List<String> blocks = new ArrayList<>();
        Matcher matcher = Pattern.compile("(?ms)^```" + kind + "\n(.*?)^```$").matcher(page);
        while (matcher.find()) {
            blocks.add(matcher.group(1));
        }
        return blocks;
    }

    private static void same(String what, String got, String want) {
        Check.due(what, got.equals(want) ? 1 : 0, 1);
        if (!got.equals(want)) {
            System.out.println("got:\n" + got + "\ndue:\n" + want);
        }
    }
}
