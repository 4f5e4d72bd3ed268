import java.io.IOException;

/** The script .ci/run: every test of the project and of ../shared/tests counts. */
public final class RunTest {
    private static final String PASSES =
            "public final class NAME { public static void main(String[] a) {"
            + " System.exit(new BitDrive().count(0)); } }\n";
    private static final String FAILS = PASSES.replace("count(0)", "count(9)");
    private static final String NO_SUCH_CALL = PASSES.replace("count(0)", "sum(0)");

    public static void main(String[] args) throws Exception {
        allTestsRun();
        oneThatFailsIsEnough("a test of the project fails", Project.TESTS, FAILS);
        oneThatFailsIsEnough("a shared test fails", Project.SHARED_TESTS, FAILS);
        oneThatFailsIsEnough("a test of the project calls what is not there", Project.TESTS, NO_SUCH_CALL);
        oneThatFailsIsEnough("a shared test calls what is not there", Project.SHARED_TESTS, NO_SUCH_CALL);
        Check.finish();
    }

    /** One test of the project and one shared test, which pass. */
    static void putPassing(Project project) throws IOException {
        put(project, Project.TESTS, "FirstTest", PASSES);
        put(project, Project.SHARED_TESTS, "SharedRuns", PASSES);
    }

    private static void put(Project project, String directory, String name, String text) throws IOException {
        project.put(directory + "/" + name + ".java", text.replace("NAME", name));
    }

    private static void allTestsRun() throws Exception {
        Project project = new Project();
        putPassing(project);
        Project.Ended ended = project.run("cd / && sh \"$OLDPWD\"/" + Project.SCRIPT);
        Check.due("exit code if all pass", ended.code(), 0);
        printed(ended, "== src/test/java/FirstTest.java\n");
        printed(ended, "== ../shared/tests/SharedRuns.java\n");
        printed(ended, "2 tests ran, 0 failed\n");
        project.remove();
    }

    /** The others pass, ahead of it and behind it, and are run all the same. */
    private static void oneThatFailsIsEnough(String what, String directory, String text) throws Exception {
        Project project = new Project();
        putPassing(project);
        put(project, directory, "MiddleTest", text);
        put(project, Project.SHARED_TESTS, "LastRuns", PASSES);
        Project.Ended ended = project.run("sh " + Project.SCRIPT);
        Check.due("exit code above 0 if " + what, ended.code() > 0 ? 1 : 0, 1);
        printed(ended, "FAILED: " + directory + "/MiddleTest.java\n");
        printed(ended, "4 tests ran, 1 failed\n");
        project.remove();
    }

    private static void printed(Project.Ended ended, String line) {
        boolean there = ended.printed().contains(line);
        Check.due("printed " + line.trim(), there ? 1 : 0, 1);
        if (!there) {
            System.out.println(ended.printed());
        }
    }
}
