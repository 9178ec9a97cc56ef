import java.io.ByteArrayOutputStream;
import java.io.IOException;
import java.io.PrintStream;
import java.nio.file.DirectoryStream;
import java.nio.file.Files;
import java.nio.file.Path;
import java.util.ArrayList;
import java.util.List;
import java.util.Set;
import java.util.TreeSet;

/** README.md: what it says of the class is what the document says, and what the class does. */
final class ReadmeTest {
    private static final Check check = new Check("ReadmeTest");
    private static final int FUEL = 1000;

    private final List<String> readme;
    private final List<String> document;

    private ReadmeTest(List<String> readme, List<String> document) {
        this.readme = readme;
        this.document = document;
    }

    public static void main(String[] args) throws IOException {
        ReadmeTest test = new ReadmeTest(Files.readAllLines(Path.of("README.md")),
            Files.readAllLines(Path.of("../shared/DOC.md")));
        test.everyPartOfTheFaceHasItsHeading();
        test.theExampleIsTheFile();
        test.theExamplePrintsWhatIsShown();
        test.kindsWithTheirTexts();
        test.statusesWithTheirTexts();
        test.theGrammarIsTheDocuments();
        test.everyTestIsListed();
        check.end();
    }

    private static void same(String what, Object got, Object due) {
        check.due(what + ": " + got + ", due is " + due + ", same", got.equals(due) ? 1 : 0, 1);
    }

    /** The lines of the first block of that language behind this heading. */
    private static List<String> block(List<String> lines, String heading, String language) {
        List<String> found = new ArrayList<>();
        int at = lines.indexOf(heading);
        while (at >= 0 && at < lines.size() && !lines.get(at).equals("```" + language)) {
            at++;
        }
        for (int i = at + 1; at >= 0 && i < lines.size() && !lines.get(i).equals("```"); i++) {
            found.add(lines.get(i));
        }
        return found;
    }

    /** The rows of the first table with this head, cut into their cells. */
    private List<String[]> table(String head) {
        List<String[]> rows = new ArrayList<>();
        int at = readme.indexOf(head);
        check.due("there is a table " + head, at >= 0 ? 1 : 0, 1);
        for (int i = at + 2; at >= 0 && i < readme.size() && readme.get(i).startsWith("|"); i++) {
            String[] cells = readme.get(i).substring(1).split("\\|");
            for (int j = 0; j < cells.length; j++) {
                cells[j] = cells[j].strip();
            }
            rows.add(cells);
        }
        return rows;
    }

    private static String unquoted(String cell) {
        return cell.replace("`", "");
    }

    private void everyPartOfTheFaceHasItsHeading() {
        List<String> due = new ArrayList<>();
        for (String line : block(document, "## The public face", "java")) {
            if (line.endsWith(");")) {
                due.add("### `" + line.strip().replace(";", "") + "`");
            }
        }
        List<String> got = new ArrayList<>();
        for (String line : readme) {
            if (line.startsWith("### `public")) {
                got.add(line);
            }
        }
        check.due("parts of the face", due.size(), 12);
        same("headings", got, due);
    }

    private void theExampleIsTheFile() throws IOException {
        same("the example", block(readme, "## How to use it", "java"),
            Files.readAllLines(Path.of("src/test/java/Example.java")));
    }

    private void theExamplePrintsWhatIsShown() {
        ByteArrayOutputStream printed = new ByteArrayOutputStream();
        PrintStream before = System.out;
        System.setOut(new PrintStream(printed, true));
        Example.main(new String[0]);
        System.setOut(before);
        same("what it prints", printed.toString().lines().toList(), block(readme, "## How to use it", "text"));
    }

    private void kindsWithTheirTexts() {
        List<String[]> rows = table("| Kind | What is wrong | Text | Tree | Code | Answer |");
        check.due("kinds", rows.size(), 11);
        for (int i = 0; i < rows.size(); i++) {
            String[] row = rows.get(i);
            int answer = Integer.parseInt(row[5]);
            check.due("kind of row " + i, Integer.parseInt(row[0]), i + 1);
            check.due("kind of its answer", answer % 16, i + 1);
            TinyC x = new TinyC(400, Integer.parseInt(row[3]), Integer.parseInt(row[4]), 200, 20);
            check.due("compile() of " + row[2], Check.fed(x, unquoted(row[2])).compile(), answer);
        }
    }

    private void statusesWithTheirTexts() {
        List<String[]> rows = table("| Status | Meaning | Text |");
        int[] due = {0, 1, 2, 3, 4, 5, 6, -1, -2};
        check.due("statuses", rows.size(), due.length);
        for (int i = 0; i < rows.size() && i < due.length; i++) {
            String[] row = rows.get(i);
            check.due("status of row " + i, Integer.parseInt(row[0]), due[i]);
            if (row.length > 2 && !row[2].isEmpty()) {
                bothTell(unquoted(row[2]), due[i]);
            }
            check.due("row " + i + " has a text", row.length > 2 && !row[2].isEmpty() ? 1 : 0, due[i] >= 0 ? 1 : 0);
        }
    }

    private static void bothTell(String text, int status) {
        TinyC x = Check.fed(new TinyC(400, 400, 400, 200, 20), text);
        check.due("run ahead of compile() of " + text, x.run(FUEL), -1);
        check.due("interpret ahead of compile() of " + text, x.interpret(FUEL), -1);
        check.due("compile() of " + text, x.compile(), 0);
        check.due("run of " + text, x.run(FUEL), status);
        check.due("interpret behind it", x.interpret(FUEL), -2);
        x.reset();
        check.due("interpret of " + text, x.interpret(FUEL), status);
        check.due("step behind it", x.step(), -2);
        check.due("run behind it", x.run(FUEL), -2);
    }

    private void theGrammarIsTheDocuments() {
        List<String> told = block(readme, "## The text", "text");
        check.due("lines of the grammar", told.size(), 3);
        for (String line : told) {
            check.due("the document has " + line, document.contains(line) ? 1 : 0, 1);
        }
    }

    private void everyTestIsListed() throws IOException {
        Set<String> due = new TreeSet<>();
        try (DirectoryStream<Path> files = Files.newDirectoryStream(Path.of("src/test/java"), "*Test.java")) {
            for (Path file : files) {
                due.add(file.getFileName().toString().replace(".java", ""));
            }
        }
        Set<String> got = new TreeSet<>();
        for (String[] row : table("| Test | What it looks at |")) {
            got.add(unquoted(row[0]));
        }
        same("tests", got, due);
    }
}
