import java.io.IOException;
import java.nio.file.Files;
import java.nio.file.Path;

/**
 * A part of the document, quoted clause by clause, each clause with runs that would fail if it were broken. The clauses
 * one behind the other must be the part's own words, so that none is left without a run.
 */
final class Document {
    private static final Path FILE = Path.of("..", "shared", "DOC.md");
    private static final int PROMISES = 19;

    private final String name;
    private final String words;
    private final StringBuilder said = new StringBuilder();

    private Document(String name, String words) {
        this.name = name;
        this.words = words;
    }

    static Document terms() throws IOException {
        return between("Terms", "## Terms", "## Promise 1:");
    }

    static Document promise(int number) throws IOException {
        String next = number < PROMISES ? "## Promise " + (number + 1) + ":" : "## Not promised";
        return between("" + number, "## Promise " + number + ":", next);
    }

    /** What stands between two headings. Signatures are left out: FaceTest asks for these. */
    private static Document between(String name, String heading, String nextHeading) throws IOException {
        String all = Files.readString(FILE);
        int from = all.indexOf("\n" + heading);
        int to = all.indexOf("\n" + nextHeading);
        if (from < 0 || to < from) {
            throw new IOException("no such headings in " + FILE + ": " + heading + ", " + nextHeading);
        }
        return new Document(name, all.substring(from, to)
                .replaceAll("(?m)^(#|```).*$", "")
                .replaceAll("(?m)^`[^`]*`:", "")
                .replaceAll("==== \\d+\\.", "")
                .replaceAll("\\s+", " ").strip());
    }

    /** Each of the runs has a new object of its own. */
    void says(String clause, String... runs) {
        String where = name + " \"" + clause + "\"";
        said.append(said.length() == 0 ? "" : " ").append(clause);
        Check.same(where + ": it has runs", "" + (runs.length > 0), "true");
        for (String run : runs) {
            Run.of(where, run);
        }
    }

    void allIsSaid() {
        int same = 0;
        while (same < words.length() && same < said.length() && words.charAt(same) == said.charAt(same)) {
            same++;
        }
        Check.same(name + ", the clauses behind \"" + words.substring(0, same) + "\"",
                said.substring(same), words.substring(same));
    }
}
