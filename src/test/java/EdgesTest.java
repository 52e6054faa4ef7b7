import java.io.IOException;
import java.nio.file.Path;

/** Each sentence of the document that names an edge, part by part and promise by promise, with rows of calls of its own. */
public final class EdgesTest {
    public static void main(String[] args) throws IOException {
        Due due = new Due();
        Rows rows = new Rows(due);
        EdgesOfFlames.all(rows);
        EdgesOfTicks.all(rows);
        EdgesOfThought.all(rows);
        EdgesOfTexts.all(rows);
        EdgesOfSheets.all(rows);
        EdgesOfPromises1To21.all(rows);
        EdgesOfPromises22To40.all(rows);
        Ledger.check(due, rows.said(), Path.of("../shared/DOC.md"));
        due.end();
    }
}
