import java.io.IOException;
import java.nio.file.Files;
import java.nio.file.Path;
import java.util.ArrayList;
import java.util.List;

/** Holds the words that the rows of calls were about against the document: all of 'Terms' and of the promises has rows of its own. */
final class Ledger {
    private Ledger() {
    }

    static void check(Due due, List<String> said, Path document) throws IOException {
        if (!Files.isReadable(document)) {
            System.out.println("there is no " + document + ": its words are not looked at");
            return;
        }
        String whole = Files.readString(document);
        String promised = promised(whole);
        boolean[] has = new boolean[promised.length()];
        for (String words : said) {
            due.holds("the document says \"" + words + "\"", whole.contains(words));
            for (int at = promised.indexOf(words); at >= 0; at = promised.indexOf(words, at + 1)) {
                java.util.Arrays.fill(has, at, at + words.length(), true);
            }
        }
        for (String rest : uncovered(promised, has)) {
            due.holds("\"" + rest + "\" has rows of its own", false);
        }
    }

    /** 'Terms' and the promises, without headings, fences and the faces of the calls. */
    private static String promised(String whole) {
        StringBuilder all = new StringBuilder();
        boolean isWithin = false;
        for (String line : whole.split("\n")) {
            if (line.startsWith("## ")) {
                isWithin = line.equals("## Terms") || line.startsWith("## Promise ");
            } else if (isWithin && !line.startsWith("```") && !line.startsWith("Ahead of the calls ")) {
                all.append(line.replaceFirst("^======== \\d ", "").replaceFirst("^`[^`]*`: ", "")).append('\n');
            }
        }
        return all.toString();
    }

    private static List<String> uncovered(String promised, boolean[] has) {
        List<String> rests = new ArrayList<>();
        StringBuilder rest = new StringBuilder();
        for (int i = 0; i <= has.length; i++) {
            if (i < has.length && !has[i] && promised.charAt(i) != '\n') {
                rest.append(promised.charAt(i));
            } else {
                if (!rest.toString().isBlank()) {
                    rests.add(rest.toString().strip());
                }
                rest.setLength(0);
            }
        }
        return rests;
    }
}
