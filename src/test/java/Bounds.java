/** Begins the runs, each of some sentences of the document. */
final class Bounds {
    private static final Document DOCUMENT = new Document();

    private Bounds() {
    }

    /** A run that tests what sentences of a promise say; some words tell which. */
    static Run of(int promise, String... words) {
        return of("Promise " + promise, words);
    }

    static Run of(String section, String... words) {
        StringBuilder sentences = new StringBuilder();
        for (String each : words) {
            sentences.append(sentences.length() == 0 ? "" : "; ").append(told(section, each));
        }
        return new Run(sentences.toString());
    }

    static String told(String section, String words) {
        return section + ", \"" + DOCUMENT.tell(section, words) + "\"";
    }

    static Document document() {
        return DOCUMENT;
    }
}
