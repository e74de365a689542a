/**
 * A test for each sentence of the document's terms and promises, at the boundaries that it names; a sentence that no
 * test quotes is told, and so is a quotation that doesn't stand in the document.
 */
public final class EdgesTest {
    static final Check CHECK = new Check();
    private static final Document DOCUMENT = new Document();
    // What says nothing that a test could break, or only heads what follows.
    private static final String[] SAYS_NOTHING = {
        "CONVENTIONS.", "### Settings", "(In parentheses: range; first value.)", "Notes, copies, cards", "### Calls",
        "### Reading and changing", "### Texts",
    };

    public static void main(String[] args) {
        SettingsEdges.all();
        CardEdges.all();
        CallEdges.all();
        UseEdges.all();
        AskingEdges.all();
        WhatIfEdges.all();
        AccountEdges.all();
        TextEdges.all();
        UndoEdges.all();
        RefusedEdges.all();
        everySentence();
        CHECK.end();
    }

    /** What is tested next: words of the terms (0) or of a promise. */
    static void sentence(int section, String words) {
        CHECK.about("");
        CHECK.due("section " + section + " says \"" + words + "\"", DOCUMENT.quote(section, words) ? 1 : 0, 1);
        CHECK.about(words);
    }

    private static void everySentence() {
        CHECK.about("");
        DOCUMENT.quoteHeads();
        for (String words : SAYS_NOTHING) {
            DOCUMENT.quote(0, words);
        }
        for (String left : DOCUMENT.notQuoted()) {
            CHECK.due("no test quotes section " + left, 0, 1);
        }
    }
}
