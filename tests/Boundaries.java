/** Every boundary of promises 1 to 43: a test for each sentence of the document that names one. */
public final class Boundaries {
    public static void main(String[] args) throws Exception {
        Bounds.readDocument();
        TheText.hold();
        TheVillage.hold();
        TheYears.hold();
        WhatIsAhead.hold();
        TheRows.hold();
        TheHost.hold();
        WhatIsKept.hold();
        TheTerms.hold();
        if (!Bounds.end()) System.exit(1);
    }
}
