/** Every sentence of promises 1 to 43 and of the Terms that they use: a test for each, those that name a boundary first. */
public final class Boundaries {
    public static void main(String[] args) throws Exception {
        String document = Bounds.readDocument();
        TheText.hold();
        TheVillage.hold();
        TheYears.hold();
        WhatIsAhead.hold();
        TheRows.hold();
        TheHost.hold();
        WhatIsKept.hold();
        TheTerms.hold();
        TheRest.hold();
        TheFace.hold(document);
        if (!Bounds.end()) System.exit(1);
    }
}
