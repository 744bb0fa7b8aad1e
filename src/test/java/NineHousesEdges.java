/** The document word by word: each sentence of the Terms and of promises 1 to 36 with the edges that it names. */
public final class NineHousesEdges {
    public static void main(String[] args) throws Exception {
        Due.readDocument();
        EdgesOfTexts.run();
        EdgesOfFires.run();
        EdgesOfParts.run();
        EdgesOfLogs.run();
        EdgesOfRefusals.run();
        if (!Due.isAllWell()) System.exit(1);
    }
}
