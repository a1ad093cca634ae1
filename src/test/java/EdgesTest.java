/** The document's boundary cases, sentence by sentence; each wrong answer is printed with its sentence. */
public final class EdgesTest {
    public static void main(String[] args) {
        EdgesOfTerms.all();
        EdgesOfMeasures.all();
        EdgesOfRefusals.all();
        EdgesOfSpans.all();
        EdgesOfOrder.all();
        EdgesOfFree.all();
        EdgesOfRooms.all();
        EdgesOfSheets.all();
        EdgesOfCounts.all();
        Section.allAreTested();
        Due.finish("EdgesTest");
    }
}
