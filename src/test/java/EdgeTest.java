import java.util.Set;
import java.util.TreeSet;

/** The boundary cases that the document names, promise by promise, each in a method of its own. */
public final class EdgeTest {
    public static void main(String[] args) throws ReflectiveOperationException {
        Set<Integer> promises = new TreeSet<>();
        for (Class<?> cases : new Class<?>[] {EdgesOfTapes.class, EdgesOfTexts.class, EdgesOfHours.class,
            EdgesOfDeeds.class, EdgesAhead.class, EdgesOfWays.class, EdgesOfKnowing.class, EdgesOfHolding.class}) {
            Edge.runAll(cases, promises);
        }
        for (int promise = 1; promise <= 37; promise++) {
            Check.holds("promise " + promise + " has a case at its edge", promises.contains(promise));
        }
        Edge.end("EdgeTest");
    }
}
