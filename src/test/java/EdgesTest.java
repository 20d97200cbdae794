import java.util.Set;
import java.util.TreeSet;

/** Every boundary case that a sentence of the document names, one test each; 'java EdgesTest 3.2 II.7' looks at those alone. */
public final class EdgesTest {
    private static final int PROMISES = 42;

    public static void main(String[] args) {
        Edges edges = look(Set.of(args));
        int wrong = edges.wrong() + (args.length == 0 ? withoutEdge(edges.ids()) : 0);
        System.out.println(edges.ids().size() + " edges, " + edges.looks() + " answers looked at, " + edges.failed().size()
            + " edges do not hold");
        if (wrong != 0 || edges.looks() == 0) {
            System.exit(1);
        }
    }

    static Edges look(Set<String> asked) {
        Edges edges = new Edges(asked);
        TextEdges.lookAt(edges);
        TownEdges.lookAt(edges);
        WouldBeEdges.lookAt(edges);
        ToldEdges.lookAt(edges);
        return edges;
    }

    /** How many parts and promises of the document no edge belongs to. */
    private static int withoutEdge(Set<String> ids) {
        Set<String> due = new TreeSet<>(Set.of("I", "II", "III", "IV"));
        for (int promise = 1; promise <= PROMISES; promise++) {
            due.add(Integer.toString(promise));
        }
        for (String id : ids) {
            due.remove(id.substring(0, id.indexOf('.')));
        }
        if (!due.isEmpty()) {
            System.out.println("no edge for " + due);
        }
        return due.size();
    }
}
