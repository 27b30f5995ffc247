import java.io.IOException;
import java.util.List;

/** Each sentence of the document's Terms and promises has a test of its own, and holds. */
public final class EdgesTest {
    public static void main(String[] args) throws IOException {
        Sentences document = new Sentences();
        Edges[] all = {
            new TermsEdges(document), new TextEdges(document), new KillsEdges(document), new ProgramEdges(document),
            new MutantsEdges(document), new CoverEdges(document), new ReadingsEdges(document), new SheetsEdges(document),
            new PartsEdges(document),
        };
        int asked = 0;
        int wrong = 0;
        for (Edges edges : all) {
            edges.ask();
            asked += edges.asked();
            wrong += edges.wrong().size();
            tellSome(edges.wrong());
        }
        for (String words : document.unnamed()) {
            wrong++;
            System.out.println("EdgesTest: no test names this of " + words);
        }
        System.out.println("EdgesTest: " + asked + " answers, " + wrong + " not as due");
        if (wrong != 0 || asked == 0) {
            System.exit(1);
        }
    }

    /** One fault can show in thousands of answers. */
    private static void tellSome(List<String> wrong) {
        wrong.stream().limit(40).forEach(one -> System.out.println("EdgesTest: " + one));
        if (wrong.size() > 40) {
            System.out.println("EdgesTest: and " + (wrong.size() - 40) + " more");
        }
    }
}
