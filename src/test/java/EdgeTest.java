/**
 * One test for each sentence of the document that names a boundary case. A test's name begins with the
 * section, its words() line quotes the sentence; words of the sections that no test quotes fail the run.
 */
public final class EdgeTest {
    public static void main(String[] args) {
        Check check = new Check();
        WholeEdges.run(check);
        Terms1Edges.run(check);
        FaultEdges.run(check);
        Terms2Edges.run(check);
        Terms3Edges.run(check);
        Terms4Edges.run(check);
        RulePromiseEdges.run(check);
        TellingPromiseEdges.run(check);
        MorningPromiseEdges.run(check);
        BankPromiseEdges.run(check);
        check.allIsQuoted();
        check.due("sections of the document", Document.sections(), 25);
        check.end();
    }
}
