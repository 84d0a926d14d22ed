/** The calls that README.md shows under Use, with the answers that it tells. */
public final class ReadmeTest {
    public static void main(String[] args) {
        LatticeSheet sheet = new LatticeSheet(4, 15);
        Check.due("setInput(0, 9)", sheet.setInput(0, 9), LatticeSheet.OK);
        Check.due("push(REF, 0)", sheet.push(LatticeSheet.REF, 0), LatticeSheet.OK);
        Check.due("push(REF, 2)", sheet.push(LatticeSheet.REF, 2), LatticeSheet.OK);
        Check.due("push(MAX, 0)", sheet.push(LatticeSheet.MAX, 0), LatticeSheet.OK);
        Check.due("commit(1)", sheet.commit(1), LatticeSheet.OK);
        Check.due("push(REF, 1)", sheet.push(LatticeSheet.REF, 1), LatticeSheet.OK);
        Check.due("commit(2)", sheet.commit(2), LatticeSheet.OK);

        Check.due("value(2)", sheet.value(2), 9);
        Check.due("leader(2)", sheet.leader(2), 1);
        Check.due("depends(2, 0)", sheet.depends(2, 0), true);
        Check.due("setInput(0, 3)", sheet.setInput(0, 3), LatticeSheet.OK);
        Check.due("value(2)", sheet.value(2), 3);
        Check.due("delta(2)", sheet.delta(2), -6);
        Check.due("edited()", sheet.edited(), 0);
        Check.order("README", sheet, 0, 3, 1, 2);
        Check.due("length(1)", sheet.length(1), 3);
        Check.due("tokenAt(1, 2)", sheet.tokenAt(1, 2), 300);
        Check.due("length(DRAFT)", sheet.length(LatticeSheet.DRAFT), 0);
        Check.end();
    }
}
