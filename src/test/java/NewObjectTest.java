/** Promise 1, and what the other calls answer before anything was done. */
public final class NewObjectTest {
    public static void main(String[] args) {
        RuleBuilder builder = new RuleBuilder();
        Probe.due("names", builder.names(), 0);
        Probe.due("nameAt", builder.nameAt(0, 0), -1);
        Probe.due("time", builder.time(0), -1);
        Probe.due("content", builder.content(0), 0);
        Probe.due("fate", builder.fate(0), -1);
        Probe.due("done", builder.done(), 0);
        Probe.due("printed", builder.printed(), 0);
        Probe.due("printedAt", builder.printedAt(0), -1);
        Probe.due("set of the empty draft", builder.set(), false);
        Probe.due("edit of the empty draft", builder.edit(1), -1);
        Probe.due("erase of the empty draft", builder.erase(), false);
        Probe.due("build without a rule", builder.build(0), -1);
        Probe.due("load of the empty draft", builder.load(), 0);
        Probe.due("build of the empty text", builder.build(0), -1);
        Probe.due("names still", builder.names(), 0);

        new Probe().load("x:\n\techo <$A>\n").build(0, 0).prints("echo <>\n<>\n").times("x", "0");
        new Probe().build("x", 0, 2).fates("x", "3").prints("").done(0);
        new Probe().edit("x", 1).build("x", 0, 0).fates("x", "1");
        onlyItsOwn();
        Probe.finish();
    }

    /** Two objects know nothing of one another. */
    private static void onlyItsOwn() {
        Probe first = new Probe().set("A=1").edit("a", 7).load("x:\n\techo $A\n").type("abc");
        Probe second = new Probe();
        second.names("");
        Probe.due("build of the second", second.builder.build(0), -1);
        second.edit("b", 1).times("b", "1");
        first.builder.scrap();
        first.build(0, 0).prints("echo 1\n1\n").names("a x");
    }
}
