/** Promises 2 (type) and 3 (scrap). */
public final class DraftTest {
    public static void main(String[] args) {
        allCodes();
        fullDraft();
        scrapEmpties();
        Probe.finish();
    }

    private static void allCodes() {
        for (int code = 0; code <= 65535; code++) {
            if (code < 600 || code % 997 == 0 || code == 65535) {
                boolean want = (code >= 32 && code <= 126) || code == 9 || code == 10;
                Probe.due("type " + code, new RuleBuilder().type((char) code), want);
            }
        }
        // A character that is refused is not in the draft.
        Probe probe = new Probe().type("a");
        Probe.due("type 127", probe.builder.type((char) 127), false);
        Probe.due("type 0", probe.builder.type((char) 0), false);
        Probe.due("type 353", probe.builder.type((char) 353), false);
        probe.type("b");
        probe.edit("c", 1).names("abc");
    }

    private static void fullDraft() {
        Probe probe = new Probe();
        probe.type("#".repeat(319)).type("\n");
        Probe.due("type of the 321st", probe.builder.type('a'), false);
        Probe.due("type of the 321st again", probe.builder.type('\t'), false);
        // The one that was refused would make line 2 wrong.
        probe.load("").type("a");

        probe = new Probe().type("#".repeat(317)).type("\na:");
        Probe.due("type of the 321st behind a rule", probe.builder.type(':'), false);
        probe.load("").build(0, 0).names("a");
    }

    private static void scrapEmpties() {
        Probe probe = new Probe().type("abc");
        probe.builder.scrap();
        probe.edit("x", 1).names("x");
        probe.builder.scrap();
        Probe.due("edit of a scrapped draft", probe.builder.edit(1), -1);
        probe.type("x".repeat(100));
        probe.builder.scrap();
        probe.type("y".repeat(320));
        Probe.due("type of the 321st behind a scrapped draft", probe.builder.type('y'), false);
        probe.builder.scrap();

        // Only the draft goes.
        probe.set("A=1").load("t:\n\techo $A\n").build(0, 0).type("zz");
        probe.builder.scrap();
        probe.prints("echo 1\n1\n").done(1).names("x t").times("x", "1").build(0, 0).done(1);
    }
}
