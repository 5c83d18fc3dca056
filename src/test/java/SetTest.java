/** Promise 4 (set). */
public final class SetTest {
    public static void main(String[] args) {
        refuses("");
        refuses("A");
        refuses("=");
        refuses("a=b");
        refuses("1=b");
        refuses("[=b");
        refuses("@=b");
        refuses("AB=c");
        refuses(" A=b");
        refuses("A =b");
        refuses("A:b");
        refuses("A=b\n");
        refuses("A=\nb");
        refuses("A=12345678901234567");
        refuses("\tA=b");

        value("A=", "");
        value("A=x", "x");
        value("Z=x", "x");
        value("A=1234567890123456", "1234567890123456");
        value("A=  a  b  ", "  a  b  ");
        value("A= \t ", " \t ");
        value("A=a#b", "a#b");
        value("A=a=b:c", "a=b:c");
        value("A=x\\", "x\\");
        value("A=$$", "$");

        overDefinitions();
        draftStaysWhenRefused();
        Probe.finish();
    }

    private static void refuses(String draft) {
        Probe probe = new Probe().load("x:\n\techo <$A>\n").type(draft);
        Probe.due("set of " + draft, probe.builder.set(), false);
        probe.builder.scrap();
        probe.build(0, 0).prints("echo <>\n<>\n");
    }

    private static void value(String draft, String want) {
        String letter = draft.substring(0, 1);
        Probe probe = new Probe().set(draft).load("x:\n\t@+true\n\techo <$" + letter + ">\n");
        probe.build(2, 0).prints("true\necho <" + want + ">\n");
        Probe.due("the draft after set", probe.builder.set(), false);
        Probe.due("the draft after set is no name", probe.builder.edit(1), -1);
    }

    private static void overDefinitions() {
        Probe probe = new Probe().load("A=d\nB=$A\nx:\n\techo $A $B $C\nA=e\n");
        probe.build(2, 0).prints("echo e e \n");
        probe.set("A=s").build(2, 0).prints("echo s s \n");
        probe.set("A=t").set("C=$A$A").build(2, 0).prints("echo t t tt\n");
        probe.set("A=").build(2, 0).prints("echo   \n");
        // What set() gave stays over load(), also one that is wrong.
        probe.load("x", -1).load("A=d\nx: $A$C\n\techo $A,$(C)\n").set("C=c");
        probe.build(2, 0).prints("echo ,c\n").names("x");
        probe.set("A=p q").load("A=z\nx $A: $A\n").names("x p q");
    }

    private static void draftStaysWhenRefused() {
        Probe probe = new Probe().type("A=12345678901234567");
        Probe.due("set of 17 characters", probe.builder.set(), false);
        // The draft is still there, and is a definition in a rule text.
        probe.load("\nx:\n\techo $A\n").build(2, 0).prints("echo 12345678901234567\n");

        probe.type("ab");
        Probe.due("set of a name", probe.builder.set(), false);
        Probe.due("edit of the draft that stayed", probe.builder.edit(1), 1);
    }
}
