/** How texts are expanded, in rule lines (promise 5) and in commands (promise 8). */
public final class ExpansionTest {
    public static void main(String[] args) {
        references();
        ends();
        wrongOnes();
        levels();
        length();
        lengthBeforeEnds();
        emptyMacros();
        inRuleLines();
        Probe.finish();
    }

    /** Loads definitions with one command, and looks at what it is expanded to. */
    private static void expands(String definitions, String command, String want) {
        new Probe().load(definitions + "t:\n\t" + command + "\n").build(2, 0).prints(want + "\n").fates("t", "2");
    }

    private static void isWrong(String definitions, String command) {
        Probe probe = new Probe().load(definitions + "t:\n\ttrue\n\t" + command + "\n\techo no\n");
        probe.build(2, 2).prints("true\n").fates("t", "3").build(0, 2).prints("true\n").done(1);
    }

    private static void references() {
        expands("A=x y\n", "$A,$(A)$AB", "x y,x yx yB");
        expands("A=x\n", "$B|$(B)|", "||");
        expands("", "$$ $$$$A", "$ $$A");
        expands("A=$$B\nB=no\n", "$A", "$B");
        expands("A=$B-\nB=$(C)+\nC=c\n", "$A$B", "c+-c+");
        expands("A=a\nZ=z\n", "$Z$(Z)$A", "zza");
        expands("A=$@ $*|$<|$?|\n", "<$A>", "<t |||>");
        expands("", "a (b) ) = : # $$( x", "a (b) ) = : # $( x");
        expands("A=@echo\n", "$A hi", "@echo hi");
    }

    private static void ends() {
        expands("A=a.c b.c c.o\n", "$(A:.c=.o)", "a.o b.o c.o");
        expands("A=a  b   c\n", "<$(A:=.x)>", "<a.x  b.x   c.x>");
        expands("A=ab b cb bc\n", "$(A:b=)", "a  c bc");
        expands("A=ab b\n", "x$(A:b=B)y", "xaB By");
        expands("A=aa aaa\n", "$(A:aa=b)", "b ab");
        expands("A=a\n", "$(A:a=b c a)", "b c a");
        expands("A=a b\n", "$(A:a b=c)$(A: b=c)$(A:b =c)", "a ba ba b");
        expands("A=a\n", "$(A:a==)$(A:a=b=c)", "=b=c");
        expands("A=a\n", "$(A:a=$B)$(A:$A=c)$(A:a=()", "$Ba(");
        expands("A=x$B.y z.y\nB=b.c\n", "$(A:.y=.c)", "xb.c.c z.c");
        expands("A=$(B:c=d) ad\nB=bc\n", "$(A:d=e)", "be ae");
        expands("", "<$(A:=x)>", "<>");
        expands("A=a:b\n", "$(A::b=c)$(A:a:b=d)", "acd");
        // A word ends with the value, whatever is around it.
        expands("A=a\n", "$(A:a=b)a", "ba");
        expands("A=c\n", "a$(A:ac=b)", "ac");
        // A tab is a part of a word.
        expands("A=a\tb\n", "$(A:b=c)$(A:\tb=d)", "a\tcad");
        // A name is replaced from set macros as well, with the spaces they have.
        new Probe().set("A= a  ").load("t:\n\t<$(A:a=b)>\n").build(2, 0).prints("< b  >\n");
    }

    private static void wrongOnes() {
        String[] all = {"$", "echo $", "$ A", "$a", "$1", "$(", "$()", "$(A", "$(a)", "$(1)", "$(AB)", "$(A )", "$( A)",
            "$(A:b)", "$(A:)", "$(A:b", "$(A:b=", "$(A:b=c", "$(A=b)", "$(A;b=c)", "$(@)", "$(<)", "$[", "$-", "$+",
            "$%", "$)", "$:", "$=", "$`", "$@$", "$(:a=b)", "$(A:b) = c)", "$({)", "$\t"};
        for (String one : all) {
            isWrong("A=v\n", one);
            isWrong("B=" + one.replace("#", "") + "\n", "x$B");
        }
        isWrong("A=$A\n", "$A");
        isWrong("A=$B\nB=$A\n", "$A");
        // What is not expanded is not wrong.
        expands("A=$\nB=$$A\n", "$B", "$A");
    }

    private static void levels() {
        String five = "A=$B\nB=$C\nC=$D\nD=$(E)\nE=$(F:x=y)\n";
        expands(five + "F=x\n", "$A", "y");
        expands(five + "F=$$x$@\n", "$A", "$xt");
        isWrong(five + "F=$G\n", "$A");
        isWrong(five + "F=$(G)\nG=g\n", "$A");
        isWrong(five + "F=$(G:a=b)\nG=g\n", "$A");
        expands(five + "F=$G\nG=gx\n", "$B", "gy");
        expands(five + "F=x\n", "$B$A$C$A", "yyyy");
        expands(five + "F=$G\nG=\n", "$B$B$C$C", "");
        isWrong(five + "F=$G\nG=\n", "$B$A");
        isWrong(five + "F=$G\nG=\n", "$C$A$B");
    }

    private static void length() {
        String hundred = "0123456789".repeat(10);
        expands("", hundred + "a".repeat(20), hundred + "a".repeat(20));
        isWrong("", hundred + "a".repeat(21));
        isWrong("", "echo " + hundred + "a".repeat(16));
        // Marks are taken off before.
        expands("", "@@-" + hundred + "a".repeat(20), hundred + "a".repeat(20));
        expands("A=" + hundred + "\n", "$A" + "a".repeat(20), hundred + "a".repeat(20));
        isWrong("A=" + hundred + "\n", "$A" + "a".repeat(21));
        isWrong("A=" + hundred + "\n", "a".repeat(21) + "$A");
        expands("A=" + hundred + "\n", "a".repeat(18) + "$$$@$A", "a".repeat(18) + "$t" + hundred);
        isWrong("A=" + hundred + "\n", "a".repeat(20) + "$A$$");
        isWrong("A=" + hundred + "\n", "a".repeat(20) + "$A$@");
        expands("A=" + hundred + "\n", "a".repeat(20) + "$A$<$?$*$B", "a".repeat(20) + hundred);
        // Growing by other ends.
        expands("A=" + "x ".repeat(30) + "\n", "$(A:=12)$Ba", "x12 ".repeat(30).trim() + "a");
        isWrong("A=" + "x ".repeat(30) + "\n", "$(A:=12)$@a");
    }

    private static void lengthBeforeEnds() {
        // The value stands there before its ends become shorter.
        String value = "A=" + "xyz ".repeat(10) + "\n";
        String shorter = "x ".repeat(10).trim();
        expands(value, "b".repeat(81) + "$(A:yz=)", "b".repeat(81) + shorter);
        isWrong(value, "b".repeat(82) + "$(A:yz=)");
        // What is longer only behind the change is wrong, too.
        expands("A=x x\n", "b".repeat(115) + "$(A:x=yz)", "b".repeat(115) + "yz yz");
        isWrong("A=x x\n", "b".repeat(116) + "$(A:x=yz)");
        isWrong("A=x x\n", "b".repeat(116) + "$(A:=z)");
    }

    private static void emptyMacros() {
        // A macro that comes to nothing may be too long meanwhile, also when it stands there again.
        String text = "A=$(B:12345=)\nB=12345\n";
        expands(text, "$A" + "b".repeat(115) + "$A", "b".repeat(115));
        isWrong(text, "$A" + "b".repeat(116) + "$A");
        isWrong(text, "b".repeat(116) + "$A");
        expands(text + "C=$A$A\n", "$C" + "b".repeat(115) + "$C$A", "b".repeat(115));
        isWrong(text + "C=$A$A\n", "$C$A" + "b".repeat(116) + "$C");
        isWrong(text + "C=$D$A$D\n", "$C" + "b".repeat(116) + "$C");
        isWrong(text + "C=$A$D\n", "$C" + "b".repeat(116) + "$C");
        isWrong(text + "C=$A\nD=$A\n", "$C$D" + "b".repeat(116) + "$D");
        // One that never is long is not, whatever was before it.
        expands(text, "$A$C" + "b".repeat(120) + "$C", "b".repeat(120));
        expands(text + "C=$D\n", "$A$C" + "b".repeat(120) + "$C$D", "b".repeat(120));
    }

    private static void inRuleLines() {
        new Probe().load("A=b c\nB=.d\nt: $A x$B$(A:c=e)\n").names("t b c x.db e");
        new Probe().load("A=t: b\n$A c\n").names("t b c");
        for (String one : new String[] {"$@", "$<", "$?", "$*", "$", "$(A", "$(1)", "$(A:b)", "$x", "$A"}) {
            new Probe().load("A=$@\n\nt: a " + one + "\n", -3).names("");
        }
        String six = "a:" + " 1234567".repeat(14);
        new Probe().load(six + " 12345\n").names("a 1234567 12345");
        new Probe().load(six + " 123456\n", -1).names("");
        new Probe().load("A=1234567 1234567 1234567\na: $A $A $A $A $A\n", -2).names("");
    }
}
