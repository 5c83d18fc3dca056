/** Promise 5 (load): how a rule text is read, and what is forgotten. */
public final class LoadTest {
    public static void main(String[] args) {
        lines();
        joinedLines();
        definitions();
        ruleLines();
        specialTargets();
        endingTargets();
        forgetting();
        forgettingOneByOne();
        draftIsEmptyThen();
        Probe.finish();
    }

    private static void lines() {
        new Probe().load("").load("\n\n\n").load("   \n#\n  # a: b: c $\n").names("");
        new Probe().load("a: b # c\n").names("a b");
        new Probe().load("a: b#c").names("a b");
        new Probe().load("   a  b  :  c   d   ").names("a b c d");
        new Probe().load("a:b").names("a b");
        new Probe().load(" \ta: b\n", -1);
        new Probe().load("a:\n \techo\n", -2);
        new Probe().load("a:\tb\n", -1).names("a");
        // A # in a command line stands for itself.
        new Probe().load("a:\n\techo x # y\n").build(0, 0).prints("echo x # y\nx # y\n");
        // Empty lines and definitions may stand between a rule line and its commands.
        new Probe().load("a:\n\n# x\n\techo 1\nA=b\n   \n\techo 2\n").build(2, 0).prints("echo 1\necho 2\n");
        // Commands are the text behind the tab, with all its spaces.
        new Probe().load("a:\n\t  echo   x  \n").build(0, 0).prints("  echo   x  \nx\n");
        new Probe().load("a:\n\t\n\t   \n").build(0, 0).prints("\n   \n").done(2);
    }

    private static void joinedLines() {
        new Probe().load("a: b\\\nc \\\n d\n").names("a b c d");
        new Probe().load("a\\\nb: c").names("a b c");
        new Probe().load("a:\n\techo x\\\n  y\\\n\tz\n").build(2, 0).prints("echo x   y \tz\n");
        // Behind a backslash, a tab does not begin a line.
        new Probe().load("a:\n\\\n\techo\n", -2);
        // The newlines behind backslashes count for the lines behind them.
        new Probe().load("a: b\\\nc\\\nd\nx y\n", -4);
        new Probe().load("\\\n\\\nx y\\\n\n", -1);
        new Probe().load("# no \\\nx y\nz\n", -3);
        new Probe().load("a:\n\n\\\n\nb\n", -5);
        new Probe().load("A=1\\\n2\nx:\n\techo $A\n").build(2, 0).prints("echo 1 2\n");
        // A backslash elsewhere stands for itself.
        new Probe().load("a:\n\techo \\x \\\\\n").names("a");
        new Probe().load("a:\n\techo b\\").build(2, 0).prints("echo b\\\n");
        new Probe().load("a:\n\techo \\\\\nb\n").build(2, 0).prints("echo \\ b\n");
        new Probe().load("a\\: b\n", -1);
    }

    private static void definitions() {
        new Probe().load("  A=  x  y  # z\nt:\n\techo <$A>\n").build(2, 0).prints("echo <x  y>\n");
        new Probe().load("A=1\nA=2\nt:\n\techo $A\nA=3\n").build(2, 0).prints("echo 3\n");
        new Probe().load("A=\nB=:\nZ=$A\nt$B u $Z\n").names("t u");
        new Probe().load("A =1\n", -1);
        new Probe().load("a=1\n", -1);
        new Probe().load("AB=1\n", -1);
        new Probe().load("A:=1\n", -1);
        // What a rule line has of a macro is its value at this line.
        new Probe().load("x: $A\nA=b\ny: $A\nA=c\n").names("x y b");
        new Probe().load("B=$A\nA=b\nx: $B\nA=c\ny: $B\n").names("x b y c");
        // A wrong value is no fault before it is expanded.
        new Probe().load("A=$\nB=$(\nC=$C\nx:\n").names("x");
        new Probe().load("A=$\n\nx: $A\n", -3);
    }

    private static void ruleLines() {
        new Probe().load("a b: c d\n\techo $@: $?\n").build(0, 2).fates("a b c d", "3030");
        Probe probe = new Probe().edit("c", 1).edit("d", 1).edit("e", 1);
        probe.load("a b: c d\n\techo $@ of $?\na: e c\nb:\n");
        probe.build("a", 2, 0).prints("echo a of c d e c\n").build("b", 2, 0).prints("echo b of c d\n");
        // A target that stands twice has its prerequisites twice.
        probe.load("a a: c\n\techo $?\n\techo 2\n").build(2, 0).prints("echo c c\necho 2\n");
        // The first target with a rule is what is built.
        probe.load(".PHONY: c\n.DEFAULT:\n\techo\nq r: c\ns:\n").build(2, 0).fates("q r s c", "2002");
    }

    private static void specialTargets() {
        Probe probe = new Probe().load(".PHONY: a b\n.PHONY:\na:\n\techo a\nb:\n\techo b\nc:\n\techo c\n");
        probe.edit("a", 1).edit("b", 1).edit("c", 1).build("a", 2, 0).prints("echo a\n").fates("a", "2");
        probe.build("b", 2, 0).prints("echo b\n").build("c", 2, 0).prints("").fates("c", "1");

        probe = new Probe().load(".IGNORE: a b\na:\n\tfalse\n\techo 1\nb:\n\tfalse\nc:\n\tfalse\n");
        probe.build("a", 0, 0).build("b", 0, 0).build("c", 0, 2);
        probe = new Probe().load(".IGNORE:\na:\n\tfalse\n").build("a", 0, 0).load("a:\n\tfalse\n").build("a", 0, 2);

        probe = new Probe().load(".SILENT: a b\na:\n\techo 1\nb:\n\techo 2\nc:\n\techo 3\n");
        probe.build("a", 0, 0).prints("1\n").build("b", 0, 0).prints("2\n").build("c", 0, 0).prints("echo 3\n3\n");
        probe = new Probe().load(".SILENT:\na:\n\techo 1\n").build("a", 0, 0).prints("1\n");
        probe.load("a:\n\techo 1\n").build("a", 0, 0).prints("echo 1\n1\n");

        probe = new Probe().load(".DEFAULT:\n\techo 1\n\techo 2\n.DEFAULT:\n").build("z", 0, 0);
        probe.prints("echo 1\n1\necho 2\n2\n");
        // Such targets are special alone only.
        new Probe().load(".PHONY a: b\n", -1).names("");
        new Probe().load("a .PHONY: b\n", -1).names("a");
        new Probe().load(".DEFAULT .DEFAULT:\n", -1).names("");
        new Probe().load("a: .SILENT\n", -1).names("a");
        new Probe().load(".PHONY: a B c\n", -1).names("a");
        new Probe().load(".SILENT: a b.c.d_9 123456789 c\n", -1).names("a b.c.d_9");
    }

    private static void endingTargets() {
        // With prerequisites, among others, or before the suffixes, they are names.
        new Probe().load(".SUFFIXES: .c .o\n.c.o: a\n").names(".c.o a");
        new Probe().load(".SUFFIXES: .c .o\n.c: a\n").names(".c a");
        new Probe().load(".SUFFIXES: .c .o\n.c.o .o.c:\n").names(".c.o .o.c");
        new Probe().load(".c.o:\n.SUFFIXES: .c .o\n").names(".c.o").build(0, 0);
        new Probe().load(".SUFFIXES: .c .o\n.SUFFIXES:\n.c.o:\n").names(".c.o");
        new Probe().load(".SUFFIXES: .c .o\n.c.h:\n").names(".c.h");
        new Probe().load(".SUFFIXES: .c .o\n.c.o:\n.o:\n").names("").build("x", 0, 2);
        // They may be longer than a name.
        new Probe().load(".SUFFIXES: .abcdefg .1234567\n.abcdefg.1234567:\n\techo\n").names("");
        new Probe().load(".SUFFIXES: .abcdefg\n.abcdefg.1234567:\n\techo\n", -2).names("");
        // A later one takes the place of an earlier one, with its commands.
        Probe probe = new Probe().edit("a.c", 1);
        probe.load(".SUFFIXES: .c .o\n.c.o:\n\techo 1\n.c.o:\n\techo 2\n").build("a.o", 2, 0).prints("echo 2\n");
        probe.load(".SUFFIXES: .c .o\n.c.o:\n\techo 1\n.c.o:\n").build("a.o", 2, 2).prints("");
    }

    private static void forgetting() {
        Probe probe = new Probe().edit("a.c", 3).set("S=set");
        String all = ".SUFFIXES: .c .o\n.c.o:\n\techo o\n.DEFAULT:\n\techo d\n.PHONY: p\n.IGNORE:\n.SILENT:\nM=m\np: a.c\n";
        String bare = "p:\n\techo $M$S\n\tfalse\n";
        probe.load(all).build("a.o", 0, 0).prints("o\n").build("x", 0, 0).prints("d\n").fates("x", "2");
        // done() and the print stay, the fates go.
        probe.load("").prints("d\n").done(1).fates("a.c p a.o x", "0000");
        probe.build("a.o", 0, 2).build("x", 0, 2).fates("x", "3");
        Probe.due("no first target", probe.builder.build(0), -1);
        probe.load(all).load(bare).build(0, 2).prints("echo set\nset\nfalse\n");
        probe.load("p:\n\techo p\n").edit("p", 1).build(0, 0).prints("").fates("p", "1");
        probe.load(all).load(".c.o:\n").build("a.o", 0, 2).names("a.c p a.o x .c.o");
        // One that is wrong leaves nothing, but for names, files and what was set.
        probe.load(all).build(0, 0).fates("p", "2").done(0);
        probe.load("M=n\nnew: newer Bad never\n", -2).fates("p new newer", "000").names("a.c p a.o x .c.o new newer");
        Probe.due("no first target behind a wrong text", probe.builder.build(0), -1);
        probe.build("a.o", 0, 2).build("x", 0, 2).content("a.c", 3).times("a.c p", "1 2");
        probe.load(bare).erase("p").build(0, 2).prints("echo set\nset\nfalse\n");
        // Prerequisites and rules go, too.
        probe.load("q: nix\n").load("r: q\n").edit("q", 1).build(0, 0).fates("q r nix", "120");
    }

    private static void forgettingOneByOne() {
        Probe probe = new Probe().load(".IGNORE: a\n.SILENT: a\na:\n\tfalse\n").build(0, 0).prints("");
        probe.load("a:\n\tfalse\n").build(0, 2).prints("false\n");
        probe.load("A=1\nB=2\nZ=3\na:\n\techo $A$B$Z\n").build(2, 0).prints("echo 123\n");
        probe.load("a:\n\techo <$A$B$Z>\n").build(2, 0).prints("echo <>\n");
        String thirty = "a:\n" + "\t\n".repeat(30);
        probe.load(thirty).load(thirty).load(thirty);
        String eighty = "a b c d e f g h: 1 2 3 4 5 6 7 8 9 0\n";
        new Probe().load(eighty).load(eighty);
        String eight = ".SUFFIXES: .a .b .c .d .e .f\n.a:\n.b:\n.c:\n.d:\n.e:\n.f:\n.a.a:\n.a.b:\n";
        new Probe().load(eight).load(eight.replace(".", ".x").replace(".xSUFF", ".SUFF"));
        // No rule line is before the first line.
        probe.load("a:\n\techo\n").load("\techo\n", -1).load("a:\n").load("\n\techo\n", -2);
        // What stands before a wrong line is gone.
        probe.load("a:\n\techo 1\ny\n", -3);
        Probe.due("no rule before a wrong line", probe.builder.build(0), -1);
        probe.build("a", 0, 2).load(".DEFAULT:\n\techo 1\ny\n", -3).build("z", 0, 2);
        probe.edit("q.c", 1).load(".SUFFIXES: .c\n.c:\n\techo 1\ny\n", -4).build("q", 0, 2);
    }

    private static void draftIsEmptyThen() {
        Probe probe = new Probe().load("a:\n");
        Probe.due("a second load", probe.builder.load(), 0);
        Probe.due("nothing is left", probe.builder.build(0), -1);
        probe.load("a", -1);
        Probe.due("edit behind a wrong load", probe.builder.edit(1), -1);
    }
}
