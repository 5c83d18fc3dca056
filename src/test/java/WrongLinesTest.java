/** Promise 5 (load): what makes a line wrong, the limits, and which names stay met. */
public final class WrongLinesTest {
    public static void main(String[] args) {
        colons();
        names();
        commandLines();
        suffixes();
        mostPrerequisites();
        mostCommands();
        mostEndings();
        mostNames();
        Probe.finish();
    }

    private static void wrong(String text, int line, String names) {
        new Probe().load(text, -line).names(names);
    }

    private static void colons() {
        wrong("a", 1, "");
        wrong("a b\n", 1, "");
        wrong("a: b: c\n", 1, "");
        wrong("a::\n", 1, "");
        wrong(":\n", 1, "");
        wrong(": a\n", 1, "");
        wrong("  : a\n", 1, "");
        wrong("B=\n$B: a\n", 2, "");
        wrong("x:\nB=:\na: b $B\n", 3, "x");
        wrong("$B\n", 1, "");
        wrong("a: b $(A:x:y=z) :\n", 1, "");
        new Probe().load("a: b$(A:x:y=z)\n").names("a b");
        new Probe().load("A=b.c:d\na $(A:d=e f)\n").names("a b.c e f");
    }

    private static void names() {
        wrong("x:\na b C d: e\n", 2, "x a b");
        wrong("a: b c-d e\n", 1, "a b");
        wrong("123456789: b\n", 1, "");
        wrong("a: 12345678 123456789 b\n", 1, "a 12345678");
        wrong("a: b$$\n", 1, "a");
        wrong("a: $@\n", 1, "");
        wrong("a: =b\n", 1, "a");
        wrong("A=b\n A: c\n", 2, "");
        wrong("a:\n.DEFAULT: b\n", 2, "a");
        // The first wrong line is told, and what is behind it is not read.
        wrong("a:\nb\nc:\nd\n", 2, "a");
    }

    private static void commandLines() {
        wrong("\techo\n", 1, "");
        wrong("\n# x\nA=b\n\techo\na:\n", 4, "");
        wrong(".SUFFIXES: .a\n\techo\n", 2, "");
        wrong(".PHONY: a\n\n\techo\n", 3, "a");
        wrong(".IGNORE:\n\techo\n", 2, "");
        wrong(".SILENT: a\n\t\n", 2, "a");
        wrong("a:\n\techo\n.PHONY: a\n\techo\n", 4, "a");
        wrong("a:\n\techo\na:\n\techo\n", 4, "a");
        wrong("a b:\n\techo\nc b:\n\techo\n", 4, "a b c");
        wrong("a:\n\techo\nb:\n\techo\nc: d\n\techo\nx b:\n\n\techo\n", 9, "a b c d x");
        wrong(".DEFAULT:\n\techo\n.DEFAULT:\n\techo\n", 4, "");
        new Probe().load("a a:\n\techo\n\techo\n").load("a:\n\techo\na b: c\nb:\n\techo\n");
        new Probe().load("a: b\na: c\n\techo\na: d\n").load(".DEFAULT:\n.DEFAULT:\n\techo\n.DEFAULT:\n");
        new Probe().load(".SUFFIXES: .a\n.a:\n\techo\n.a:\n\techo\n");
        // What a command expands to is no matter of load().
        new Probe().load("a:\n\t$\n\t$(A\n\t$x\n");
    }

    private static void suffixes() {
        wrong(".SUFFIXES: a\n", 1, "");
        wrong(".SUFFIXES: .\n", 1, "");
        wrong(".SUFFIXES: .C\n", 1, "");
        wrong(".SUFFIXES: .a b.\n", 1, "");
        wrong(".SUFFIXES: .12345678\n", 1, "");
        wrong(".SUFFIXES: .a .b .c .d .e .f .g\n", 1, "");
        wrong(".SUFFIXES: .a .b .c\n.SUFFIXES: .d .e .f\n.SUFFIXES: .a\n.SUFFIXES: .g\n", 4, "");
        new Probe().load(".SUFFIXES: .a .b .c .d .e .f .a .f\n.SUFFIXES: .c\n.SUFFIXES:\n.SUFFIXES: .g .h\n").names("");
        new Probe().load(".SUFFIXES: .1234567 .. ._\n").names("");
    }

    private static void mostPrerequisites() {
        new Probe().load("a b c d e f g h: 1 2 3 4 5 6 7 8 9 0\n");
        new Probe().load("a b c d e f g h: 1 2 3 4 5 6 7 8 9 0\nx:\na:\n");
        wrong("a b c d e f g h: 1 2 3 4 5 6 7 8 9 0\nx: y\n", 2, "a b c d e f g h 1 2 3 4 5 6 7 8 9 0 x y");
        wrong("a a a a a a a a a: b b b b b b b b b\n", 1, "a b");
        new Probe().load("a a a a a a a a: b b b b b b b b b b\n");
        // Prerequisites of the special targets are none.
        new Probe().load("a b c d e f g h: 1 2 3 4 5 6 7 8 9 0\n.PHONY: a b\n.SUFFIXES: .a .b\n");
    }

    private static void mostCommands() {
        String thirty = "a:\n" + "\t\n".repeat(29) + ".DEFAULT:\n\tx\n";
        new Probe().load(thirty);
        wrong(thirty + "\ty\n", 33, "a");
        wrong("a:\n" + "\t\n".repeat(31), 32, "a");
        // Those of an ending rule that was replaced count, too.
        String replaced = ".SUFFIXES: .a\n" + ".a:\n\t\n".repeat(30);
        new Probe().load(replaced);
        wrong(replaced + ".a:\n\t\n", 63, "");
    }

    private static void mostEndings() {
        String eight = ".SUFFIXES: .a .b .c\n.a:\n.b:\n.c:\n.a.a:\n.a.b:\n.a.c:\n.b.a:\n.b.b:\n";
        new Probe().load(eight).load(eight + ".b.b:\n.a:\n\techo\n");
        wrong(eight + ".b.c:\n", 10, "");
        // Those whose suffixes are gone count, too.
        wrong(eight + ".SUFFIXES:\n.SUFFIXES: .x\n.x:\n", 12, "");
    }

    private static void mostNames() {
        String others = " b c d e f g h i j k l m n o p q r s t u v w x y z 0 1 2 3";
        String thirty = "a" + others;
        new Probe().load("a:" + others + " 4 5 a b\n.PHONY: 4 5\n5 4:\n").names(thirty + " 4 5");
        new Probe().load(thirty + " 4 5:\n").names(thirty + " 4 5");
        wrong(thirty + " 4 5 6 7:\n", 1, thirty + " 4 5");
        wrong("a:" + others + " 4 5 a 6 b\n", 1, thirty + " 4 5");
        wrong("a:" + others + " 4\n.SILENT: 5 4 6\n", 2, thirty + " 4 5");
        // A text of suffixes alone meets none.
        new Probe().load(thirty + " 4 5:\n.SUFFIXES: .a .b\n.a.b:\n.DEFAULT:\n").names(thirty + " 4 5");
    }
}
