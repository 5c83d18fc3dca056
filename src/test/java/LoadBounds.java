/** The boundaries of promise 5: load. */
final class LoadBounds {
    private LoadBounds() {
    }

    static void check() {
        draftThatIsRead();
        forgotten();
        kept();
        firstWrongLine();
        nothingOfAWrongText();
        namesBeforeAWrongWord();
    }

    private static void draftThatIsRead() {
        Sentence.of(5, "The draft is read as the rule text, and is empty then.");
        new Run().load("").draftIsEmpty().load("a:\n").draftIsEmpty().load("a", -1).draftIsEmpty();
        new Run().load("a: b#" + "x".repeat(315)).names("a b").editRefused(1).build("", 0, 2);
        new Run().load("#" + "x".repeat(316) + "\na:").names("a").build("", 0, 0);
        new Run().load("#" + "x".repeat(316) + "\nab", -2).names("").editRefused(1);
        // The empty draft, also right behind another load, is a text without rules.
        new Run().load("a:\n").load("").buildRefused(0).names("a");
    }

    private static void forgotten() {
        Sentence.of(5, "Rules, endings, suffixes, definitions, and what was phony, ignored, silent or default "
                + "before, are forgotten first;");
        for (String next : new String[] {"", "# x\n", "z\n"}) {
            int answer = next.startsWith("z") ? -1 : 0;
            Run run = new Run().edit("a.c", 1).load("t: x\n\techo t\n").load(next, answer).buildRefused(0)
                    .build("t", 0, 2).prints("");
            run.load(".SUFFIXES: .c .o\n.c.o:\n\techo o\n").load(next, answer).build("a.o", 0, 2);
            // A suffix that was forgotten makes no ending; a rule for it that was forgotten does nothing.
            run.load(".SUFFIXES: .c .o\n").load(next, answer).load(".c.o:\n").build("", 0, 0).fates(".c.o", "2");
            run.load(".SUFFIXES: .c .o\n.c.o:\n\techo o\n").load(next, answer).load(".SUFFIXES: .c .o\n")
                    .build("a.o", 0, 2);
            run.load("M=m\n").load(next, answer).load("t:\n\t<$M>\n").build("", 2, 0).prints("<>\n");
            marksForgotten(next, answer);
        }
    }

    private static void marksForgotten(String next, int answer) {
        Run run = new Run().edit("p", 1).load(".PHONY: p\n").load(next, answer).build("p", 0, 0).fates("p", "1");
        run.load(".IGNORE: t\n").load(next, answer).load("t:\n\tfalse\n").build("", 0, 2);
        run.load(".IGNORE:\n").load(next, answer).load("t:\n\tfalse\n").build("", 0, 2);
        run.load(".SILENT: t\n").load(next, answer).load("t:\n\ttrue\n").build("", 0, 0).prints("true\n");
        run.load(".SILENT:\n").load(next, answer).load("t:\n\ttrue\n").build("", 0, 0).prints("true\n");
        run.load(".DEFAULT:\n\ttrue\n").load(next, answer).build("x", 0, 2);
        // Commands of an earlier text are none of an earlier rule line, and prerequisites are not appended to.
        run = new Run().load("t: x\n\ttrue\n").load(next, answer).load("t:\n\ttrue\n").build("", 0, 0)
                .fates("t x", "2 0");
        run.load(".DEFAULT:\n\ttrue\n").load(next, answer).load(".DEFAULT:\n\ttrue\n");
    }

    private static void kept() {
        Sentence.of(5, "names, files and set macros stay.");
        for (String next : new String[] {"", "t:\n\techo $A$B\n", "z\n"}) {
            Run run = new Run().set("A=1").set("B=").edit("f", -3).edit("g", 4).erase("g").load("a: b\n")
                    .load("c: d\n");
            run.load(next, next.startsWith("z") ? -1 : 0).times("f g a b c d", "1 0 0 0 0 0").contents("f g", "-3 0");
            run.names("f g a b c d" + (next.startsWith("t") ? " t" : "")).load("A=x\nB=y\nu:\n\t<$A$B>\n")
                    .build("", 2, 0).prints("<1>\n");
            run.edit("g", 1).times("f g", "1 3");
        }
        Run full = TermsBounds.thirtyOne().edit("last", 1).load("").asks("names", RuleBuilder::names, 32)
                .load("a: b last\n");
        full.load("a: more\n", -1).asks("names", RuleBuilder::names, 32);
    }

    private static void firstWrongLine() {
        Sentence.of(5, "Answers 0; when a line is wrong, minus the number of the first such line:");
        new Run().load("").load("\n").load("a:").load("a:\n\n\n");
        new Run().load("x", -1).load("x\ny\nz\n", -1).load("a:\nx\ny\n", -2).load("a:\n\nb:\n\tc\nd:\nx", -6);
        new Run().load("\n".repeat(319) + "x", -320);
        new Run().load("\n".repeat(320)).names("");
        // What is wrong by a line before it is told by the later one.
        new Run().load("a:\n\techo\n\n\na:\n\n\n\techo\n", -8)
                .load(".SUFFIXES: .a .b .c .d .e .f\n\n.SUFFIXES: .g\n", -3);
        new Run().load("A=$\n\nB=$A\n\na: $B\n", -5);
    }

    private static void nothingOfAWrongText() {
        Sentence.of(5, "then there are no rules, definitions and the like at all,");
        String text = "M=m\n.SUFFIXES: .c .o\n.c.o:\n\ttrue\n.c:\n\ttrue\n.PHONY: p\n.IGNORE:\n.SILENT:\n"
                + "t: a.c\n\ttrue\n.DEFAULT:\n\ttrue\n";
        Run run = new Run().edit("a.c", 1).edit("p", 1).load(text + "wrong\n", -14).buildRefused(0).build("a.o", 0, 2)
                .build("a", 0, 2);
        run.build("p", 0, 0).fates("p", "1").build("t", 0, 2).build("x", 0, 2).load("u:\n\techo <$M>\n\tfalse\n")
                .build("", 0, 2);
        run.prints("echo <>\n<>\nfalse\n");
        // The same text without the wrong line has it all.
        run = new Run().edit("a.c", 1).edit("p", 1).load(text).build("", 0, 0).fates("t", "2").build("a.o", 0, 0)
                .build("a", 0, 0);
        run.build("p", 0, 0).fates("p", "2").build("x", 0, 0).prints("");
    }

    private static void namesBeforeAWrongWord() {
        Sentence.of(5, "but names met before it (in a wrong line those words before the wrong one) stay met.");
        new Run().load("a: b\nc: d E f\ng:\n", -2).names("a b c d");
        new Run().load("A: b\n", -1).names("").load("a B: c\n", -1).names("a").load("c d: e F\n", -1).names("a c d e");
        new Run().load("a: b c D\n", -1).names("a b c").load(".PHONY: d e F g\n", -1).names("a b c d e");
        // No word is wrong, or all of the line is: then none of it is met.
        new Run().load("a: b $\n", -1).load("a b\n", -1).load("a: b: c\n", -1).load(": b\n", -1).names("");
        new Run().load("a:\n.DEFAULT: b\n", -2).load(".SUFFIXES: .a b\n", -1).names("a");
        // Up to the last one that there is room for.
        Run full = TermsBounds.thirtyOne().load("a: b m1 m2 m3\n", -1).asks("names", RuleBuilder::names, 32);
        full.asks("nameAt(31, 1)", b -> b.nameAt(31, 1), '1');
    }
}
