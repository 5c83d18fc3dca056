/** The boundaries of what makes a line of a rule text wrong. */
final class WrongLineBounds {
    private static final String EIGHTY = "a b c d e f g h: 1 2 3 4 5 6 7 8 9 0\n";

    private WrongLineBounds() {
    }

    static void check() {
        expansionsColonsAndTargets();
        wordsThatAreNoNames();
        mostNames();
        commandsBeforeRules();
        commandsOfSpecialTargets();
        secondCommands();
        prerequisitesOfDefault();
        formsOfSuffixes();
        mostSuffixes();
        mostPrerequisites();
        mostCommandLines();
        mostEndings();
    }

    /**
     * Loads a text that is wrong into an object that has rules, files, a set macro and a build behind it: only the
     * names that are said stay of the text, and all that load() does not forget stays, too.
     */
    static void wrong(String text, int line, String met) {
        Run run = new Run().set("S=s").edit("f1", 7).load("g1:\n\techo $S\n").build("", 0, 0).load(text, -line);
        run.names("f1 g1" + (met.isEmpty() ? "" : " " + met)).times("f1 g1", "1 0").contents("f1", "7");
        run.done(1).prints("echo s\ns\n").buildRefused(0).draftIsEmpty();
        for (String name : ("f1 g1 " + met).trim().split(" ")) {
            run.fates(name, "0");
        }
        run.load("g1:\n\techo $S$A$B\n").build("", 2, 0).prints("echo s\n").edit("f1", 8).times("f1", "2");
    }

    private static void right(String text, String met) {
        new Run().load(text).names(met);
    }

    private static void expansionsColonsAndTargets() {
        Sentence.of(5, "A line is WRONG when its expansion is, when it has not one colon or no target,");
        wrong("a: $", 1, "");
        wrong("x:\na: $@ b\n", 2, "x");
        wrong("A=$a\nb:\nc: $A\n", 3, "b");
        right("A=$a\nb:\n", "b");
        wrong("a: " + "b".repeat(118) + "\n", 1, "");
        wrong("a:" + " 1234567".repeat(14) + " 12345 \n" + "a:" + " 1234567".repeat(14) + " 123456\n", 2,
                "a 1234567 12345");
        wrong("a", 1, "");
        wrong("a b: c d: e\n", 1, "");
        wrong("A=1\n\nB=2\n:\n", 4, "");
        wrong("a: b\n: a\n", 2, "a b");
    }

    private static void wordsThatAreNoNames() {
        Sentence.of(5, "when a word should be a name and is not,");
        wrong("a: b C d\n", 1, "a b");
        wrong("a B c: d\n", 1, "a");
        wrong("A: b\n", 1, "");
        wrong("a: 123456789\n", 1, "a");
        right("a: 12345678\n", "a 12345678");
        wrong(".PHONY: a b- c\n", 1, "a");
        wrong(".IGNORE: a b- c\n", 1, "a");
        wrong(".SILENT: a b- c\n", 1, "a");
        wrong("a:\n.SILENT: b .PHONY\n", 2, "a b");
        wrong("a: b$$\n", 1, "a");
        wrong("a: >\n", 1, "a");
        // The names of the line before it, and none of those behind it.
        wrong("a: b\nc d: e f= g\nh:\n", 2, "a b c d e");
    }

    private static void mostNames() {
        Sentence.of(5, "or a 33rd name would be met;");
        String others = "b c d e f g h i j k l m n o p q r s t u v w x y z 0 1 2 3";
        right("a: " + others + " 4 5\n", "a " + others + " 4 5");
        right("a: " + others + " 4 5 a b 4 5\n.PHONY: 5 4\n5 4: a\n", "a " + others + " 4 5");
        // Two names are there before the text is read.
        wrong("a: " + others + " 4 5\n", 1, "a " + others);
        wrong("a: " + others + "\nb: 4\n", 2, "a " + others);
        wrong("a: " + others + "\n4:\n", 2, "a " + others);
        wrong("a: " + others + "\nb: c\n.PHONY: a 4 b\n", 3, "a " + others);
        wrong("a: " + others + "\n.SILENT: 4\n", 2, "a " + others);
        wrong("a: " + others + "\n.IGNORE: b 4\n", 2, "a " + others);
        // Suffixes, special targets and endings are not met.
        Run full = TermsBounds.thirtyOne().edit("last", 1);
        full.load(".SUFFIXES: .a .b\n.a.b:\n\ttouch more\n.a:\n.DEFAULT:\n\ttouch more\n").load("b: c\n");
    }

    private static void commandsBeforeRules() {
        Sentence.of(5, "when it is a command line and no rule line is before it,");
        wrong("\techo\n", 1, "");
        wrong("\t", 1, "");
        wrong("\n\n# a:\nA=b\n\techo\na:\n", 5, "");
        right("a:\n\techo\n", "a");
        // A rule line of an earlier text is none.
        new Run().load("a:\n").load("\techo\n", -1).load("a:\n\techo\n").load("\n\techo\n", -2);
    }

    private static void commandsOfSpecialTargets() {
        Sentence.of(5, "the latest rule line is of .SUFFIXES, .PHONY, .IGNORE or .SILENT,");
        for (String special : new String[] {".SUFFIXES", ".PHONY", ".IGNORE", ".SILENT"}) {
            wrong(special + ":\n\techo\n", 2, "");
            wrong(special + ":\n\n# x\nA=b\n\t\n", 5, "");
            wrong("a:\n\techo\n" + special + ":\n\techo\n", 4, "a");
            right(special + ":\na:\n\techo\n", "a");
            right("a:\n\techo\n" + special + ":\nb:\n\techo\n", "a b");
        }
        wrong(".SUFFIXES: .a\n\techo\n", 2, "");
        wrong(".PHONY: a\n\techo\n", 2, "a");
        right(".SUFFIXES: .a\n.a:\n\techo\n.DEFAULT:\n\techo\n", "");
    }

    private static void secondCommands() {
        Sentence.of(5, "or a target of it (.DEFAULT, too) had commands of an earlier rule line (the same line's "
                + "don't matter);");
        right("a:\n\techo 1\n\techo 2\n", "a");
        right("a a:\n\techo 1\n\techo 2\n", "a");
        right("a:\n\techo\na: b\na:\n", "a b");
        right("a:\na: b\na:\n\techo\n", "a b");
        wrong("a:\n\techo\na:\n\techo\n", 4, "a");
        wrong("a:\n\t\na:\n\n\t\n", 5, "a");
        wrong("a b:\n\techo\nc b d:\n\techo\n", 4, "a b c d");
        wrong("a:\n\techo\nb:\n\techo\nc d: e\n\techo\nd:\nb a:\n\techo\n", 9, "a b c d e");
        right(".DEFAULT:\n.DEFAULT:\n\techo 1\n\techo 2\n.DEFAULT:\n", "");
        wrong(".DEFAULT:\n\techo\n.DEFAULT:\n\techo\n", 4, "");
        wrong(".DEFAULT:\n\techo\na:\n\techo\n.DEFAULT:\n\t\n", 6, "a");
        // What an earlier text gave is forgotten.
        new Run().load("a:\n\techo\n").load("a:\n\techo\n").load(".DEFAULT:\n\techo\n").load(".DEFAULT:\n\techo\n");
        // A rule for the same ending takes the place of the earlier one.
        right(".SUFFIXES: .a\n.a:\n\techo\n.a:\n\techo\n", "");
    }

    private static void prerequisitesOfDefault() {
        Sentence.of(5, "when .DEFAULT has prerequisites;");
        right(".DEFAULT:\n", "");
        right(".DEFAULT:   $A  # a\n", "");
        wrong(".DEFAULT: a\n", 1, "");
        wrong("a:\n.DEFAULT: a b\n\techo\n", 2, "a");
    }

    private static void formsOfSuffixes() {
        Sentence.of(5, "when a suffix is not a name of two or more characters that begins with a point,");
        right(".SUFFIXES: .a .. ._ .0 .abcdefg .a.b.c.d\n", "");
        for (String bad : new String[] {".", "a", "ab", "a.b", "_.a", ".A", ".a-", "-a", ".abcdefgh", "$$.",
                ".SILENT"}) {
            wrong(".SUFFIXES: " + bad + "\n", 1, "");
            wrong("a:\n.SUFFIXES: .a .b " + bad + " .c\n", 2, "a");
        }
        // None of those before it stays.
        Run run = new Run().edit("x.a", 1).load(".SUFFIXES: .a b\n", -1).load(".a:\n\techo\n").names("x.a .a");
        run.build("x", 0, 2);
    }

    private static void mostSuffixes() {
        Sentence.of(5, "or would be the seventh;");
        right(".SUFFIXES: .a .b .c .d .e .f\n", "");
        wrong(".SUFFIXES: .a .b .c .d .e .f .g\n", 1, "");
        wrong(".SUFFIXES: .a .b .c .d .e .f\n.SUFFIXES: .a\n.SUFFIXES: .f .g\n", 3, "");
        right(".SUFFIXES: .a .b .c .d .e .f .a .b .c .d .e .f\n.SUFFIXES: .c .c\n", "");
        right(".SUFFIXES: .a .b .c .d .e .f\n.SUFFIXES:\n.SUFFIXES: .g .h .i .j .k .l\n", "");
        wrong(".SUFFIXES: .a .b .c\n.SUFFIXES:\n.SUFFIXES: .g .h .i .j .k .l .a\n", 3, "");
        // The sixth counts in all that suffixes do.
        Run run = new Run().edit("x.f", 1).load(".SUFFIXES: .a .b .c .d .e .f\n.f:\n\techo $<\n.f.a:\n\techo $@\n");
        run.build("x", 2, 0).prints("echo x.f\n").build("x.a", 2, 0).prints("echo x.a\n");
    }

    private static void mostPrerequisites() {
        Sentence.of(5, "when there would be more than 80 prerequisites (each counted once for each target),");
        right(EIGHTY, "a b c d e f g h 1 2 3 4 5 6 7 8 9 0");
        right(EIGHTY + "x:\na b:\n.PHONY: a b\n.SUFFIXES: .a .b\n", "a b c d e f g h 1 2 3 4 5 6 7 8 9 0 x");
        wrong(EIGHTY + "a: b\n", 2, "a b c d e f g h 1 2 3 4 5 6 7 8 9 0");
        wrong("a b c d e f g h i: 1 2 3 4 5 6 7 8 9\n", 1, "a b c d e f g h i 1 2 3 4 5 6 7 8 9");
        // 79 and one more, and 79 and two more.
        String most = "B=b b b b b b b b b b\na: $B $B $B $B\na: $B $B $B b b b b b b b b b\n";
        right(most + "c: b\n", "a b c");
        wrong(most + "c: b b\n", 4, "a b c");
        wrong(most + "c d: b\n", 4, "a b c d");
        wrong(most + "c c: b\n", 4, "a b c");
        // All eighty are updated, the last one, too.
        Run run = new Run().load(EIGHTY + "0:\n\tfalse\n1 2 3 4 5 6 7 8 9:\n").build("h", 0, 2);
        run.fates("h 1 9 0", "3 2 2 3").build("h", 16, 0).fates("h 1 9 0", "2 2 2 2");
        // Those of an earlier text do not count.
        new Run().load(EIGHTY).load(EIGHTY).load(EIGHTY);
    }

    private static void mostCommandLines() {
        Sentence.of(5, "30 command lines in all,");
        String thirty = ".SUFFIXES: .a\n.a:\n" + "\t\n".repeat(9) + "a:\n" + "\t\n".repeat(10) + ".DEFAULT:\n"
                + "\t\n".repeat(11);
        right(thirty, "a");
        wrong(thirty + "\t\n", 35, "a");
        wrong(thirty + "b:\n\techo\n", 36, "a b");
        wrong("a:\n" + "\t\n".repeat(31) + "b:\n", 32, "a");
        // Those of an ending rule whose place was taken are command lines of the text, too.
        wrong(".SUFFIXES: .a\n" + ".a:\n\t\n".repeat(31), 63, "");
        new Run().load("a:\n" + "\t\n".repeat(29) + "\techo x\n").build("", 0, 0).done(30)
                .prints("\n".repeat(29) + "echo x\nx\n");
        new Run().load("a:\n" + "\t\n".repeat(30)).load("a:\n" + "\t\n".repeat(30))
                .load("a:\n" + "\t\n".repeat(31), -32);
    }

    private static void mostEndings() {
        Sentence.of(5, "or 8 ending rules.");
        String seven = ".SUFFIXES: .a .b .c\n.a:\n.b:\n.c:\n.a.a:\n.a.b:\n.a.c:\n.b.a:\n";
        right(seven + ".b.b:\n", "");
        right(seven + ".b.b:\n.a:\n.b.b:\n\techo\n.a.c:\n", "");
        wrong(seven + ".b.b:\n.b.c:\n", 10, "");
        wrong(seven + ".b.b:\n.a:\nx:\n.c.c:\n", 12, "x");
        // The eighth is one as the others are.
        new Run().edit("x.b", 1).load(seven + ".b.c:\n\techo $<\n").build("x.c", 2, 0).prints("echo x.b\n");
        new Run().load(seven + ".b.b:\n").load(seven + ".b.c:\n").load(seven + ".c.c:\n");
    }
}
