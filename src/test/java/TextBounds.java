/** The boundaries of how a rule text is read: its lines, definitions, rule lines and special targets. */
final class TextBounds {
    private TextBounds() {
    }

    static void check() {
        joints();
        numbersOfLines();
        commandLinesAndComments();
        emptyLines();
        definitions();
        colonsAndTargets();
        commandsOfRuleLines();
        suffixes();
        specialTargets();
        allNames();
        defaultCommands();
        oneSuffix();
        twoSuffixes();
        firstSuffixThatFits();
        endingsWithPrerequisites();
        laterEndings();
        otherRuleLines();
        rulesOfTargets();
    }

    /** Loads a text whose first target has one command, and looks at what it prints. */
    private static void prints(String text, String want) {
        new Run().load(text).build("", 2, 0).prints(want);
    }

    private static void joints() {
        Sentence.of(5, "THE RULE TEXT. A backslash with a newline behind it is read as one space.");
        prints("a:\n\techo x\\\ny\n", "echo x y\n");
        prints("a:\n\techo x \\\n y\n", "echo x   y\n");
        prints("a:\n\techo x\\\n\\\n\\\ny\n", "echo x   y\n");
        prints("a:\n\techo x\\\\\ny\n", "echo x\\ y\n");
        prints("a:\n\techo x\\", "echo x\\\n");
        prints("a:\n\techo x\\\n", "echo x \n");
        prints("a:\n\techo x\\ \n\techo y\n", "echo x\\ \necho y\n");
        prints("a:\n\techo \\n\\", "echo \\n\\\n");
        new Run().load("\\\n").load("\\\n\\\n\n").names("").load("ab\\\ncd:ef\\\n\\\ngh").names("ab cd ef gh");
        new Run().load("\\", -1).load("a: b\\", -1).load("a: b\\ \n", -1).load("a: \\b\n", -1).names("a");
        // The line that the space begins does not begin with a tab.
        new Run().load("a:\n\\\n\techo\n", -2);
        // Between a capital letter and =, a space is one too many; behind = it is cut.
        new Run().load("A\\\n=x\n", -1).load("A=\\\nx\na:\n\techo <$A>\n").build("", 2, 0).prints("echo <x>\n");
        // A comment goes on behind it.
        new Run().load("a: # b\\\nc\\\n").names("a");
    }

    private static void numbersOfLines() {
        Sentence.of(5, "What newlines separate then are LINES, each numbered by how many newlines of the draft "
                + "(those behind backslashes, too) are before it, + 1.");
        new Run().load("x", -1).load("x\n", -1).load("\nx", -2).load("\nx\n\n", -2);
        new Run().load("\n".repeat(319) + "x", -320);
        new Run().load("\n".repeat(318) + "x\n", -319);
        new Run().load("\n".repeat(320));
        new Run().load("\\\n".repeat(159) + "\nx", -161);
        new Run().load("\\\n".repeat(159) + "x", -1);
        new Run().load("a:\\\n\\\n\nx\n", -4).load("\nx\\\ny\\\n\n", -2).load("a:\n\ta\\\nb\nx", -4);
        // The last newline ends the last line but for an empty one.
        new Run().load("a:\n").load("a:").load("\n\n\na:\n\techo\n\n").names("a");
    }

    private static void commandLinesAndComments() {
        Sentence.of(5, "A line that begins with a tab is a COMMAND LINE; of any other one, a # and all behind it "
                + "is cut off, and then all spaces at both ends.");
        new Run().load("a:\n\t\n\t").build("", 0, 0).done(2).prints("\n\n");
        new Run().load("a:\n \techo\n", -2).load("a:\n \techo:\n", -2).load("\t", -1).load(" \t", -1);
        prints("a:\n\t#\n\techo # x #\n", "#\necho # x #\n");
        prints("a:\n\t  echo  \n", "  echo  \n");
        new Run().load("#").load("##\n#").load(" # \n").load("# a: b: $\n").names("");
        new Run().load("a:#").load("b: c#d").load("e: f #").load("   g   :   h   ").names("a b c e f g h");
        new Run().load("a#: b\n", -1).load("#a: b\nc: d # \\\n e: f: $\n").names("c d");
        prints("A=x#y\na:\n\techo <$A>#\n", "echo <x>#\n");
        // It is cut off before anything is expanded.
        new Run().set("A=#").load("a: $A\n", -1).load("b: c $(A:#=d)\n", -1).names("a");
        new Run().load("   \t", -1).load("a: b\t#\n", -1).names("a");
    }

    private static void emptyLines() {
        Sentence.of(5, "A line that is empty then is left out.");
        new Run().load("").load(" ").load("\n").load("     \n  #  \n\n").names("").buildRefused(0);
        prints("\n \n#\na:\n\n \n#\n\techo 1\n\n   \n# x\n\techo 2\n\n", "echo 1\necho 2\n");
        // One with a tab is not empty.
        new Run().load("\n\t\n", -2).load(" \t \n", -1);
    }

    private static void definitions() {
        Sentence.of(5, "If it begins with a capital letter and = behind it, it DEFINES the MACRO of that letter: "
                + "its value is what is behind =, without spaces at both ends; a later definition takes the place "
                + "of an earlier one.");
        for (char c = 'A'; c <= 'Z'; c++) {
            prints(c + "=v\na:\n\techo $" + c + "\n", "echo v\n");
        }
        for (String line : new String[] {"@=v", "[=v", "a=v", "z=v", "0=v", "=v", "A", "A =v", "AB=v", "A-=v",
                "A.=v"}) {
            new Run().load(line + "\n", -1).names("");
        }
        // Whatever is behind =, also a colon, it is a definition.
        new Run().load("A=b: c\n").names("").buildRefused(0).load("A=:\n  B=x:\nA=\n").names("").buildRefused(0);
        prints("A=\na:\n\t<$A>\n", "<>\n");
        prints("A=    \na:\n\t<$A>\n", "<>\n");
        prints("   A=   x  y   \na:\n\t<$A>\n", "<x  y>\n");
        prints("A=\tx\t\na:\n\t<$A>\n", "<\tx\t>\n");
        prints("A==\na:\n\t<$A>\n", "<=>\n");
        prints("A=1\nA=2\na:\n\t<$A>\n", "<2>\n");
        prints("A=1\na:\n\t<$A>\nA=\n", "<>\n");
        prints("A=" + "x".repeat(120) + "\na:\n\t$A\n", "x".repeat(120) + "\n");
        // How long a value is, and what is in it, is no matter before it is expanded.
        new Run().load("A=" + "x".repeat(318)).names("").load("A=$($$$\nB=$B\na:\n").names("a");
    }

    private static void colonsAndTargets() {
        Sentence.of(5, "Any other line is a RULE LINE: EXPANDED, it has exactly one colon; the words before it are "
                + "its TARGETS, one or more, the words behind it its PREREQUISITES.");
        new Run().load("a", -1).load("a b", -1).load("a::", -1).load("a: b:", -1).load("a:b:c:d", -1).names("");
        new Run().load(":", -1).load(": a", -1).load("  :  ", -1).load("::", -1).names("");
        new Run().load("a:").load("b:c").load("d e f:").load("g h: i j k\n").names("a b c d e f g h i j k");
        // As many words as an expansion has room for.
        new Run().load("a:" + "b ".repeat(58) + "c\n").names("a b c").load("a ".repeat(59) + ":b\n").names("a b c");
        // The colons are those of the expansion.
        new Run().set("C=:").load("a $C b\n").load("c$(C)\n").load("$C d\n", -1).load("a: b$C\n", -1).names("a b c");
        new Run().load("$D a: b\n$D: c\n", -2).load("a: b $(D:x:y=z)\n").load("a b $(D:x:y=z)\n", -1).names("a b");
        new Run().load("D=x\na$(D:x=: b)\n").load("D=x\na: $(D:x=:b)\n", -2).names("a b");
    }

    private static void commandsOfRuleLines() {
        Sentence.of(5, "The command lines behind a rule line (also when empty lines or definitions are between) "
                + "are its COMMANDS, the text behind the tab.");
        new Run().load("a:\nb:\n\techo b\n").build("a", 2, 0).prints("").build("b", 2, 0).prints("echo b\n");
        new Run().load("a:\n\techo a\nb:\n").build("a", 2, 0).prints("echo a\n").build("b", 2, 0).prints("");
        prints("a: b\nb:\na:\nA=1\n\n\techo 1\nB=2\n \n#\n\techo $A$B\n", "echo 1\necho 12\n");
        prints("a:\n\t\t\t\n\t\techo\n\t\n", "\t\t\n\techo\n\n");
        new Run().load("\t\na:\n", -1).load("\n\techo\n", -2).load("A=1\n\techo\n", -2).load("# a:\n\techo\n", -2);
        // Thirty of them for one rule line.
        new Run().load("a:\n" + "\techo\n".repeat(30)).build("", 0, 0).done(30).prints("echo\n\n".repeat(30));
    }

    private static void suffixes() {
        Sentence.of(5, "A rule line whose only target is .SUFFIXES appends its prerequisites to the SUFFIXES, "
                + "those that are there left out, or, if it has none, empties them.");
        String six = ".SUFFIXES: .a .b .c .d .e .f\n";
        new Run().load(six).names("").load(six + six + ".SUFFIXES: .f .a\n").names("").buildRefused(0);
        new Run().load(".SUFFIXES: .a .a .b .a .c .d .e .f .b .f\n").names("").buildRefused(0);
        new Run().load(six + ".SUFFIXES: .g\n", -2).load(six + ".SUFFIXES:\n.SUFFIXES: .g .h .i .j .k .l\n").names("");
        new Run().load(".SUFFIXES:\n.SUFFIXES:   # x\n.SUFFIXES:\n").names("").buildRefused(0);
        // Those that are there keep their place in the order.
        String rules = ".a:\n\techo a\n.b:\n\techo b\n";
        Run run = new Run().edit("x.a", 1).edit("x.b", 1);
        run.load(".SUFFIXES: .b\n.SUFFIXES: .a .b\n" + rules).build("x", 2, 0).prints("echo b\n");
        run.load(".SUFFIXES: .b\n.SUFFIXES:\n.SUFFIXES: .a .b\n" + rules).build("x", 2, 0).prints("echo a\n");
        // Once they are empty, no ending is one.
        run.load(".SUFFIXES: .a .b\n" + rules + ".SUFFIXES:\n").build("x", 2, 2).prints("");
        // With another target, or in another case, it is nothing special.
        new Run().load(".SUFFIXES a: .b\n", -1).load("a .SUFFIXES: .b\n", -1).load(".SUFFIXES .SUFFIXES:\n", -1)
                .names("a");
        new Run().load(".suffixe: .b\n").names(".suffixe .b").load(".SUFFIXE: .b\n", -1).load("SUFFIXES: .b\n", -1);
    }

    private static void specialTargets() {
        Sentence.of(5, ".PHONY, .IGNORE, .SILENT as the only target make the prerequisites (names, which are met) "
                + "PHONY, IGNORED or SILENT;");
        Run run = new Run().edit("a", 1).edit("b", 1).edit("c", 1);
        run.load(".PHONY: a\n.PHONY: b d\n.PHONY:\na b c:\n").names("a b c d");
        run.build("a", 0, 0).fates("a", "2").build("b", 0, 0).fates("b", "2").build("c", 0, 0).fates("c", "1");
        new Run().load(".IGNORE: a b\na b c:\n\tfalse\n").build("a", 0, 0).build("b", 0, 0).build("c", 0, 2);
        run = new Run().load(".SILENT: a b\na b c:\n\ttrue\n").build("a", 0, 0).prints("").build("b", 0, 0).prints("");
        run.build("c", 0, 0).prints("true\n");
        for (String special : new String[] {".PHONY", ".IGNORE", ".SILENT"}) {
            new Run().load(special + ":").load(special + ": a a\n").names("a").load(special + ": b C d\n", -1)
                    .names("a b");
            new Run().load(special + ": 123456789\n", -1).load(special + " x: a\n", -1)
                    .load("x " + special + ":\n", -1);
            new Run().load(special + " " + special + ":\n", -1).load("a: " + special + "\n", -1).names("a");
            new Run().load(special + "A: a\n", -1).load(special.toLowerCase() + ": a\n")
                    .names(special.toLowerCase() + " a");
            // Such a line gives a rule neither to its target nor to the names behind it.
            new Run().load(special + ": a\n").buildRefused(0).build("a", 0, 2).fates("a", "3");
        }
    }

    private static void allNames() {
        Sentence.of(5, ".IGNORE and .SILENT without any make all names so.");
        Run run = new Run().edit("old", 1).load(".IGNORE:\na: b\n\tfalse\nb:\n\tfalse\n").build("", 0, 0)
                .fates("a b", "2 2");
        run.load("a:\n\tfalse\n").build("", 0, 2).load("a:\n\tfalse\n.IGNORE:\n").build("", 0, 0);
        run = new Run().load(".SILENT:\na: b\n\ttrue\nb:\n\ttrue\n.DEFAULT:\n\ttouch $@\n").build("", 0, 0).prints("");
        // Also those that are met later, and with names that have it of their own.
        run.build("later", 0, 0).prints("").done(1).load(".SILENT: a\n.SILENT:\n.SILENT: c\nd:\n\ttrue\n");
        run.build("d", 0, 0).prints("").load(".SILENT: a\nd:\n\ttrue\n").build("d", 0, 0).prints("true\n");
        // .PHONY without any makes none so.
        new Run().edit("a", 1).load(".PHONY:\na:\n\ttrue\n").build("", 0, 0).fates("a", "1").done(0);
    }

    private static void defaultCommands() {
        Sentence.of(5, ".DEFAULT as the only target, without prerequisites, gets the DEFAULT commands.");
        new Run().load(".DEFAULT:\n").buildRefused(0).build("x", 0, 2).load(".DEFAULT:\n\t\n").build("x", 0, 0).done(1);
        new Run().load(".DEFAULT:\n\techo 1\n\techo 2\n.DEFAULT:\n").build("x", 2, 0).prints("echo 1\necho 2\n")
                .names("x");
        new Run().load(".DEFAULT: x\n", -1).load(".DEFAULT:x\n", -1).names("").load(".DEFAULT: # x\n\techo\n")
                .names("");
        new Run().load(".DEFAULT a:\n", -1).load("a .DEFAULT:\n", -1).load("a: .DEFAULT\n", -1).names("a");
    }

    private static void oneSuffix() {
        Sentence.of(5, "If the only target is a suffix");
        Run run = new Run().edit("x.a", 1).load(".SUFFIXES: .a\n.a:\n\techo $<\n").names("x.a").buildRefused(0);
        run.build("x", 2, 0).prints("echo x.a\n");
        // The shortest and the longest suffix.
        run = new Run().edit("x..", 1).edit("y.abcdef", 1);
        run.load(".SUFFIXES: .. .abcdef .abcdefg\n..:\n\techo 1\n.abcdef:\n\techo 2\n.abcdefg:\n");
        run.names("x.. y.abcdef").build("x", 2, 0).prints("echo 1\n").build("y", 2, 0).prints("echo 2\n");
        // What is no suffix yet, or no more, is a name.
        new Run().load(".a:\n.SUFFIXES: .a\n").names(".a").build("", 0, 0).fates(".a", "2");
        new Run().load(".SUFFIXES: .a\n.SUFFIXES:\n.a:\n").names(".a").build("", 0, 0);
        new Run().load(".SUFFIXES: .a\n.ab:\n").names(".ab").load(".SUFFIXES: .ab\n.a:\n").names(".ab .a");
        new Run().load(".SUFFIXES: .a\n.a .a:\n").names(".a").build("", 0, 0).fates(".a", "2");
    }

    private static void twoSuffixes() {
        Sentence.of(5, "or else two suffixes r and s, one behind the other");
        Run run = new Run().edit("x.a", 1).load(".SUFFIXES: .a .b\n.a.b:\n\techo $<\n").names("x.a").buildRefused(0);
        run.build("x.b", 2, 0).prints("echo x.a\n").build("x", 2, 2);
        new Run().load(".SUFFIXES: .a .b\n.b.a:\n.a.a:\n.b.b:\n").names("").buildRefused(0);
        // Only one of the two, three of them, or something between them: a name.
        new Run().load(".SUFFIXES: .a .b\n.a.c:\n.c.a:\n.a.b.a:\n.a_.b:\n").names(".a.c .c.a .a.b.a .a_.b");
        // As long as they are, they need be no name together; what is neither must be one.
        new Run().load(".SUFFIXES: .abcdefg .1234567\n.abcdefg.1234567:\n.1234567.1234567:\n\techo\n").names("");
        new Run().load(".SUFFIXES: .abcdefg\n.abcdefg.a:\n", -2).names("");
        // A suffix that is two others, too, is a suffix.
        run = new Run().edit("x.a.b", 1).edit("x.a", 1).load(".SUFFIXES: .a .b .a.b\n.a.b:\n\techo $<\n");
        run.build("x", 2, 0).prints("echo x.a.b\n").build("x.b", 2, 2);
    }

    private static void firstSuffixThatFits() {
        Sentence.of(5, "(the first such r in the order of the suffixes, if several fit)");
        String rule = ".a.b.c:\n\techo $<\n";
        Run run = new Run().edit("x.a", 1).edit("x.a.b", 1).load(".SUFFIXES: .a .a.b .c .b.c\n" + rule);
        run.build("x.b.c", 2, 0).prints("echo x.a\n").build("x.c", 2, 2);
        run.load(".SUFFIXES: .c .b.c .a.b .a\n" + rule).build("x.c", 2, 0).prints("echo x.a.b\n").build("x.b.c", 2, 2);
        // The first r with which there is no s does not fit.
        run.load(".SUFFIXES: .a .a.b .c\n" + rule).build("x.c", 2, 0).prints("echo x.a.b\n");
    }

    private static void endingsWithPrerequisites() {
        Sentence.of(5, "and there are no prerequisites, the line is an ENDING RULE, for r alone or from r to s;");
        new Run().load(".SUFFIXES: .a .b\n.a.b: x\n").names(".a.b x").build("", 0, 2).fates(".a.b x", "3 3");
        new Run().load(".SUFFIXES: .a .b\n.a: x\n.a:\n").names(".a x");
        new Run().load(".SUFFIXES: .a .b\n.a.b: $M # x\n.a:    \n").names("").buildRefused(0);
        new Run().load(".SUFFIXES: .a .b\n.a .b:\n").names(".a .b").build("", 0, 0).fates(".a .b", "2 0");
    }

    private static void laterEndings() {
        Sentence.of(5, "it takes the place of an earlier one for the same.");
        String start = ".SUFFIXES: .a .b\n.a.b:\n\techo 1\n.a:\n\techo 2\n";
        Run run = new Run().edit("x.a", 1).load(start + ".a.b:\n\techo 3\n").build("x.b", 2, 0).prints("echo 3\n");
        run.build("x", 2, 0).prints("echo 2\n").load(start + ".a:\n\techo 4\n").build("x", 2, 0).prints("echo 4\n");
        run.build("x.b", 2, 0).prints("echo 1\n").load(start + ".a.b:\n").build("x.b", 2, 2).prints("");
        run.load(start + ".a:\n").build("x", 2, 2).prints("").build("x.b", 2, 0).prints("echo 1\n");
    }

    private static void otherRuleLines() {
        Sentence.of(5, "In any other rule line all targets and then all prerequisites are names, and are met in "
                + "this order;");
        new Run().load("d c: b a\n").names("d c b a").load("a b: c e\nf: a\n").names("d c b a e f");
        new Run().load("a: a\n").names("a").load("b b: b b\n").names("a b");
        new Run().load("B: a\n", -1).load("a B: c\n", -1).names("a").load("b c: d E f\n", -1).names("a b c d");
        new Run().load("a: b c .D\n", -1).names("a b c").load("x -: y\n", -1).names("a b c x");
    }

    private static void rulesOfTargets() {
        Sentence.of(5, "each target has a RULE then, its prerequisites are appended to those it has, and the "
                + "commands are its own.");
        Run run = new Run().edit("p", 1).edit("q", 1).load("a b: p\n\techo $@ $?\na: q p\nb:\n").build("a", 2, 0);
        run.prints("echo a p q p\n").build("b", 2, 0).prints("echo b p\n").build("c", 2, 2);
        // A target without prerequisites and commands has a rule, a prerequisite has none.
        new Run().load("a:\nb: c\n").build("a", 0, 0).fates("a", "2").build("c", 0, 2).fates("c", "3");
        new Run().load("a a: b\n\techo $?\n").edit("b", 1).build("", 2, 0).prints("echo b b\n");
    }
}
