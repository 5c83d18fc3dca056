/** The boundaries of how a command is carried out: its marks, what stands in it, the options, and the print. */
final class CommandBounds {
    private CommandBounds() {
    }

    static void check() {
        marks();
        targetAndSource();
        newerOnes();
        stems();
        wrongExpansions();
        printing();
        doing();
        forgiving();
        touching();
        whatIsTouched();
        leftOut();
        lengthOfThePrint();
    }

    private static void marks() {
        Sentence.of(8, "A COMMAND may have the marks -, @ and + at its beginning, in any order (they are taken "
                + "off, before it is expanded).");
        // None, one, two, three, and one of them several times.
        new Run().load("t:\n\techo\n").build("", 0, 0).prints("echo\n\n");
        for (String all : new String[] {"-@+", "-+@", "@-+", "@+-", "+-@", "+@-", "@@++--@"}) {
            Run run = new Run().load("t:\n\t" + all + "frob $@\n\techo\n").build("", 0, 0).prints("echo\n\n").done(2);
            run.build("", 2, 0).prints("frob t\necho\n").done(1);
        }
        new Run().load("t:\n\t-frob\n").build("", 0, 0).prints("frob\n").load("t:\n\t@frob\n").build("", 0, 2)
                .prints("");
        new Run().load("t:\n\t+frob\n").build("", 2, 2).prints("frob\n").load("t:\n\t-@\n\t+\n").build("", 0, 0)
                .prints("\n").done(2);
        // Marks behind a space, in a macro, or behind a word are none.
        new Run().load("t:\n\t -false\n").build("", 0, 2).prints(" -false\n");
        new Run().load("A=-false\nt:\n\t$A\n").build("", 0, 2).prints("-false\n");
        new Run().load("t:\n\t@- @true\n").build("", 0, 0).prints("").done(1).build("", 2, 0).prints(" @true\n");
        new Run().load("t:\n\techo -@+\n").build("", 0, 0).prints("echo -@+\n-@+\n");
        new Run().load("t:\n\t=echo\n\techo\n").build("", 16, 0).prints("=echo\necho\n\n");
    }

    private static void targetAndSource() {
        Sentence.of(8, "$@ is t; $< the source, or t when the commands are the default ones, else empty;");
        new Run().load("t:\n\t<$@,$<>\n").build("", 2, 0).prints("<t,>\n");
        new Run().load("12345678:\n\t<$@,$<>\n").build("", 2, 0).prints("<12345678,>\n");
        new Run().load(".DEFAULT:\n\t<$@,$<>\n").build("x", 2, 0).prints("<x,x>\n").build("12345678", 2, 0)
                .prints("<12345678,12345678>\n");
        Run run = new Run().edit("a.c", 1).edit("p", 1)
                .load(".SUFFIXES: .c .o\n.c.o:\n\t<$@,$<>\n.c:\n\t<$@,$<>\na.o: p\n");
        run.build("a.o", 2, 0).prints("<a.o,a.c>\n").build("a", 2, 0).prints("<a,a.c>\n");
        // One of another name, or of an earlier build, does not stand there.
        run.load("a.o: x\n\t<$@,$<>\nx:\n\t<$@,$<>\n").build("", 2, 0).prints("<x,>\n<a.o,>\n");
    }

    private static void newerOnes() {
        Sentence.of(8, "$? the newer ones (each as often as it stands there), in the order of step 2, with a space "
                + "between two;");
        Run run = new Run().edit("c", 1).edit("t", 1).edit("b", 1).edit("a", 1);
        run.load("t: c\n\t<$?>\n.PHONY: t\n").build("", 2, 0).prints("<>\n");
        run.load("t: c b\n\t<$?>\n").build("", 2, 0).prints("<b>\n");
        run.load("t: a c b\n\t<$?>\n").build("", 2, 0).prints("<a b>\n");
        run.load("t: b c b\nt: a b\n\t<$?>\n").build("", 2, 0).prints("<b b a b>\n");
        // The source is the first, and stands there again if it is a prerequisite.
        run = new Run().edit("x.o", 1).edit("p", 1).edit("x.c", 1)
                .load(".SUFFIXES: .c .o\n.c.o:\n\t<$?>\nx.o: p x.c\n");
        run.build("x.o", 2, 0).prints("<x.c p x.c>\n");
        // Thirteen names of 8 characters are 116 characters, a fourteenth is too much.
        String many = "A=12345678 12345678 12345678 12345678 12345678 12345678\nt: $A $A 12345678\n";
        run = new Run().edit("12345678", 1).load(many + "\t$?abcd\n").build("", 2, 0);
        run.prints("12345678 ".repeat(12) + "12345678abcd\n").load(many + "\t$?abcde\n").build("", 2, 2).prints("");
        run.load(many + "t: 12345678\n\t$?\n\t-$?\n").build("", 2, 2).load(many + "t: $A $A\n\t-$?\n").build("", 0, 0)
                .done(0);
    }

    private static void stems() {
        Sentence.of(8, "$* is t without its suffix s (or t as it is for an ending rule of r alone) when there is a "
                + "source, else empty.");
        String rules = ".SUFFIXES: .c .o .b.o\n.c.o:\n\t<$*>\n.c:\n\t<$*>\n.c.b.o:\n\t<$*>\n";
        Run run = new Run().edit("a.c", 1).edit("abcdef.c", 1).edit("x.b.c", 1).load(rules).build("a.o", 2, 0)
                .prints("<a>\n");
        run.build("abcdef.o", 2, 0).prints("<abcdef>\n").build("abcdef", 2, 0).prints("<abcdef>\n").build("a", 2, 0)
                .prints("<a>\n");
        run.build("x.b.o", 2, 0).prints("<x.b>\n").build("a.b.o", 2, 0).prints("<a>\n");
        run.load("a.o:\n\t<$*>\n.DEFAULT:\n\t<$*>\n").build("a.o", 2, 0).prints("<>\n").build("y.o", 2, 0)
                .prints("<>\n");
    }

    private static void wrongExpansions() {
        Sentence.of(8, "If the expansion is wrong, it fails.");
        Run run = new Run().load("t:\n\techo 1\n\techo $x\n\techo 2\n").build("", 0, 2).fates("t", "3")
                .prints("echo 1\n1\n").done(1);
        run.build("", 2, 2).prints("echo 1\n").done(0).build("", 16, 0).prints("echo 1\n1\necho 2\n2\n").done(2);
        run.load("t:\n\t-echo $x\n\t@echo 2\n").build("", 0, 0).fates("t", "2").prints("2\n").done(1);
        run.load(".PHONY: t\nt:\n\t+$\n").build("", 2, 2).done(0).build("", 4, 2).done(0).build("", 8, 2).done(0)
                .prints("");
        run.load("t:\n\t$@$<$?$*\n").build("", 2, 0).prints("t\n").load("t:\n\t" + "x".repeat(121) + "\n")
                .build("", 2, 2).prints("");
    }

    private static boolean has(int options, int option) {
        return (options & option) != 0;
    }

    private static void printing() {
        Sentence.of(8, "It is PRINTED, with a newline behind it, unless the option 8 is given, or it is quiet: it "
                + "has @, t is silent or the option 32 is given, and the option 2 is not given.");
        for (int options = 0; options < 64; options++) {
            for (String quiet : new String[] {"", "@", ".SILENT: t\n", ".SILENT:\n"}) {
                String mark = quiet.length() == 1 ? quiet : "";
                Run run = new Run().load(quiet.substring(mark.length()) + ".PHONY: t\nt:\n\t+" + mark + "true\n");
                boolean isQuiet = (!quiet.isEmpty() || has(options, 32)) && !has(options, 2);
                run.build("", options, has(options, 8) ? 1 : 0).prints(has(options, 8) || isQuiet ? "" : "true\n")
                        .done(1);
            }
        }
        // What stands in it is printed as it is expanded, also nothing.
        new Run().load("t:\n\t  true  x  \n\t\n\t$A\n").build("", 0, 0).prints("  true  x  \n\n\n");
    }

    private static void doing() {
        Sentence.of(8, "It is DONE if it has +, or none of the options 2, 4 and 8 is given.");
        for (int options = 0; options < 64; options++) {
            boolean some = has(options, 2) || has(options, 4) || has(options, 8);
            int answer = has(options, 8) ? 1 : 0;
            new Run().load("t:\n\ttouch a\n").build("", options, answer).done(some ? 0 : 1)
                    .asks("names", RuleBuilder::names, some ? 1 : 2);
            new Run().load("t:\n\t+touch a\n").build("", options, answer).done(1).names("t a");
        }
    }

    private static void forgiving() {
        Sentence.of(8, "It is FORGIVEN if it has -, t is ignored, or the option 16 is given.");
        for (int options = 0; options < 64; options++) {
            for (String pardon : new String[] {"", "-", ".IGNORE: t\n", ".IGNORE:\n", ".IGNORE: u\n"}) {
                String mark = pardon.length() == 1 ? pardon : "";
                Run run = new Run().load(pardon.substring(mark.length()) + "t:\n\t+" + mark + "false\n");
                boolean forgiven = has(options, 16) || (!pardon.isEmpty() && !pardon.contains("u"));
                run.build("", options, !forgiven ? 2 : has(options, 8) ? 1 : 0).fates("t", forgiven ? "2" : "3")
                        .done(1);
            }
        }
    }

    private static void touching() {
        Sentence.of(8, "With the option 4, and neither 2 nor 8, when t has at least one command and is not phony, "
                + "touch, a space and t's name are printed before the commands, with a newline (unless t is silent "
                + "or 32 is given),");
        for (int options = 0; options < 64; options++) {
            boolean touches = has(options, 4) && !has(options, 2) && !has(options, 8);
            boolean prints = has(options, 2) && !has(options, 8);
            int answer = has(options, 8) ? 1 : 0;
            if (has(options, 2) || has(options, 4) || has(options, 8)) {
                String want = touches && !has(options, 32) ? "touch t\n" : prints ? "@x\n" : "";
                new Run().load("t:\n\t$A@x\n").build("", options, answer).prints(want).times("t", touches ? "1" : "0");
                want = prints ? "@x\n" : "";
                new Run().load(".SILENT: t\nt:\n\t$A@x\n").build("", options, answer).prints(want)
                        .times("t", touches ? "1" : "0");
                // Neither without a command nor if it is phony.
                new Run().load("t:\n").build("", options, answer).prints("").times("t", "0");
                new Run().load(".PHONY: t\nt:\n\t$A@x\n").build("", options, answer).prints(want).times("t", "0");
            }
        }
        new Run().load("12345678:\n\t+echo\n").build("", 4, 0).prints("touch 12345678\necho\n\n");
        new Run().load(".SILENT:\nt:\n\ttrue\n").build("", 4, 0).prints("").times("t", "1");
        // The mark @ does not hush it; a command that does nothing is one, as are default ones and those of endings.
        new Run().load("t:\n\t@true\n").build("", 4, 0).prints("touch t\n").load("u:\n\t\n").build("", 4, 0)
                .prints("touch u\n");
        new Run().load(".DEFAULT:\n\ttrue\n").build("x", 4, 0).prints("touch x\n").times("x", "1");
        new Run().edit("a.c", 1).load(".SUFFIXES: .c\n.c:\n\ttrue\n").build("a", 4, 0).prints("touch a\n")
                .times("a", "2");
        // One that is up to date is not touched, nor one that failed before its commands.
        new Run().edit("t", 1).load("t:\n\ttrue\n").build("", 4, 0).prints("").times("t", "1");
        new Run().load("t: nix\n\ttrue\n").build("", 4, 2).prints("").times("t", "0");
    }

    private static void whatIsTouched() {
        Sentence.of(8, "and t is written with the content that it has (0 if it was no file).");
        Run run = new Run().edit("t", -5).edit("s", 1).load("t: s\n\ttrue\n").build("", 4, 0).times("t s", "3 2")
                .contents("t", "-5");
        run.build("", 4, 0).times("t", "3").fates("t", "1").erase("t").build("", 4, 0).times("t", "4")
                .contents("t", "0");
        // It stands there before the commands with + are done, which may fail.
        new Run().load("t:\n\t+cp t u\n\t+false\n").build("", 4, 2).times("t u", "1 2").fates("t", "3").done(2);
    }

    private static void leftOut() {
        Sentence.of(8, "With the option 8, and with 4 and not 2, commands without + are left out (they are not "
                + "even expanded).");
        for (int options = 0; options < 64; options++) {
            boolean left = has(options, 8) || (has(options, 4) && !has(options, 2));
            int answer = left || has(options, 16) ? has(options, 8) ? 1 : 0 : 2;
            new Run().load(".PHONY: t\nt:\n\t$\n").build("", options, answer).fates("t", answer == 2 ? "3" : "2")
                    .done(0).prints("");
            // Those with + are expanded in any case.
            new Run().load("t:\n\t+$\n").build("", options, has(options, 16) ? has(options, 8) ? 1 : 0 : 2).done(0);
        }
    }

    private static void lengthOfThePrint() {
        Sentence.of(8, "What a build PRINTS is its PRINT; only the first 400 characters are kept.");
        // Three lines of 120 characters and one that goes up to, or beyond, the boundary.
        String print = ("y".repeat(120) + "\n").repeat(3);
        String before = "A=" + "y".repeat(60) + "\nt:\n\t$A$A\n\t$A$A\n\t$A$A\n";
        for (int length = 34; length <= 40; length++) {
            String whole = print + "z".repeat(length) + "\n";
            Run run = new Run().load(before + "\t" + "z".repeat(length) + "\n").build("", 2, 0);
            run.prints(whole.substring(0, Math.min(whole.length(), 400)));
            run.asks("printedAt(399)", b -> b.printedAt(399), whole.length() < 400 ? -1 : whole.charAt(399));
            run.asks("printedAt(400)", b -> b.printedAt(400), -1);
        }
        // Behind the boundary nothing is added, but all is done; the next print begins anew.
        Run run = new Run().load(before + "\t" + "z".repeat(37) + "\n\t+echo x\n\t+touch a\n").build("", 2, 0).done(2);
        run.prints((print + "z".repeat(37)).substring(0, 400)).names("t a").times("a", "1");
        run.load("t:\n\techo\n").build("", 0, 0).prints("echo\n\n").build("u", 0, 2).prints("");
        new Run().load(before).build("", 2, 0).prints(print);
        // A line of echo, and one of touch, over the boundary.
        run = new Run().load(before + "\t@+echo " + "x".repeat(50) + "\n").build("", 2, 0);
        run.prints((print + "echo " + "x".repeat(50)).substring(0, 400));
        String filled = "touch u\n" + ("x".repeat(114) + "\n").repeat(3) + "y".repeat(38) + "\n";
        String rules = "t: u 12345678\nu:\n" + "\t+@echo $A$A\n".repeat(3) + "\t+@echo " + "y".repeat(38) + "\n";
        run = new Run().load("A=" + "x".repeat(57) + "\n" + rules + "12345678:\n\ttrue\n").build("", 4, 0);
        run.prints(filled + "touch 12").times("u 12345678", "1 2");
    }
}
