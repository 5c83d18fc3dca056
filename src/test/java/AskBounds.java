/** The boundaries of promises 9 to 16: the calls that ask. */
final class AskBounds {
    private static final int[] FAR = {-1, -2, Integer.MIN_VALUE, 32, 33, 1000, Integer.MAX_VALUE};

    private AskBounds() {
    }

    static void check() {
        names();
        nameAt();
        time();
        content();
        fate();
        fatesBeforeAndAfter();
        done();
        printed();
        printedAt();
        askingChangesNothing();
    }

    private static void names() {
        Sentence.of(9, "How many names were met.");
        new Run().asks("names", RuleBuilder::names, 0).edit("a", 1).asks("names", RuleBuilder::names, 1).edit("a", 1)
                .asks("names", RuleBuilder::names, 1).erase("a").asks("names", RuleBuilder::names, 1);
        Run run = TermsBounds.thirtyOne().asks("names", RuleBuilder::names, 31).edit("last", 1)
                .asks("names", RuleBuilder::names, 32);
        run.type("more").editRefused(1).asks("names", RuleBuilder::names, 32).load("", -1)
                .asks("names", RuleBuilder::names, 32);
        new Run().load("a: b C\n", -1).asks("names", RuleBuilder::names, 2).build("c", 0, 2)
                .asks("names", RuleBuilder::names, 3);
    }

    private static void nameAt() {
        Sentence.of(10, "The code of character i of name k; NONE when there is none.");
        Run run = new Run().nameAtRefused(0, 0).edit("a", 1).edit("z9._abcd", 1)
                .asks("nameAt(0, 0)", b -> b.nameAt(0, 0), 97);
        for (int i = 0; i < 8; i++) {
            int place = i;
            run.asks("nameAt(1, " + i + ")", b -> b.nameAt(1, place), "z9._abcd".charAt(i));
        }
        run.nameAtRefused(0, 1).nameAtRefused(0, -1).nameAtRefused(1, 8).nameAtRefused(1, -1).nameAtRefused(2, 0)
                .nameAtRefused(-1, 0);
        for (int far : FAR) {
            run.nameAtRefused(far, 0).nameAtRefused(0, far).nameAtRefused(far, far);
        }
        run = TermsBounds.thirtyOne().nameAtRefused(31, 0).edit("last", 1)
                .asks("nameAt(31, 3)", b -> b.nameAt(31, 3), 't');
        run.nameAtRefused(31, 4).nameAtRefused(32, 0).asks("nameAt(30, 0)", b -> b.nameAt(30, 0), '4');
    }

    private static void time() {
        Sentence.of(11, "The time of name k, 0 when it is no file; NONE when there is no such name.");
        Run run = new Run().timeRefused(0).edit("a", 1).load("b:\n").asks("time(0)", b -> b.time(0), 1)
                .asks("time(1)", b -> b.time(1), 0);
        run.timeRefused(2).erase("a").asks("time(0)", b -> b.time(0), 0).edit("b", 1)
                .asks("time(1)", b -> b.time(1), 2);
        for (int far : FAR) {
            run.timeRefused(far);
        }
        run = TermsBounds.thirtyOne().timeRefused(31).edit("last", 1).asks("time(31)", b -> b.time(31), 32)
                .timeRefused(32);
    }

    private static void content() {
        Sentence.of(12, "The content of name k; 0 when it is no file, or there is none.");
        Run run = new Run().asks("content(0)", b -> b.content(0), 0).edit("a", 7).load("b:\n")
                .asks("content(0)", b -> b.content(0), 7);
        run.asks("content(1)", b -> b.content(1), 0).asks("content(2)", b -> b.content(2), 0);
        for (int far : FAR) {
            run.asks("content(" + far + ")", b -> b.content(far), 0);
        }
        run.erase("a").asks("content(0)", b -> b.content(0), 0).edit("a", -1).asks("content(0)", b -> b.content(0), -1);
        // A file that is written anew as none before has the content 0, whatever it had when it was one.
        run.erase("a").load("b:\n\ttouch a\n").build("", 0, 0).asks("content(0)", b -> b.content(0), 0).times("a", "3");
        TermsBounds.thirtyOne().edit("last", 31).asks("content(31)", b -> b.content(31), 31)
                .asks("content(32)", b -> b.content(32), 0);
    }

    private static void fate() {
        Sentence.of(13, "What became of name k in the latest build: 0 it was not updated, 1 UP TO DATE, 2 REBUILT, "
                + "3 it FAILED; NONE when there is no such name.");
        Run run = new Run().fateRefused(0).edit("f", 1).load("t: f u x v\nu v:\n").build("", 0, 2)
                .fates("f t u x v", "1 3 2 3 0");
        run.fateRefused(5).build("v", 0, 0).fates("f t u x v", "0 0 0 0 2").build("", 0, 2).edit("new", 1)
                .fates("new", "0");
        for (int far : FAR) {
            run.fateRefused(far);
        }
        // A build that is refused is not the latest one.
        run.buildRefused(64).fates("f t u x v", "1 3 2 3 0");
        TermsBounds.thirtyOne().fateRefused(31).build("last", 0, 2).asks("fate(31)", b -> b.fate(31), 3)
                .fateRefused(32);
        // A name that a command met.
        new Run().load("t:\n\ttouch a\n").build("", 0, 0).fates("t a", "2 0");
    }

    private static void fatesBeforeAndAfter() {
        Sentence.of(13, "(0 for all before the first build, and after load(), also one that is wrong; done() and "
                + "the print stay then.)");
        Run run = new Run().edit("f", 1).load("t: f\n\techo t\n").fates("f t", "0 0").build("", 0, 0)
                .fates("f t", "1 2");
        run.load("t:\n").fates("f t", "0 0").done(1).prints("echo t\nt\n").build("f", 0, 0).fates("f t", "1 0").done(0)
                .prints("");
        run.load("t:\n\techo x\n").build("", 0, 0).load("t", -1).fates("f t", "0 0").done(1).prints("echo x\nx\n");
        run.load("").fates("f t", "0 0").done(1).prints("echo x\nx\n");
        // Other calls leave the fates.
        run.load("t:\n").build("", 0, 0).set("A=1").edit("t", 1).erase("t").scrap().fates("f t", "0 2");
    }

    private static void done() {
        Sentence.of(14, "How many commands were done in the latest build (also those that failed when they were "
                + "done), 0 before the first.");
        Run run = new Run().done(0).load("t: u\n\ttrue\n\t-false\n\t-$\n\t\n\tfalse\n\ttrue\nu:\n\ttrue\n").done(0)
                .build("", 0, 2).done(5);
        run.buildRefused(-1).done(5).build("", 2, 0).done(0).build("u", 0, 0).done(1).build("nix", 0, 2).done(0);
        run.load("t:\n" + "\ttrue\n".repeat(30)).build("", 0, 0).done(30).edit("t", 1).done(30).build("", 0, 0).done(0);
        // One rule's commands for several names are done for each.
        new Run().load("t: a b c\na b c:\n\ttrue\n\ttrue\n").build("", 0, 0).done(6);
    }

    private static void printed() {
        Sentence.of(15, "How many characters the print of the latest build has, 0 before the first.");
        Run run = new Run().asks("printed", RuleBuilder::printed, 0).load("t:\n\t@echo\n")
                .asks("printed", RuleBuilder::printed, 0);
        run.build("", 0, 0).asks("printed", RuleBuilder::printed, 1).build("", 2, 0)
                .asks("printed", RuleBuilder::printed, 5);
        run.buildRefused(64).asks("printed", RuleBuilder::printed, 5).build("", 8, 1)
                .asks("printed", RuleBuilder::printed, 0);
        String text = "A=" + "x".repeat(97) + "\nt:\n" + "\t$A\n".repeat(4);
        // Four lines of 98 characters are 392; then up to 400 and no more.
        new Run().load(text).build("", 2, 0).asks("printed", RuleBuilder::printed, 392);
        new Run().load(text + "\t123456\n").build("", 2, 0).asks("printed", RuleBuilder::printed, 399);
        new Run().load(text + "\t1234567\n").build("", 2, 0).asks("printed", RuleBuilder::printed, 400);
        new Run().load(text + "\t12345678\n").build("", 2, 0).asks("printed", RuleBuilder::printed, 400);
        new Run().load(text + "\t$A\n\t$A\n").build("", 2, 0).asks("printed", RuleBuilder::printed, 400);
    }

    private static void printedAt() {
        Sentence.of(16, "The code of character i of the print; NONE when there is none.");
        Run run = new Run().printedAtRefused(0).printedAtRefused(-1).load("t:\n\techo ~\n").build("", 0, 0);
        String want = "echo ~\n~\n";
        for (int i = 0; i < want.length(); i++) {
            int place = i;
            run.asks("printedAt(" + i + ")", b -> b.printedAt(place), want.charAt(i));
        }
        run.printedAtRefused(want.length()).printedAtRefused(-1).printedAtRefused(400)
                .printedAtRefused(Integer.MAX_VALUE);
        run.printedAtRefused(Integer.MIN_VALUE).build("", 32, 0).asks("printedAt(0)", b -> b.printedAt(0), '~')
                .printedAtRefused(2);
        run.build("", 8, 1).printedAtRefused(0);
        String text = "A=" + "x".repeat(97) + "\nt:\n" + "\t$A\n".repeat(4) + "\t1234567";
        run = new Run().load(text).build("", 2, 0).asks("printedAt(391)", b -> b.printedAt(391), 10);
        run.asks("printedAt(399)", b -> b.printedAt(399), 10).asks("printedAt(398)", b -> b.printedAt(398), '7')
                .printedAtRefused(400);
        run = new Run().load(text + "89").build("", 2, 0).asks("printedAt(399)", b -> b.printedAt(399), '8')
                .printedAtRefused(400);
    }

    private static void askingChangesNothing() {
        Sentence.of(9, "How many names were met.");
        String text = ".SUFFIXES: .c .o\n.c.o:\n\tcp $< $@\nt: s.o u\n\t-false\n\techo $M\nu:\n";
        Run run = new Run().edit("s.c", 9).set("M=m").load(text).build("", 0, 0).type("s.");
        String print = "cp s.c s.o\nfalse\necho m\nm\n";
        run.prints(print).leavesAll("names", RuleBuilder::names, 4);
        Sentence.of(10, "The code of character i of name k");
        run.leavesAll("nameAt(2, 0)", b -> b.nameAt(2, 0), 's').leavesAll("nameAt(0, 2)", b -> b.nameAt(0, 2), 'c');
        Sentence.of(11, "The time of name k");
        run.leavesAll("time(0)", b -> b.time(0), 1).leavesAll("time(1)", b -> b.time(1), 0);
        Sentence.of(12, "The content of name k");
        run.leavesAll("content(2)", b -> b.content(2), 9).leavesAll("content(4)", b -> b.content(4), 0);
        Sentence.of(13, "What became of name k in the latest build");
        run.leavesAll("fate(1)", b -> b.fate(1), 2).leavesAll("fate(0)", b -> b.fate(0), 1);
        Sentence.of(14, "How many commands were done in the latest build");
        run.leavesAll("done", RuleBuilder::done, 3);
        Sentence.of(15, "How many characters the print of the latest build has");
        run.leavesAll("printed", RuleBuilder::printed, print.length());
        Sentence.of(16, "The code of character i of the print");
        run.leavesAll("printedAt(10)", b -> b.printedAt(10), '\n').leavesAll("printedAt(0)", b -> b.printedAt(0), 'c');
        run.edit("c", 10, "s.c").build("t", 0, 0).prints(print).contents("s.c s.o", "10 10");
    }
}
