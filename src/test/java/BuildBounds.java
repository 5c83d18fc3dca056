/** The boundaries of promises 6 to 8: edit, erase and build. */
final class BuildBounds {
    private BuildBounds() {
    }

    static void check() {
        edit();
        editRefused();
        erase();
        eraseRefused();
        goals();
        firstTargets();
        options();
        answers();
        optionsThatAreRefused();
        goalsThatAreRefused();
        withoutATarget();
    }

    private static void edit() {
        Sentence.of(6, "The draft, a name, is met and written as a file with this content; the draft is empty then.");
        Run run = new Run();
        int[] contents = {0, 1, -1, Integer.MAX_VALUE, Integer.MIN_VALUE};
        for (int i = 0; i < contents.length; i++) {
            run.edit("f" + i, contents[i]).times("f" + i, "" + (i + 1)).contents("f" + i, "" + contents[i])
                    .draftIsEmpty();
        }
        run.names("f0 f1 f2 f3 f4").edit("f0", 9).times("f0 f1", "6 2").contents("f0 f1", "9 1");
        // One that was met, or erased, is written as well; what became of it in the latest build stays.
        run = new Run().load("t:\n").build("", 0, 0).edit("t", 5).times("t", "1").contents("t", "5").fates("t", "2");
        run.erase("t").edit("t", 6).times("t", "2").contents("t", "6").names("t").fates("t", "2");
    }

    private static void editRefused() {
        Sentence.of(6, "Answers the name's number; NONE when it is no name, or would be the 33rd.");
        for (String draft : new String[] {"", " ", "A", "a b", " a", "a ", "a\n", "\ta", "123456789", "a-", "A=x",
                "a:", "x".repeat(320)}) {
            new Run().edit("f", 1).type(draft).editRefused(0).editRefused(-1).editRefused(Integer.MIN_VALUE);
        }
        Run run = TermsBounds.thirtyOne().edit("last", 1).type("more").editRefused(1).scrap().edit("last", 2)
                .edit("a", 3);
        run.times("last a", "33 34").type("mor").editRefused(1).type("e").editRefused(1);
        // The draft is there still.
        new Run().type("a:").editRefused(1).load("b\n").names("a b");
        new Run().type("abcdefgh").type("i").editRefused(1).load(":\n", -1).names("");
    }

    private static void erase() {
        Sentence.of(7, "The draft, a file's name, is no file any more; the draft is empty then.");
        Run run = new Run().edit("a", 5).edit("b", 0).erase("a").draftIsEmpty().times("a b", "0 2")
                .contents("a b", "0 0").names("a b");
        run.erase("b").times("a b", "0 0").edit("a", 1).times("a", "3").build("b", 0, 2).fates("b", "3");
        run.load("t:\n\ttouch t\n").build("", 0, 0).erase("t").fates("t", "2").done(1).prints("touch t\n")
                .times("t", "0");
    }

    private static void eraseRefused() {
        Sentence.of(7, "False when it is no file's name.");
        for (String draft : new String[] {"", "x", "n", "g", "F", "f ", " f", "f\n", "ff", "123456789", "f=",
                "x".repeat(320)}) {
            Run run = new Run().edit("f", 1).edit("g", 2).erase("g").load("n:\n").type(draft).eraseRefused()
                    .eraseRefused();
            run.scrap().names("f g n").times("f g n", "1 0 0");
        }
        // The draft is there still, and no name was met.
        new Run().type("n").eraseRefused().names("").edit("ew", 1, "new").names("new").erase("new").type("new")
                .eraseRefused();
    }

    private static void goals() {
        Sentence.of(8, "A build of the name in the draft, which is empty then;");
        Run run = new Run().load("a:\nb:\n").build("b", 0, 0).draftIsEmpty().fates("a b", "0 2").build("new", 0, 2)
                .draftIsEmpty();
        run.names("a b new").fates("a b new", "0 0 3").edit("f", 1).build("f", 0, 0).fates("a b new f", "0 0 0 1");
        run.build("12345678", 0, 2).names("a b new f 12345678");
    }

    private static void firstTargets() {
        Sentence.of(8, "if the draft is empty, of the first target in the rule text that has a rule.");
        new Run().load("a b: c\nd:\nc:\n").build("", 0, 0).fates("a b c d", "2 0 2 0");
        String others = ".SUFFIXES: .c .o\n.PHONY: p\n.IGNORE: i\n.SILENT: s\n.c.o:\n\ttrue\n.c:\n\ttrue\n"
                + ".DEFAULT:\n\ttrue\n";
        new Run().load(others + "x y: z\n").build("", 0, 0).fates("x y z p", "2 0 2 0");
        // A name that was met or built before has no advantage; one that begins with a point is as good as another.
        new Run().edit("a", 1).build("b", 0, 2).load("z: a\nb:\n").build("", 0, 0).fates("z a b", "2 1 0");
        new Run().load(".c.o: x\nx:\na:\n").build("", 0, 0).fates(".c.o x a", "2 2 0");
        new Run().load("a:\n").load("b:\na:\n").build("", 0, 0).fates("a b", "0 2");
        new Run().load(others).buildRefused(0);
    }

    private static void options() {
        Sentence.of(8, "options is the sum of 1 (go on with other prerequisites after a failure), 2 (only print), "
                + "4 (touch), 8 (only ask), 16 (forgive), 32 (be quiet).");
        String rules = "t: x y\n\techo t\nx:\n\tfalse\ny:\n\techo y\n";
        new Run().load(rules).build("", 0, 2).fates("t x y", "3 3 0").prints("false\n").done(1).times("y", "0");
        new Run().load(rules).build("", 1, 2).fates("t x y", "3 3 2").prints("false\necho y\ny\n").done(2)
                .times("y", "0");
        new Run().load(rules).build("", 2, 0).fates("t x y", "2 2 2").prints("false\necho y\necho t\n").done(0)
                .times("y", "0");
        new Run().load(rules).build("", 4, 0).fates("t x y", "2 2 2").prints("touch x\ntouch y\ntouch t\n").done(0)
                .times("x y t", "1 2 3");
        new Run().load(rules).build("", 8, 1).fates("t x y", "2 2 2").prints("").done(0).times("x y t", "0 0 0");
        new Run().load(rules).build("", 16, 0).fates("t x y", "2 2 2").prints("false\necho y\ny\necho t\nt\n").done(3);
        new Run().load(rules).build("", 32, 2).fates("t x y", "3 3 0").prints("").done(1);
        new Run().load(rules).build("", 33, 2).fates("t x y", "3 3 2").prints("y\n").done(2);
        new Run().load(rules).build("", 63, 1).fates("t x y", "2 2 2").prints("").done(0).times("x y t", "0 0 0");
        // What one build was given, the next was not.
        new Run().load(rules).build("", 63, 1).build("", 0, 2).fates("t x y", "3 3 0").prints("false\n").done(1);
    }

    private static void answers() {
        Sentence.of(8, "Answers 2 when the goal failed, else 1 when the option 8 is given and some name was out of "
                + "date, else 0.");
        Run run = new Run().edit("s", 1).edit("t", 1).load("t: s\n\tfalse\n").build("", 0, 0).build("", 8, 0)
                .edit("s", 1);
        run.build("", 8, 1).build("", 0, 2).build("", 2, 0).build("s", 8, 0).build("nix", 8, 2).build("nix", 9, 2);
        // A prerequisite that is out of date makes the goal so, though the goal is a file and has no commands.
        new Run().load("t: u\nu:\n").edit("t", 1).build("", 8, 1).fates("t u", "2 2");
        // The goal failed, though some name was out of date.
        new Run().load("t: u x\nu:\n").build("", 8, 2).fates("t u x", "3 2 3");
        new Run().load("t: u\nu:\n\t+touch u t\n").build("", 8, 1).fates("t u", "2 2").build("", 8, 0)
                .fates("t u", "1 1");
        // A name that failed but is not the goal: it fails the goal, too.
        new Run().load("t: x\n").build("", 1, 2).build("t", 16, 2).build("x", 0, 2).edit("x", 1).build("t", 0, 0);
    }

    private static void optionsThatAreRefused() {
        Sentence.of(8, "NONE when options is not 0 .. 63,");
        for (int options : new int[] {-1, -2, -63, -64, 64, 65, 127, 128, 256, 65536, Integer.MAX_VALUE,
                Integer.MIN_VALUE}) {
            Run run = new Run().edit("f", 1).load("t:\n\ttrue\n").build("", 0, 0).buildRefused(options);
            run.type("new").buildRefused(options).names("f t").scrap().type("f").buildRefused(options)
                    .fates("t f", "2 0");
            run.build("", 0, 0).fates("t f", "0 1");
        }
        Run run = new Run().load("t:\n");
        for (int options = 0; options < 64; options++) {
            run.build("", options, (options & 8) != 0 ? 1 : 0);
        }
    }

    private static void goalsThatAreRefused() {
        Sentence.of(8, "the draft is neither empty nor a name (or one that would be the 33rd; else it is met),");
        for (String draft : new String[] {" ", "A", "t ", " t", "t\n", "t u", "\t", "123456789", "t:", "-",
                "t".repeat(320)}) {
            Run run = new Run().load("t:\n\techo t\n").build("", 0, 0).type(draft).buildRefused(0).buildRefused(63)
                    .scrap();
            run.names("t").fates("t", "2").prints("echo t\nt\n").done(1);
        }
        Run full = TermsBounds.thirtyOne().load("a:\n").build("last", 0, 2).asks("names", RuleBuilder::names, 32);
        full.type("more").buildRefused(0).scrap().build("last", 0, 2).build("z", 0, 0);
        // It is met, also when it fails.
        new Run().build("new", 0, 2).names("new").build("12345678", 8, 2).names("new 12345678");
        new Run().type("t:").buildRefused(0).load("\n").names("t");
    }

    private static void withoutATarget() {
        Sentence.of(8, "or there is no target that has a rule and the draft is empty.");
        new Run().buildRefused(0).buildRefused(63).edit("f", 1).buildRefused(0).build("f", 0, 0).buildRefused(0)
                .fates("f", "1");
        for (String text : new String[] {"", "A=1\n", ".PHONY: a\n", ".IGNORE:\n", ".SILENT: a\n",
                ".DEFAULT:\n\ttrue\n", ".SUFFIXES: .c\n.c:\n\ttrue\n.c.c:\n"}) {
            new Run().load("t:\n").build("", 0, 0).load(text).buildRefused(0).buildRefused(8).load("t:\n")
                    .build("", 0, 0);
        }
        new Run().load("t:\nx\n", -2).buildRefused(0).build("t", 0, 2).fates("t", "3");
    }
}
