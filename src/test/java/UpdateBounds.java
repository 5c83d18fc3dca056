/** The boundaries in the three steps by which a name is updated. */
final class UpdateBounds {
    private UpdateBounds() {
    }

    static void check() {
        onceInABuild();
        ownCommands();
        charactersBeforeASuffix();
        sourcesInPlaceOfASuffix();
        orderOfSuffixes();
        suffixBehindAName();
        sourceOfATarget();
        defaultCommands();
        orderOfUpdates();
        underWay();
        longestChain();
        longestChainWithSources();
        failures();
        outOfDate();
        newerTimes();
        newerOnes();
        upToDate();
        commandsThatFail();
        withoutCommands();
    }

    private static void onceInABuild() {
        Sentence.of(8, "A BUILD of a goal UPDATES it. TO UPDATE a name t: if this was done in the same build, it "
                + "is not done again.");
        Run run = new Run().load("t: a b a\n\techo t\na: c\n\techo a\nb: c c\n\techo b\nc:\n\techo c\n")
                .build("", 2, 0);
        run.prints("echo c\necho a\necho b\necho t\n").build("", 2, 0).prints("echo c\necho a\necho b\necho t\n");
        // Neither is one that failed, and it fails for all that need it.
        run = new Run().load("t: a b\na: x\nb: x\nx:\n\techo x\n\tfalse\n").build("", 1, 2).fates("t a b x", "3 3 3 3")
                .done(2);
        run.build("", 1, 2).done(2);
        // Nor one that was up to date, though it would not be so any more.
        run = new Run().edit("p", 1).edit("u", 1).load("t: u v u\n\ttouch t\nu: p\n\ttouch u\nv:\n\ttouch p\n");
        run.build("", 0, 0).fates("t u v p", "2 1 2 1").prints("touch p\ntouch t\n").build("u", 0, 0).fates("u", "2");
    }

    private static void ownCommands() {
        Sentence.of(8, "Otherwise: 1. Its commands are its own, if it has any.");
        String ending = ".SUFFIXES: .c .o\n.c.o:\n\techo ending\n.c:\n\techo one\n.DEFAULT:\n\techo default\n";
        Run run = new Run().edit("a.c", 1).load(ending + "a.o a:\n\techo own\n").build("a.o", 2, 0)
                .prints("echo own\n");
        run.build("a", 2, 0).prints("echo own\n").fates("a a.c", "2 0");
        // One that does nothing is one.
        run.load(ending + "a.o:\n\t\n").build("a.o", 2, 0).prints("\n").fates("a.o a.c", "2 0");
        run.load(ending + "a.o:\n").build("a.o", 2, 0).prints("echo ending\n").fates("a.o a.c", "2 1");
    }

    private static void charactersBeforeASuffix() {
        Sentence.of(8, "Else an ending rule is looked for: for each suffix s with which t ends, other characters "
                + "being before it, in the order of the suffixes,");
        String rules = ".SUFFIXES: .c .o\n.c.o:\n\techo $*\n";
        Run run = new Run().edit(".c", 1).edit("a.c", 1).edit("..c", 1).edit("abcdef.c", 1).load(rules);
        run.build(".o", 2, 2).fates(".o", "3").build("a.o", 2, 0).prints("echo a\n").build("..o", 2, 0)
                .prints("echo .\n");
        run.build("abcdef.o", 2, 0).prints("echo abcdef\n").build("o", 2, 2).build("ao", 2, 2).build("a.oo", 2, 2)
                .build("a.o.", 2, 2).build("a_o", 2, 2).build("a.p", 2, 2);
        // A suffix is all of a name's end, with its first point.
        new Run().edit("a.c", 1).load(".SUFFIXES: .c .b.o\n.c.b.o:\n\techo $*\n").build("a.o", 2, 2).build("b.o", 2, 2)
                .build(".b.o", 2, 2).build("a.b.o", 2, 0).prints("echo a\n");
    }

    private static void sourcesInPlaceOfASuffix() {
        Sentence.of(8, "if there is an ending rule from r to s with commands, and t with r in place of s is a name "
                + "that has a rule or is a file: this is the one;");
        String rules = ".SUFFIXES: .c .o\n.c.o:\n\techo $<\n";
        // Not met; met, but neither with a rule nor a file; a file; with a rule.
        Run run = new Run().load(rules).build("a.o", 2, 2).names("a.o").load(rules + ".PHONY: a.c\nx: a.c\n");
        run.build("a.o", 2, 2).fates("a.o a.c", "3 0").edit("a.c", 1).build("a.o", 2, 0).prints("echo a.c\n");
        run.erase("a.c").build("a.o", 2, 2).load(rules + "a.c:\n").build("a.o", 2, 0).prints("echo a.c\n")
                .fates("a.c", "2");
        // Without commands, the next one is looked for.
        run = new Run().edit("a.c", 1).edit("a.y", 1).load(".SUFFIXES: .c .y .o\n.c.o:\n.y.o:\n\techo $<\n");
        run.build("a.o", 2, 0).prints("echo a.y\n").erase("a.y").build("a.o", 2, 2);
        // What is longer than a name is none.
        run = new Run().edit("abcd.c", 1).edit("a.abcdef", 1);
        run.load(".SUFFIXES: .abcdef .c .o\n.abcdef.o:\n\techo $<\n.abcdef.c:\n\techo $<\n").build("a.o", 2, 0);
        run.prints("echo a.abcdef\n").build("abcd.o", 2, 2).build("ab.o", 2, 2).build("abcd.c", 2, 0)
                .fates("abcd.c", "1");
        // The suffix itself in its own place: the name is under way.
        new Run().edit("a.c", 1).load(".SUFFIXES: .c\n.c.c:\n\techo\n").build("a.c", 0, 2).fates("a.c", "3");
    }

    private static void orderOfSuffixes() {
        Sentence.of(8, "in the order of the suffixes, and then for each suffix r in their order:");
        String rules = "\n.b.o:\n\techo b\n.a.o:\n\techo a\n.a.x.o:\n\techo x\n";
        Run run = new Run().edit("t.a", 1).edit("t.b", 1).edit("t.x.b", 1);
        run.load(".SUFFIXES: .a .b .o .x.o" + rules).build("t.o", 2, 0).prints("echo a\n");
        run.build("t.x.o", 2, 0).prints("echo b\n");
        run.load(".SUFFIXES: .b .a .x.o .o" + rules).build("t.o", 2, 0).prints("echo b\n");
        run.build("t.x.o", 2, 0).prints("echo x\n");
    }

    private static void suffixBehindAName() {
        Sentence.of(8, "if there is none, for each suffix r in their order: if there is an ending rule for r alone "
                + "with commands, and t with r behind it is a name that has a rule or is a file.");
        String rules = ".SUFFIXES: .a .b .o\n.b:\n\techo b $*\n.a:\n\techo a $*\n.a.o:\n\techo ao $*\n";
        Run run = new Run().edit("t.a", 1).edit("t.b", 1).edit("t.o.b", 1).load(rules).build("t", 2, 0)
                .prints("echo a t\n");
        run.build("t.o", 2, 0).prints("echo ao t\n").erase("t.a").build("t.o", 2, 0).prints("echo b t.o\n");
        run.build("t", 2, 0).prints("echo b t\n").erase("t.b").build("t", 2, 2);
        // Met only, with a rule, and a rule without commands.
        run.load(".SUFFIXES: .a\n.a:\n\techo a\nx: t.a\n").build("t", 2, 2)
                .load(".SUFFIXES: .a\n.a:\n\techo a\nt.a:\n");
        run.build("t", 2, 0).prints("echo a\n").load(".SUFFIXES: .a\n.a:\nt.a:\n").build("t", 2, 2);
        // Up to 8 characters together.
        run = new Run().edit("abcdef.a", 1).load(rules).build("abcdef", 2, 0).prints("echo a abcdef\n");
        run.build("abcdefg", 2, 2).build("abcdefgh", 2, 2).names("abcdef.a abcdef abcdefg abcdefgh");
        // All of t is before it, also when t is a suffix.
        new Run().edit(".o.a", 1).load(rules).build(".o", 2, 0).prints("echo a .o\n");
    }

    private static void sourceOfATarget() {
        Sentence.of(8, "Its commands are t's then, and the other name is t's SOURCE.");
        String rules = ".SUFFIXES: .c .o\n.c.o:\n\tcp $< $@\n\techo $@\n";
        Run run = new Run().edit("a.c", 7).load(rules).build("a.o", 0, 0).prints("cp a.c a.o\necho a.o\na.o\n").done(2);
        run.contents("a.o", "7").fates("a.o a.c", "2 1").build("a.o", 0, 0).fates("a.o a.c", "1 1").done(0);
        run.edit("a.c", 8).build("a.o", 0, 0).contents("a.o", "8");
        // A file and a name with a rule have it as well as one that has nothing.
        run.edit("b.o", 1).edit("b.c", 2).build("b.o", 0, 0).contents("b.o", "2").load(rules + "c.o: b.o\n")
                .edit("c.c", 3);
        run.build("c.o", 0, 0).contents("c.o", "3").fates("c.o c.c b.o", "2 1 1");
    }

    private static void defaultCommands() {
        Sentence.of(8, "Else, if t has no rule and is no file, its commands are the default ones, if there are "
                + "any, and else t FAILS.");
        new Run().build("x", 0, 2).fates("x", "3").done(0).prints("").edit("x", 1).build("x", 0, 0).fates("x", "1");
        Run run = new Run().load(".DEFAULT:\n\techo $@\ny:\n").edit("z", 1).build("x", 0, 0).fates("x", "2")
                .prints("echo x\nx\n");
        run.build("y", 0, 0).fates("y", "2").prints("").build("z", 0, 0).fates("z", "1").prints("");
        run.erase("z").build("z", 0, 0).fates("z", "2").done(1);
        // The default without commands, and names that are phony, ignored or silent but have no rule.
        new Run().load(".DEFAULT:\n.PHONY: x\n.IGNORE: x\n.SILENT: x\n").build("x", 16, 2).fates("x", "3");
        new Run().load("t: x\n").build("", 0, 2).fates("t x", "3 3");
    }

    private static void orderOfUpdates() {
        Sentence.of(8, "The source, if there is one, and then the prerequisites, in their order, are updated;");
        String rules = ".SUFFIXES: .c .o\n.c.o:\n\techo o\na.o: y x y\na.o: z\nx y z:\n\techo $@\na.c:\n\techo c\n";
        new Run().load(rules).build("a.o", 2, 0).prints("echo c\necho y\necho x\necho z\necho o\n");
        new Run().load("t:\n\techo t\n").build("t", 2, 0).prints("echo t\n");
        // The source may be a prerequisite as well.
        new Run().load(rules + "a.o: a.c\n").build("a.o", 2, 0).prints("echo c\necho y\necho x\necho z\necho o\n");
    }

    private static void underWay() {
        Sentence.of(8, "one whose update is under way fails there and then (as a prerequisite, its own update goes "
                + "on).");
        new Run().load("a: a\n\techo\n").build("", 0, 2).fates("a", "3").prints("");
        new Run().edit("a", 1).load("a: a\n").build("", 0, 2).fates("a", "3").build("", 1, 2).fates("a", "3");
        // The goal's other prerequisites show that its own update went on, with the option 1.
        Run run = new Run().load("a: b c\n\techo a\nb: a d\n\techo b\nc d:\n\techo $@\n").build("", 0, 2).prints("");
        run.fates("a b c d", "3 3 0 0").build("", 1, 2).fates("a b c d", "3 3 2 2").prints("echo d\nd\necho c\nc\n");
        // It failed as a prerequisite only: for one that comes later, it is still under way.
        run = new Run().load("a: b c\nb: a\nc: a d\nd:\n").build("", 1, 2).fates("a b c d", "3 3 3 2");
        run.build("d", 0, 0).fates("a b c d", "0 0 0 2");
        // Nothing of its update is done anew there: a file that would be its source by now is not looked for.
        run = new Run().load(".SUFFIXES: .c\n.c:\n\techo\na: x b\nx:\n\ttouch a.c\nb: a\n").build("", 0, 2);
        run.fates("a x b a.c", "3 2 3 0").times("a.c", "1");
        // As a source.
        new Run().load(".SUFFIXES: .c .o\n.c.o:\n\techo\na.c: a.o\n").build("a.o", 0, 2).fates("a.o a.c", "3 3");
    }

    private static void longestChain() {
        Sentence.of(8, "one whose update is under way fails there and then");
        String letters = "abcdefghijklmnopqrstuvwxyz012345";
        StringBuilder text = new StringBuilder();
        StringBuilder all = new StringBuilder("a");
        for (int i = 1; i < 32; i++) {
            text.append(letters.charAt(i - 1)).append(':').append(letters.charAt(i)).append('\n');
            all.append(' ').append(letters.charAt(i));
        }
        new Run().load(text + "5:\n").build("", 0, 0).fates(all.toString(), "2 ".repeat(32).trim());
        new Run().load(text + "5:a\n").build("", 0, 2).fates(all.toString(), "3 ".repeat(32).trim());
        new Run().load(text + "5:a\n").build("5", 1, 2).fates(all.toString(), "3 ".repeat(32).trim());
        new Run().load(text.toString()).build("", 0, 2).fates(all.toString(), "3 ".repeat(32).trim());
    }

    private static void longestChainWithSources() {
        Sentence.of(8, "The source, if there is one, and then the prerequisites, in their order, are updated");
        // From the last suffix to the first by sources, behind as many prerequisites as there is room for names.
        StringBuilder text = new StringBuilder(".SUFFIXES: .a .b .c .d\n.a.b:\n\ttrue\n.b.c:\n\ttrue\n");
        text.append(".c.d:\n\ttrue\nx.b x.c:\n");
        String letters = "abcdefghijklmnopqrstuvwxyz01";
        for (int i = 0; i + 1 < letters.length(); i++) {
            text.append(letters.charAt(i)).append(':').append(letters.charAt(i + 1)).append('\n');
        }
        text.append("1:x.d\n");
        Run run = new Run().edit("x.a", 1).load(text.toString()).build("a", 0, 0).done(3);
        run.fates("x.a x.b x.c x.d 1 a", "1 2 2 2 2 2").asks("names", RuleBuilder::names, 32);
    }

    private static void failures() {
        Sentence.of(8, "If one of them fails, t fails, and the rest is not updated, unless the option 1 is given.");
        String rules = "\n\techo t\na b c:\n\techo $@\nx y:\n\tfalse\n";
        new Run().load("t: a b c" + rules).build("", 0, 0).fates("t a b c", "2 2 2 2").done(4);
        new Run().load("t: x a b" + rules).build("", 0, 2).fates("t x a b", "3 3 0 0").done(1);
        new Run().load("t: a x b" + rules).build("", 0, 2).fates("t x a b", "3 3 2 0").done(2);
        new Run().load("t: a b x" + rules).build("", 0, 2).fates("t x a b", "3 3 2 2").done(3);
        new Run().load("t: x a y b" + rules).build("", 1, 2).fates("t x a y b", "3 3 2 3 2").done(4);
        new Run().load("t: u c\nu: x a\nc: nix" + rules.replace("a b c", "a b")).build("", 0, 2)
                .fates("t u x a c", "3 3 3 0 0");
        new Run().load("t: u c\nu: x a\nc: nix" + rules.replace("a b c", "a b")).build("", 1, 2)
                .fates("t u x a c nix", "3 3 3 2 3 3");
        // A source that fails, too; and to forgive commands does not forgive a name.
        String source = ".SUFFIXES: .c .o\n.c.o:\n\techo\na.o: b\na.c: nix\nb:\n";
        new Run().load(source).build("a.o", 16, 2).fates("a.o a.c nix b", "3 3 3 0").done(0);
        new Run().load(source).build("a.o", 17, 2).fates("a.o a.c nix b", "3 3 3 2").done(0);
    }

    private static void outOfDate() {
        Sentence.of(8, "t is OUT OF DATE if it is no file, is phony, or for one of those (the source or a "
                + "prerequisite) this holds: it was REBUILT,");
        Run run = new Run().load("t:\n\techo t\n").build("", 0, 0).fates("t", "2").edit("t", 1).build("", 0, 0)
                .fates("t", "1");
        run.load(".PHONY: t\nt:\n\techo t\n").build("", 0, 0).fates("t", "2").prints("echo t\nt\n");
        // A prerequisite that was rebuilt, though it is no file, or one that is older.
        run = new Run().edit("u", 1).edit("t", 1).load("t: n\n\techo t\nn:\n").build("", 0, 0).fates("t n", "2 2");
        run.load(".PHONY: u\nt: u\n\techo t\n").build("", 0, 0).fates("t u", "2 2").times("u t", "1 2");
        run.load("t: u\n\techo t\n").build("", 0, 0).fates("t u", "1 1");
        // A source that was rebuilt.
        run = new Run().edit("a.o", 1).load(".SUFFIXES: .c .o\n.c.o:\n\techo o\na.c:\n").build("a.o", 0, 0)
                .fates("a.o a.c", "2 2");
    }

    private static void newerTimes() {
        Sentence.of(8, "or it is a file whose time is greater than that of t.");
        // One less, one more.
        Run run = new Run().edit("s", 1).edit("t", 1).load("t: s\n\techo t\n").times("s t", "1 2").build("", 0, 0)
                .fates("t", "1");
        run.edit("s", 1).times("s t", "3 2").build("", 0, 0).fates("t s", "2 1").edit("t", 1).build("", 0, 0)
                .fates("t s", "1 1");
        // As a source.
        run = new Run().edit("s.c", 1).edit("s.o", 1).load(".SUFFIXES: .c .o\n.c.o:\n\techo t\n").build("s.o", 0, 0)
                .fates("s.o", "1");
        run.edit("s.c", 1).build("s.o", 0, 0).fates("s.o s.c", "2 1");
        // What is a file no more, is none whose time is greater, though t is no file either.
        run = new Run().edit("a", 1).load("t: a e\n\t<$?>\ne:\n\t+rm a\n").build("", 2, 0);
        run.prints("rm a\n<e>\n").fates("a", "1");
        // The times are those behind step 2.
        run = new Run().edit("s", 1).edit("t", 1).edit("u", 1).edit("t", 1)
                .load("t: s u\n\techo $?\nu: v\n\ttouch s\nv:\n");
        run.build("", 0, 0).prints("touch s\necho s u\ns u\n").times("s t u", "5 4 3");
    }

    private static void newerOnes() {
        Sentence.of(8, "These are the NEWER ones.");
        Run run = new Run().edit("a", 1).edit("t", 1).edit("b", 1).load("t: a b n\n\t<$?>\nn:\n").build("", 2, 0)
                .prints("<b n>\n");
        // None, when it is out of date for another reason.
        run.load(".PHONY: t\nt: a\n\t<$?>\n").build("", 2, 0).prints("<>\n").load("u:\n\t<$?>\n").build("u", 2, 0)
                .prints("<>\n");
        // All files, when it is none.
        run.load("u: a b t\n\t<$?>\n").build("u", 2, 0).prints("<a b t>\n");
    }

    private static void upToDate() {
        Sentence.of(8, "If t is not out of date, it is UP TO DATE.");
        Run run = new Run().edit("s", 1).edit("t", 1).load("t: s\n\tfalse\n");
        for (int options = 0; options < 64; options++) {
            run.build("", options, 0).fates("t s", "1 1").done(0).prints("");
        }
        run.times("s t", "1 2");
    }

    private static void commandsThatFail() {
        Sentence.of(8, "Else its commands are carried out one by one, and it is REBUILT, or, when one of them "
                + "fails that is not forgiven, it FAILS, and the rest of them is left.");
        new Run().load("t:\n\techo 1\n\techo 2\n").build("", 0, 0).fates("t", "2").done(2)
                .prints("echo 1\n1\necho 2\n2\n");
        new Run().load("t:\n\tfalse\n\techo 2\n").build("", 0, 2).fates("t", "3").done(1).prints("false\n");
        new Run().load("t:\n\ttouch t\n\tfalse\n").build("", 0, 2).fates("t", "3").done(2).times("t", "1");
        new Run().load("t:\n\t-false\n\tfalse\n\techo\n").build("", 0, 2).fates("t", "3").done(2);
        new Run().load("t:\n\t-false\n\techo 2\n\t-false\n").build("", 0, 0).fates("t", "2").done(3);
        // The option 1 is one for prerequisites, not for commands.
        new Run().load("t:\n\tfalse\n\techo 2\n").build("", 1, 2).fates("t", "3").done(1);
    }

    private static void withoutCommands() {
        Sentence.of(8, "Without commands it is REBUILT as well.");
        Run run = new Run().load("t: s\n").edit("s", 1).build("", 0, 0).fates("t s", "2 1").times("t", "0").prints("")
                .done(0);
        run.edit("t", 1).build("", 0, 0).fates("t s", "1 1").edit("s", 1).build("", 0, 0).fates("t s", "2 1")
                .times("t", "2");
        new Run().load("t:\n").build("", 0, 0).fates("t", "2").build("", 8, 1).build("", 4, 0).times("t", "0");
        new Run().edit("t", 1).load(".PHONY: t\n").build("t", 0, 0).fates("t", "2");
    }
}
