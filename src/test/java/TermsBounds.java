/** The boundaries in the first terms: names, files, the clock, the draft, words, and calls that are refused. */
final class TermsBounds {
    private TermsBounds() {
    }

    static void check() {
        whatItIs();
        lengthsOfNames();
        charactersOfNames();
        numbersOfNames();
        mostNames();
        files();
        clock();
        whatDoesNotWrite();
        draft();
        words();
        refusedCalls();
        mostCalls();
    }

    private static void whatItIs() {
        Sentence.of(8, "Builds files by a text of rules: macros, targets with what they are made from, rules for "
                + "endings, and commands, which are carried out on a small store of files, each at most once in a build "
                + "and only where something is out of date.");
        String text = "O=a.o b.o\n.SUFFIXES: .c .o\n.c.o:\n\tcp $< $@\np: $O h q a.o\n\tcat $O > $@\n"
                + "q: $O\n\tcat b.o h > q\na.o: h\n";
        Run run = new Run().edit("a.c", 1).edit("b.c", 2).edit("h", 3).load(text).build("", 0, 0).done(4);
        run.prints("cp a.c a.o\ncp b.c b.o\ncat b.o h > q\ncat a.o b.o > p\n").contents("a.o b.o q p", "1 2 97 65");
        run.times("a.c b.c h a.o b.o q p", "1 2 3 4 5 6 7").fates("a.c b.c h a.o b.o q p", "1 1 1 2 2 2 2");
        run.build("", 0, 0).done(0).prints("").fates("a.c b.c h a.o b.o q p", "1 1 1 1 1 1 1");
        // What is made from b.c alone, and from what is made from it.
        run.edit("b.c", 8).build("", 0, 0).done(3).prints("cp b.c b.o\ncat b.o h > q\ncat a.o b.o > p\n");
        run.times("a.c b.c h a.o b.o q p", "1 8 3 4 9 10 11").contents("a.o b.o q p", "1 8 283 71");
        run.edit("h", 3).build("q", 0, 0).done(2).prints("cp a.c a.o\ncat b.o h > q\n");
        run.build("", 0, 0).done(1).prints("cat a.o b.o > p\n").build("", 0, 0).done(0);
    }

    private static void lengthsOfNames() {
        Sentence.of(6, "A NAME is a text of 1 to 8 characters, each a small letter, a figure, a point or the line "
                + "_.");
        new Run().noName("");
        new Run().edit("a", 1).edit("ab", 1).edit("abcdefg", 1).edit("abcdefgh", 1).names("a ab abcdefg abcdefgh");
        new Run().noName("abcdefghi").noName("a".repeat(9)).noName("a".repeat(20));
        new Run().noName("a".repeat(100)).edit("aaaaaaaa", 1).noName("a".repeat(9)).names("aaaaaaaa");
        new Run().build("abcdefgh", 0, 2).names("abcdefgh").load("12345678: ........ ________\n");
        new Run().load("abcdefghi:\n", -1).names("").load("a: abcdefghi\n", -1).names("a");
        new Run().load("t:\n\ttouch abcdefgh\n\ttouch abcdefghi\n").build("", 0, 2).names("t abcdefgh").done(2);
        // Two that differ in the last character, or in the length, are two.
        new Run().edit("abcdefgh", 1).edit("abcdefgi", 2).edit("abcdefg", 3)
                .contents("abcdefgh abcdefgi abcdefg", "1 2 3");
    }

    private static void charactersOfNames() {
        Sentence.of(6, "each a small letter, a figure, a point or the line _.");
        String allowed = "abcdefghijklmnopqrstuvwxyz0123456789._";
        for (int code = 9; code <= 126; code = code == 10 ? 32 : code + 1) {
            char c = (char) code;
            if (allowed.indexOf(c) >= 0) {
                new Run().edit("" + c, 1).edit("bcdefg." + c, 2).names(c + " bcdefg." + c);
                new Run().load("xx: " + c + "\n").load(c + "y: xx\n").names("xx " + c + " " + c + "y");
            } else {
                new Run().noName("" + c).noName("bcdefg." + c).noName(c + "b").noName("b" + c + "b").names("");
            }
        }
    }

    private static void numbersOfNames() {
        Sentence.of(9, "Names are numbered 0, 1, .. in the order in which they are MET; at most 32 are met.");
        Run run = new Run().names("").edit("z", 1).asks("nameAt(0, 0)", b -> b.nameAt(0, 0), 'z');
        run.build("y", 0, 2).load("x w: v z\n").load(".PHONY: u\n.IGNORE: t\n.SILENT: s\n").names("z y x w v u t s");
        run.load("y:\n\ttouch r z q\n").build("", 0, 0).names("z y x w v u t s r q").edit("v", 1).edit("p", 1);
        run.names("z y x w v u t s r q p");
    }

    /** A run in which 31 names were met, each of which is a file with its number as the content. */
    static Run thirtyOne() {
        Run run = new Run();
        for (char c = 'a'; c <= 'z'; c++) {
            run.edit("" + c, c - 'a');
        }
        for (char c = '0'; c <= '4'; c++) {
            run.edit("" + c, 26 + c - '0');
        }
        return run;
    }

    private static void mostNames() {
        Sentence.of(9, "at most 32 are met.");
        Run full = thirtyOne().edit("last", 31).asks("names", RuleBuilder::names, 32);
        full.asks("nameAt(31, 3)", b -> b.nameAt(31, 3), 't').times("a last", "1 32");
        full.type("more").editRefused(1).buildRefused(0).eraseRefused().scrap().asks("names", RuleBuilder::names, 32);
        // The names that are there can be met again.
        full.edit("last", 5).edit("a", 6).build("last", 0, 0).asks("names", RuleBuilder::names, 32);
        full.load("a: last\n").load("a: more\n", -1).load("more: a\n", -1).load(".PHONY: more\n", -1);
        full.load("x:\n\ttouch a more\n").build("x", 0, 0).fates("x", "1").erase("x").build("x", 0, 2).fates("x", "3");
        full.times("a", "34");
        full.asks("names", RuleBuilder::names, 32);
        // To erase a file, or to forget the rules, makes no room for names.
        full.erase("last").load("").type("more").editRefused(1).scrap();
        thirtyOne().build("last", 0, 2).asks("names", RuleBuilder::names, 32).type("more").buildRefused(0)
                .editRefused(0);
        thirtyOne().load("a: last b\n").type("more").buildRefused(63).editRefused(0);
        thirtyOne().load("a: last more b\n", -1).asks("names", RuleBuilder::names, 32).type("more").editRefused(0);
    }

    private static void files() {
        Sentence.of(12, "A name may be a FILE, with a TIME and a CONTENT (an int).");
        Run run = new Run().edit("a", Integer.MAX_VALUE).edit("b", Integer.MIN_VALUE).edit("c", 0).edit("d", -1);
        run.build("e", 0, 2);
        run.contents("a b c d e", Integer.MAX_VALUE + " " + Integer.MIN_VALUE + " 0 -1 0")
                .times("a b c d e", "1 2 3 4 0");
        // A file with the content 0 is a file; what is none is none.
        run.type("e").eraseRefused().scrap().erase("c").times("c", "0").type("c").eraseRefused();
    }

    private static void clock() {
        Sentence.of(11, "The CLOCK is 0 at first; WRITING a file makes the clock grow by 1, and its time is the "
                + "clock then.");
        Run run = new Run().load("t:\n\ttouch a b a\n\tcp a c\n\tcat a b > d\n").build("", 0, 0);
        run.times("a b c d t", "3 2 4 5 0").build("", 4, 0).times("t", "6").edit("e", 1).times("e", "7");
        run.edit("e", 1).times("e", "8").edit("a", 1).times("a e", "9 8");
    }

    private static void whatDoesNotWrite() {
        Sentence.of(11, "WRITING a file makes the clock grow by 1");
        Run run = new Run().edit("a", 1).erase("a").edit("b", 1).times("a b", "0 2").type("B").editRefused(1).scrap();
        run.load("t:\n\trm b\n\t-cp nix a\n\t-cat nix > a\n\t-touch a B\n\techo b\n\ttrue\n").build("", 0, 0);
        run.build("", 2, 0).build("", 8, 1).edit("c", 1).times("a b c", "0 0 3").load("x", -1).set("A=1").edit("c", 1);
        run.times("c", "4");
    }

    private static void draft() {
        Sentence.of(2, "THE DRAFT is a text of at most 320 characters, each of the codes 32 .. 126, a tab or a "
                + "newline.");
        for (int code = 0; code <= 65535; code++) {
            boolean fits = (code >= 32 && code <= 126) || code == 9 || code == 10;
            Probe.due("type " + code, new RuleBuilder().type((char) code), fits);
        }
        for (int code : new int[] {0, 8, 11, 13, 31, 127, 128, 160, 255, 265, 266, 288, 353, 32800, 65535}) {
            new Run().typeRefused(code).type("ab").typeRefused(code).edit("c", 1).names("abc");
        }
        for (int code : new int[] {9, 10, 32, 126}) {
            Run run = new Run();
            for (int i = 0; i < 320; i++) {
                run.type("" + (char) code);
            }
            run.typeRefused(code).typeRefused('a').typeRefused(127);
        }
    }

    private static void words() {
        Sentence.of(5, "WORDS of a text are what spaces separate (one or more; there are none before the first and "
                + "behind the last).");
        new Run().load("a: b  c     d\n").names("a b c d").load("   e   f   :   g   h   \n").names("a b c d e f g h");
        new Run().load("a:\nb:   \n").names("a b");
        // A tab is no space.
        new Run().load("a: b\tc\n", -1).names("a");
        new Run().load("a\t: b\n", -1).names("");
        new Run().set("A=  x   y  ").load("a: $A$(A)z\n").names("a x y z");
        new Run().set("A=   ").load("a: $A$A\n\t$A\n\t\techo\n").build("", 0, 2).names("a").done(2);
        new Run().load("a:\n\t@   echo   x    y   \n\t@echo  x\ty\n").build("", 0, 0).prints("x y\nx\ty\n");
    }

    private static void refusedCalls() {
        Sentence.of(8, "A call that answers less than 0 or false changes nothing, unless it is said.");
        // A run with something of everything: files, a set macro, rules, and a build with a failure and a print.
        Run run = new Run().set("A=p q").edit("s.c", 9).edit("t", 4);
        run.load(".SUFFIXES: .c .o\n.PHONY: t\nM=m\nt: s.o n\n\techo $A $M\n.c.o:\n\tcp $< $@\n.DEFAULT:\n\tfalse\n");
        run.build("", 0, 2).prints("cp s.c s.o\nfalse\n").done(2).fates("t s.o s.c n", "3 2 1 3");
        run.typeRefused(127).setRefused().editRefused(3).eraseRefused().buildRefused(-1).buildRefused(64);
        run.nameAtRefused(-1, 0).nameAtRefused(5, 0).nameAtRefused(0, 3).timeRefused(5).fateRefused(5)
                .printedAtRefused(17);
        run.type("A=").typeRefused(31).editRefused(3).eraseRefused().buildRefused(0).buildRefused(64);
        run.nameAtRefused(0, -1).timeRefused(-1).fateRefused(-1).printedAtRefused(-1).type("-").set("");
        run.build("", 16, 0).prints("false\necho - m\n- m\n").done(2);
        // What is said for load(): all of its rules go, but all else stays.
        run.load("M=n\nx: y Z\n", -2).times("s.c t s.o n x y", "1 2 3 0 0 0").contents("s.c t s.o", "9 4 9");
        run.prints("false\necho - m\n- m\n").done(2).fates("s.c t s.o n x y", "0 0 0 0 0 0").buildRefused(0);
    }

    private static void mostCalls() {
        Sentence.of(8, "An object is used for at most 512 calls after it has been made; what later calls answer is "
                + "free.");
        RuleBuilder builder = new RuleBuilder();
        String text = "t: u\n\techo $@ $?\n\tcp u t\nu:\n\techo " + "u".repeat(15) + "\n\ttouch u\n";
        String print = "echo " + "u".repeat(15) + "\n" + "u".repeat(15) + "\ntouch u\necho t u\nt u\ncp u t\n";
        int calls = 0;
        for (; calls < text.length(); calls++) {
            Probe.due("type", builder.type(text.charAt(calls)), true);
        }
        Probe.due("load", builder.load(), 0);
        for (calls++; calls < 508; calls += 2) {
            Probe.due("build of call " + calls, builder.build(8), 1);
            Probe.due("done", builder.done(), 0);
        }
        Probe.due("the calls so far", calls, 508);
        Probe.due("call 509", builder.build(0), 0);
        Probe.due("call 510", builder.printed(), print.length());
        Probe.due("call 511", builder.time(0), 2);
        Probe.due("call 512", builder.printedAt(21), (int) print.charAt(21));
        // What these answer is free, but LANGUAGE.md lets no call throw.
        for (int i = 0; i < 2000; i++) {
            builder.type((char) ('a' + i % 26));
            builder.edit(i);
            builder.build(i % 64);
        }
    }
}
