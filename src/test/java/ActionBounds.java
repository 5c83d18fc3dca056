/** The boundaries of what commands do, by their first word. */
final class ActionBounds {
    private ActionBounds() {
    }

    static void check() {
        withoutWords();
        otherWords();
        wordsThatAreNoNames();
        mostNames();
        namesOfCommandsThatFail();
        trueAndFalse();
        echo();
        touch();
        remove();
        copy();
        concatenate();
        sums();
    }

    private static Run does(Run run, String command) {
        return run.load("t:\n\t@" + command + "\n").build("t", 0, 0).fates("t", "2").done(1);
    }

    private static Run fails(Run run, String command) {
        return run.load("t:\n\t@" + command + "\n").build("t", 0, 2).fates("t", "3").done(1);
    }

    private static void withoutWords() {
        Sentence.of(8, "WHAT COMMANDS DO, by their first word; one without words does nothing;");
        does(new Run(), "").names("t").prints("").times("t", "0");
        does(new Run(), "      ").names("t").prints("");
        does(new Run(), "$A $(B)").names("t").prints("");
        // A tab is a word.
        fails(new Run(), "\t").names("t").prints("");
        does(new Run().edit("a", 1), "   rm   a").times("a", "0");
        does(new Run().set("A=touch ").set("B= b"), "$A$B").names("t b");
    }

    private static void otherWords() {
        Sentence.of(8, "they FAIL when it is another one, when the words behind it are not as said,");
        String[] others = {"frob", "tru", "truee", "True", "ech", "echo1", "touc", "touche", "r", "rmm", "c", "cpp",
                "ca", "catt",
            "t", ">", "a", "touch\ta", "$$", "echo,"};
        for (String other : others) {
            fails(new Run().edit("a", 1).edit("b", 1), other + " a b").names("a b t").prints("").times("a b", "1 2");
            fails(new Run().edit("a", 1).edit("b", 1), other + " a > b").names("a b t").times("a b", "1 2");
        }
        String[] bare = {"touch", "rm", "cp", "cp a", "cp a b c", "cp x", "cat", "cat a", "cat a b", "cat > b",
                "cat a >", "cat >",
            "cat a b c", "cat a b >", "cat a > b c", "cat a >b", "cat a> b", "cat a >> b", "cat x y z"};
        for (String command : bare) {
            fails(new Run().edit("a", 1).edit("b", 1), command).names("a b t").prints("").times("a b", "1 2");
        }
    }

    private static void wordsThatAreNoNames() {
        Sentence.of(8, "or a word that should be a name is none");
        for (String bad : new String[] {"A", "123456789", "-", "a-b", "$$", ">", "x\ty"}) {
            fails(new Run().edit("a", 1), "touch " + bad).names("a t");
            fails(new Run().edit("a", 1), "touch a m " + bad + " n").names("a t m").times("a m", "1 0");
            fails(new Run().edit("a", 1), "rm a m " + bad + " n").names("a t m").times("a", "1");
            fails(new Run().edit("a", 1), "cp " + bad + " m").names("a t");
            fails(new Run().edit("a", 1), "cp a " + bad).names("a t");
            fails(new Run().edit("a", 1), "cat a m > " + bad).names("a t m");
            fails(new Run().edit("a", 1), "cat m A > n").names("a t m");
        }
        does(new Run(), "touch 12345678 . _").names("t 12345678 . _").times("12345678 . _", "1 2 3");
    }

    private static void mostNames() {
        Sentence.of(8, "or would be the 33rd that is met");
        // The 31 names a .. z and 0 .. 4 are met, t among them; it is no file.
        Run run = does(TermsBounds.thirtyOne().erase("t"), "touch last").asks("names", RuleBuilder::names, 32)
                .times("last", "32");
        fails(run, "touch a more").times("a", "1");
        fails(run, "rm a more").times("a", "1");
        fails(run, "cp a more").asks("names", RuleBuilder::names, 32);
        fails(run, "cp more a").times("a", "1");
        fails(run, "cat a > more").asks("names", RuleBuilder::names, 32);
        fails(run, "cat more > a").times("a", "1");
        does(run, "touch a last").times("a last", "33 34");
        // The last one that there is room for is met before the one too many.
        run = fails(TermsBounds.thirtyOne().erase("t"), "cat a m1 > m2").asks("names", RuleBuilder::names, 32);
        run.asks("nameAt(31, 1)", b -> b.nameAt(31, 1), '1');
        run = fails(TermsBounds.thirtyOne().erase("t"), "touch m1 a m2").times("m1 a", "0 1")
                .asks("names", RuleBuilder::names, 32);
        fails(TermsBounds.thirtyOne().erase("t"), "rm m1 m2 a").times("a", "1").asks("names", RuleBuilder::names, 32);
        // Words that are no names are not met.
        run = does(TermsBounds.thirtyOne().erase("t").edit("last", 1), "echo more than that")
                .prints("more than that\n");
        does(run, "true more");
    }

    private static void namesOfCommandsThatFail() {
        Sentence.of(8, "(if their number and the > are right, the names are met in the order of the words, before "
                + "anything is done):");
        fails(new Run(), "cp a b").names("t a b").times("a b", "0 0");
        fails(new Run(), "cat a b > c").names("t a b c").times("c", "0");
        does(new Run(), "touch c a b").names("t c a b").times("c a b", "1 2 3");
        does(new Run(), "rm c a").names("t c a").times("c a", "0 0");
        // They are not met if the number is wrong, or the >.
        fails(new Run(), "cp a").names("t");
        fails(new Run(), "cp a b c").names("t");
        fails(new Run(), "cat a b c").names("t");
        fails(new Run(), "cat > a").names("t");
        fails(new Run(), "cat a > b c").names("t");
        // Only those before the one that is none.
        fails(new Run(), "touch a B c").names("t a");
        fails(new Run(), "cat a b C > d").names("t a b");
        // A command that is only printed, or left out, meets none.
        new Run().load("t:\n\ttouch a\n").build("", 2, 0).build("", 4, 0).erase("t").build("", 8, 1).names("t");
    }

    private static void trueAndFalse() {
        Sentence.of(8, "true: nothing, whatever is behind it. false: fails.");
        does(new Run(), "true").names("t").prints("");
        does(new Run(), "true > A $$ 123456789 false").names("t").prints("");
        fails(new Run(), "false").names("t").prints("");
        fails(new Run(), "false a B >").names("t").prints("");
        fails(new Run(), "false true");
    }

    private static void echo() {
        Sentence.of(8, "echo: prints the words behind it with a space between two, and a newline.");
        does(new Run(), "echo").prints("\n");
        does(new Run(), "echo   ").prints("\n");
        does(new Run(), "echo a").prints("a\n");
        does(new Run(), "  echo   a   B  >  ").prints("a B >\n").names("t");
        does(new Run(), "echo " + "a ".repeat(57) + "b").prints("a ".repeat(57) + "b\n");
        does(new Run(), "echo " + "x".repeat(115)).prints("x".repeat(115) + "\n");
        // It is printed whatever the options say of commands, if it is done.
        for (int options = 0; options < 64; options++) {
            String own = (options & 8) == 0 && (options & 2) != 0 ? "echo a\na\n" : "a\n";
            new Run().load(".PHONY: t\nt:\n\t@+echo a\n").build("", options, (options & 8) != 0 ? 1 : 0).prints(own);
        }
    }

    private static void touch() {
        Sentence.of(8, "touch and one or more names: each is written, with the content it has, 0 if it is no file.");
        fails(new Run(), "touch").names("t");
        does(new Run().edit("a", 7), "touch a").times("a", "2").contents("a", "7");
        does(new Run().edit("a", 7), "touch b a b").times("a b", "3 4").contents("a b", "7 0");
        does(new Run().edit("a", 7).erase("a"), "touch a").times("a", "2").contents("a", "0");
        does(new Run(), "touch t").times("t", "1");
    }

    private static void remove() {
        Sentence.of(8, "rm and one or more names: they are files no more.");
        fails(new Run(), "rm").names("t");
        does(new Run().edit("a", 7).edit("b", 8), "rm a").times("a b", "0 2").contents("a b", "0 8");
        does(new Run().edit("a", 7).edit("b", 8), "rm a b c a").times("a b c", "0 0 0").contents("a b", "0 0")
                .names("a b t c");
        // The target itself stays, if it is a file that is none of them.
        new Run().edit("a", 1).edit("t", 2).load(".PHONY: t\nt:\n\trm a\n").build("", 0, 0).times("a t", "0 2");
        // The time of the next file is what it would have been.
        does(new Run().edit("a", 7), "rm a").edit("a", 1).times("a", "2");
    }

    private static void copy() {
        Sentence.of(8, "cp and two names: fails if the first is no file; the second is written with its content.");
        does(new Run().edit("a", 7), "cp a b").times("a b", "1 2").contents("a b", "7 7");
        does(new Run().edit("a", 7).edit("b", 8), "cp a b").times("a b", "1 3").contents("a b", "7 7");
        does(new Run().edit("a", -7), "cp a a").times("a", "2").contents("a", "-7");
        fails(new Run().edit("b", 8), "cp a b").times("a b", "0 1").contents("b", "8").names("b t a");
        fails(new Run().edit("a", 8).erase("a"), "cp a b").times("a b", "0 0");
        fails(new Run(), "cp a a").names("t a").times("a", "0");
        does(new Run().edit("a", Integer.MIN_VALUE), "cp a b").contents("b", "" + Integer.MIN_VALUE);
    }

    private static void concatenate() {
        Sentence.of(8, "cat, one or more names, >, a name: fails if one of the first is no file;");
        does(new Run().edit("a", 7), "cat a > b").times("a b", "1 2").contents("b", "8");
        does(new Run().edit("a", 7), "cat a a a > b").times("b", "2").contents("b", "" + (31 * (31 * 8 + 8) + 8));
        fails(new Run().edit("a", 7), "cat b > a").times("a", "1").contents("a", "7");
        fails(new Run().edit("a", 7), "cat a b > c").names("a t b c").times("c", "0");
        fails(new Run().edit("a", 7), "cat b a > a").times("a", "1");
        fails(new Run().edit("a", 7).erase("a"), "cat a > b").times("b", "0");
        fails(new Run(), "cat a > a").names("t a").times("a", "0");
        // As many names as there is room for.
        StringBuilder all = new StringBuilder("cat");
        int sum = 0;
        for (int i = 0; i < 50; i++) {
            all.append(" a");
            sum = 31 * sum + 8;
        }
        does(new Run().edit("a", 7), all + " > b").contents("b", "" + sum);
    }

    private static void sums() {
        Sentence.of(8, "with c being 0 at first and 31 * c + content + 1 for each of them, in ints that wrap, the "
                + "last one is written with the content c (of the contents before that, if it is one of them).");
        does(new Run().edit("a", Integer.MAX_VALUE), "cat a > b").contents("b", "-2147483648");
        does(new Run().edit("a", Integer.MAX_VALUE - 1), "cat a > b").contents("b", "2147483647");
        does(new Run().edit("a", Integer.MIN_VALUE), "cat a > b").contents("b", "-2147483647");
        does(new Run().edit("a", -1), "cat a > b").contents("b", "0");
        // 31 * 69273666 is one less than the greatest int, 31 * 69273667 is beyond it.
        does(new Run().edit("a", 69273665).edit("z", 0), "cat a z > b").contents("b", "2147483647");
        does(new Run().edit("a", 69273666).edit("z", -1), "cat a z > b").contents("b", "-2147483619");
        does(new Run().edit("a", Integer.MAX_VALUE).edit("z", -1), "cat a z > b").contents("b", "-2147483648");
        // The last one is one of the first.
        does(new Run().edit("a", 7).edit("b", 1), "cat a b a > a").times("a b", "3 2")
                .contents("a", "" + (31 * (31 * 8 + 2) + 8));
        does(new Run().edit("a", 7), "cat a > a").times("a", "2").contents("a", "8");
    }
}
