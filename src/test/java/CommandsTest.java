/** What commands do (promise 8), and promises 14 (done), 15 (printed) and 16 (printedAt). */
public final class CommandsTest {
    public static void main(String[] args) {
        trueAndFalse();
        echo();
        touch();
        rm();
        cp();
        cat();
        others();
        wordsOfCommands();
        mostNames();
        done();
        print();
        Probe.finish();
    }

    private static Probe run(Probe probe, String command, boolean works) {
        return probe.load("t:\n\t@" + command + "\n").build(0, works ? 0 : 2).fates("t", works ? "2" : "3").done(1);
    }

    private static void trueAndFalse() {
        Probe probe = new Probe();
        run(probe, "true", true).prints("");
        run(probe, "true A > $$ > false", true).prints("").names("t");
        run(probe, "false", false).prints("");
        run(probe, "false true", false).names("t");
        run(probe, "", true).prints("");
        run(probe, "   ", true).prints("");
    }

    private static void echo() {
        Probe probe = new Probe();
        run(probe, "echo", true).prints("\n");
        run(probe, "echo   A  >  b\tc   ", true).prints("A > b\tc\n").names("t");
        run(probe, "  echo $@ $$", true).prints("t $\n");
    }

    private static void touch() {
        Probe probe = new Probe().edit("a", 5);
        run(probe, "touch a b a", true).times("a b t", "4 3 0").content("a", 5).content("b", 0).names("a t b");
        run(probe, "touch", false);
        run(probe, "touch c > d", false).names("a t b c").times("c", "0");
        run(probe, "touch d A", false).names("a t b c d").times("d", "0");
        run(probe, "touch 123456789", false);
        run(probe, "touch e", true).times("e", "5");
    }

    private static void rm() {
        Probe probe = new Probe().edit("a", 5).edit("b", 6);
        run(probe, "rm a nix a", true).times("a b nix", "0 2 0").content("a", 0).names("a b t nix");
        run(probe, "rm", false);
        run(probe, "rm b A", false).times("b", "2");
        run(probe, "rm b", true).times("b", "0");
        // The clock goes on.
        probe.edit("b", 1).times("b", "3");
    }

    private static void cp() {
        Probe probe = new Probe().edit("a", 5);
        run(probe, "cp a b", true).times("a b", "1 2").content("b", 5);
        run(probe, "cp a a", true).times("a b", "3 2").content("a", 5);
        run(probe, "cp nix a", false).times("a nix", "3 0").names("a t b nix").content("a", 5);
        run(probe, "cp", false);
        run(probe, "cp a", false);
        run(probe, "cp a c d", false).names("a t b nix");
        run(probe, "cp c A", false).names("a t b nix c");
        run(probe, "cp A d", false).names("a t b nix c").times("a b", "3 2");
        run(probe, "cp d d", false).names("a t b nix c d");
    }

    private static void cat() {
        Probe probe = new Probe().edit("a", 5).edit("b", -7);
        run(probe, "cat a > c", true).content("c", 6).times("c", "3");
        run(probe, "cat a b > c", true).content("c", 31 * 6 - 6).times("c", "4");
        run(probe, "cat a b a > a", true).content("a", 31 * (31 * 6 - 6) + 6).times("a", "5");
        probe.edit("x", Integer.MAX_VALUE);
        run(probe, "cat x x > y", true).content("y", 31 * Integer.MIN_VALUE + Integer.MAX_VALUE + 1).content("y", 0);
        run(probe, "cat x b > y", true).content("y", 31 * Integer.MIN_VALUE - 6);
        String[] bad = {"cat", "cat a", "cat >", "cat > z", "cat z >", "cat z y", "cat a z w", "cat a >z", "cat a> z",
            "cat a > z w", "cat a b z", "cat a >> z"};
        for (String command : bad) {
            run(probe, command, false).names("a b t c x y");
        }
        // With the right number, the names are met in their order, up to a wrong one.
        run(probe, "cat a nix1 > nix2", false).names("a b t c x y nix1 nix2").times("nix2", "0");
        run(probe, "cat new1 A new2 > new3", false).names("a b t c x y nix1 nix2 new1");
        run(probe, "cat a new2 > New3", false).names("a b t c x y nix1 nix2 new1 new2");
        run(probe, "cat nix1 > nix1", false);
        probe.edit("a", 0);
        run(probe, "cat a > a", true).content("a", 1);
    }

    private static void others() {
        Probe probe = new Probe();
        for (String command : new String[] {"frob", "Echo", "echo1", "tru", "truee", "t", ">", "$@", "cpp a b", "cat\ta"}) {
            run(probe, command, false).prints("").names("t");
        }
        // A tab separates nothing.
        run(probe, "\techo a", false);
    }

    private static void wordsOfCommands() {
        // Words are those of the expansion.
        Probe probe = new Probe().set("A=echo a ").set("B= b").load("t:\n\t@$A$B\n\t@$(A:o=o)$(B:b=c d)\n");
        probe.build(0, 0).prints("a b\na c d\n");
        probe.set("C=touch").load("t:\n\t@$C x$(B:b=y)\n").build(0, 0).names("t x y").times("x y", "1 2");
        String sixty = "echo " + "a ".repeat(57) + "b";
        run(new Probe(), sixty, true).prints("a ".repeat(57) + "b\n");
    }

    private static void mostNames() {
        Probe probe = new Probe();
        for (int i = 0; i < 30; i++) {
            probe.edit("n" + i, i);
        }
        run(probe, "cat n1 n2 x > y", false);
        Probe.due("names", probe.builder.names(), 32);
        Probe.due("the last name", probe.name(31), "x");
        run(probe, "touch n3 y n4", false).times("n3 n4 x", "4 5 0");
        run(probe, "rm n3 y", false).times("n3", "4");
        run(probe, "cp n3 y", false);
        run(probe, "cp y n3", false).content("n3", 3);
        run(probe, "cat n1 > y", false);
        run(probe, "touch n3 x n4", true).times("n3 x n4", "31 32 33");
        Probe.due("names", probe.builder.names(), 32);
    }

    private static void done() {
        Probe probe = new Probe().done(0).load("t: u\n\techo\n\t-frob\n\t-$\n\t\n\tfalse\n\techo\nu:\n\ttrue\n");
        probe.done(0).build(0, 2).done(5).build(2, 0).done(0).build("u", 0, 0).done(1).build("gone", 0, 2).done(0);
        probe.build(0, 2).done(5);
        // What is refused, and all other calls, leave it.
        Probe.due("build(64)", probe.builder.build(64), -1);
        probe.edit("u", 1).erase("u").load("a:\n").load("a", -1).done(5);
    }

    private static void print() {
        Probe probe = new Probe().load("t:\n\techo ab\n").build(0, 0);
        Subject builder = probe.builder;
        String want = "echo ab\nab\n";
        Probe.due("printed", builder.printed(), want.length());
        for (int i = 0; i < want.length(); i++) {
            Probe.due("printedAt(" + i + ")", builder.printedAt(i), (int) want.charAt(i));
        }
        for (int i : new int[] {-1, want.length(), 400, Integer.MAX_VALUE, Integer.MIN_VALUE}) {
            Probe.due("printedAt(" + i + ")", builder.printedAt(i), -1);
        }
        probe.edit("t", 1).load("x", -1).prints(want);
        probe.load("t:\n").build(0, 0).prints("");
        Probe.due("printedAt(0)", builder.printedAt(0), -1);

        // Only the first 400 characters are kept; commands go on all the same.
        String line = "echo " + "0123456789".repeat(9) + "abcd";
        probe.load("u:\n\t" + line + "\n\t@echo $A$A\n\t" + line + "\n\t@touch u\nA=" + "x".repeat(50) + "\n");
        String whole = line + "\n" + line.substring(5) + "\n" + "x".repeat(100) + "\n" + line + "\n" + line.substring(5);
        probe.build(0, 0).prints(whole.substring(0, 400)).times("u", "2").done(4);
        Probe.due("printedAt(399)", builder.printedAt(399), (int) whole.charAt(399));
        Probe.due("printedAt(400)", builder.printedAt(400), -1);
        exactlyFull();
    }

    private static void exactlyFull() {
        String ninetyNine = "echo " + "y".repeat(94);
        Probe probe = new Probe().load("t:\n\t" + ninetyNine + "\n\t$A\n\t$A\n\t$A\nA=" + ninetyNine + "\n").build(2, 0);
        probe.prints((ninetyNine + "\n").repeat(4));
        Probe.due("printed", probe.builder.printed(), 400);
        probe.load("t:\n\t" + ninetyNine + "\n\t$A\n\t$A\n\t$A\n\techo\nA=" + ninetyNine + "\n").build(2, 0);
        probe.prints((ninetyNine + "\n").repeat(4));
    }
}
