/** Promises 8 (build) and 13 (fate): which names are updated, in which order, and what becomes of them. */
public final class BuildTest {
    public static void main(String[] args) {
        goals();
        refusals();
        outOfDate();
        newerOnes();
        order();
        failures();
        cycles();
        defaults();
        phonyNames();
        deepChain();
        Probe.finish();
    }

    private static void goals() {
        Probe probe = new Probe().load("a: b\nb:\nc:\n").build(0, 0).fates("a b c", "220");
        probe.build("c", 0, 0).fates("a b c", "002");
        probe.build("nix", 0, 2).fates("a b c nix", "0003").names("a b c nix");
        Probe.due("the draft is empty then", probe.builder.edit(1), -1);
        probe.edit("file", 1).build("file", 0, 0).fates("file nix", "10").done(0).prints("");
        // Before the first build all have the fate 0.
        probe = new Probe().edit("x", 1).load("y:\n").fates("x y", "00");
        probe.edit("z", 1).build(0, 0).fates("x y z", "020");
    }

    private static void refusals() {
        Probe probe = new Probe().load("a:\n\techo x\n").build(0, 0);
        for (int options : new int[] {-1, 64, 65, 128, Integer.MAX_VALUE, Integer.MIN_VALUE}) {
            Probe.due("build(" + options + ")", probe.builder.build(options), -1);
            probe.type("new");
            Probe.due("build(" + options + ") of new", probe.builder.build(options), -1);
            Probe.due("the draft stayed", probe.builder.set(), false);
            probe.builder.scrap();
        }
        for (String goal : new String[] {"A", "a b", "a\n", "123456789", " a", "a:"}) {
            probe.type(goal);
            Probe.due("build of " + goal, probe.builder.build(0), -1);
            probe.builder.scrap();
        }
        // What is refused changes nothing.
        probe.names("a").fates("a", "2").prints("echo x\nx\n").done(1).build(63, 1);
        probe.load("A=x\n.PHONY: p\n.SUFFIXES: .c\n.c:\n\techo\n");
        Probe.due("build without a target", probe.builder.build(0), -1);
        probe.prints("").load("a:\n");
        probe.type("b-");
        Probe.due("build of b-", probe.builder.build(0), -1);
        probe.builder.scrap();
        probe.build(0, 0);
    }

    private static void outOfDate() {
        Probe probe = new Probe().edit("s", 1).load("t: s\n\tcp s t\n");
        probe.build(0, 0).fates("t s", "21").done(1).times("s t", "1 2").content("t", 1);
        probe.build(0, 0).fates("t s", "11").done(0).prints("");
        probe.edit("s", 5).build(0, 0).fates("t s", "21").content("t", 5);
        probe.erase("t").build(0, 0).fates("t s", "21").build(0, 0).fates("t", "1");
        // A prerequisite that was rebuilt makes it out of date, though it is no file.
        probe.load("t: u\n\techo t\nu:\n").build(0, 0).fates("t u", "22").prints("echo t\nt\n");
        // A rule without commands: rebuilt, too.
        probe.load("x: s\n").build(0, 0).fates("x s", "21").times("x", "0");
        probe.edit("x", 1).build(0, 0).fates("x s", "11").edit("s", 1).build(0, 0).fates("x s", "21");
        // A prerequisite with a rule that is no file and is not rebuilt there can not be.
        probe.load("t:\n\techo no\n").build(0, 0).prints("").fates("t", "1");
        // The commands need not write the target.
        probe.load("v:\n\ttrue\n").build(0, 0).fates("v", "2").build(0, 0).fates("v", "2");
        // One that is updated is up to date by its time after the updates of all.
        probe = new Probe().edit("t", 1).load("t: a b\n\techo $?\na:\nb:\n\ttouch c\n").edit("a", 1).edit("b", 1);
        probe.build(0, 0).prints("echo a b\na b\n").fates("t a b", "211");
        probe = new Probe().edit("a", 1).edit("t", 1).load("t: a b\n\techo $?\nb:\n\ttouch a\n");
        probe.build(0, 0).prints("touch a\necho a b\na b\n");
    }

    private static void newerOnes() {
        Probe probe = new Probe().edit("a", 1).edit("t", 1).edit("b", 1).edit("c", 1);
        probe.load("t: a b c b d\n\techo $?\n\ttouch t\n\techo $? $< $*.\nd:\n");
        // They are found before the commands are carried out.
        probe.build(0, 0).prints("echo b c b d\nb c b d\ntouch t\necho b c b d  .\nb c b d .\n");
        // A target that is no file is older than all files.
        probe.load("u: a b x\n\techo $?\nx:\n").build(0, 0).prints("echo a b x\na b x\n");
        probe.load("t: a b c\n\techo $?\n.PHONY: t\n").build(0, 0).prints("echo \n\n");
        // One that is a file no more is not newer than what is no file either.
        probe.load("v: a e\n\techo $?\ne:\n\t@rm a\n").build(0, 0).prints("echo e\ne\n").fates("v a e", "212");
        // Too many for an expansion.
        probe = new Probe().edit("12345678", 1);
        String thirteen = "A=12345678 12345678 12345678 12345678\nt: $A $A $A 12345678\n";
        probe.load(thirteen + "\t$?\n").build(2, 0).prints("12345678 ".repeat(13).trim() + "\n");
        probe.load(thirteen + "\t$?abc\n").build(2, 0).prints("12345678 ".repeat(13).trim() + "abc\n");
        probe.load(thirteen + "\t$?abcd\n").build(2, 0).load(thirteen + "\t$?abcde\n").build(2, 2).prints("");
        probe.load(thirteen + "t: 12345678\n\t$?\n").build(2, 2).load(thirteen + "t: $A\n\t-$?\n\techo\n");
        probe.build(2, 0).prints("echo\n");
    }

    private static void order() {
        Probe probe = new Probe().load("t: b a\n\techo t\na: c\n\techo a\nb: c\n\techo b\nc:\n\techo c\n");
        probe.build(2, 0).prints("echo c\necho b\necho a\necho t\n");
        // Each at most once in a build.
        probe.load("t: a b a b\n\techo t\na: b\n\techo a\nb:\n\techo b\n").build(0, 0);
        probe.prints("echo b\nb\necho a\na\necho t\nt\n").done(3);
    }

    private static void failures() {
        Probe probe = new Probe().load("t: a b c\n\techo t\na:\nb:\n\tfalse\n\techo b\nc:\n\techo c\n");
        probe.build(0, 2).fates("t a b c", "3230").prints("false\n").done(1);
        probe.build(1, 2).fates("t a b c", "3232").prints("false\necho c\nc\n").done(2);
        probe.build(16, 0).fates("t a b c", "2222").done(4);
        // A name that has neither a rule nor a file fails.
        probe = new Probe().load("t: x y\ny:\n\techo y\n").build(0, 2).fates("t x y", "330").done(0);
        probe.build(1, 2).fates("t x y", "332").prints("echo y\ny\n");
        // What failed once is not tried again, and fails those that need it.
        probe = new Probe().load("t: a b\na: x\n\techo a\nb: x\n\techo b\nx:\n\techo x\n\tfalse\n");
        probe.build(1, 2).prints("echo x\nx\nfalse\n").fates("t a b x", "3333").done(2);
        // A file fails when a prerequisite does, even if it is up to date.
        probe = new Probe().edit("t", 1).load("t: nix\n").build(0, 2).fates("t nix", "33");
        // The names before the failure are made; the target is not touched.
        probe = new Probe().load("t: a x\n\ttouch t\na:\n\ttouch a\n").build(0, 2).times("a t x", "1 0 0");
        // A wrong expansion fails like a command.
        probe = new Probe().load("t:\n\techo 1\n\techo $x\n\techo 2\n").build(0, 2).prints("echo 1\n1\n").done(1);
        probe.fates("t", "3").build(16, 0).prints("echo 1\n1\necho 2\n2\n").done(2).fates("t", "2");
    }

    private static void cycles() {
        Probe probe = new Probe().load("a: a\n\techo a\n").build(0, 2).fates("a", "3").prints("");
        probe.load("a: b x\nb: c\nc: a y\nx y:\n").build(0, 2).fates("a b c x y", "33300");
        probe.build(1, 2).fates("a b c x y", "33322");
        // The one under way fails as a prerequisite only; its own update goes on.
        probe.load("a: b x\n\techo a\nb: a\n\techo b\nx:\n\techo x\n").build(1, 2).prints("echo x\nx\n");
        probe.load("a: b x\nb: a y\nx:\n\t@echo x\ny:\n\t@echo y\n").build(1, 2).prints("y\nx\n").done(2);
        probe.load("a: b x\nb: c\nc: a y\nx:\n\t@echo x\ny:\n\t@echo y\n").build(1, 2).prints("y\nx\n").done(2);
        probe.build("b", 0, 2).fates("a b x", "330").build("x", 0, 0).fates("a b x", "002");
    }

    private static void defaults() {
        Probe probe = new Probe().load(".DEFAULT:\n\techo $@ $< <$?$*>\n\ttouch $@\nt: a b\nb:\nc:\n");
        probe.build(0, 0).prints("echo a a <>\na a <>\ntouch a\n").fates("t a b", "222").times("a", "1");
        // A file has none of them, nor a name with a rule.
        probe.build(0, 0).prints("").fates("t a b", "212").build("c", 0, 0).prints("").fates("c", "2");
        probe.build("new", 0, 0).prints("echo new new <>\nnew new <>\ntouch new\n").fates("new", "2");
        // None without a command.
        probe.load(".DEFAULT:\n").build("gone", 0, 2).fates("gone", "3");
        probe.load(".DEFAULT:\n\tfalse\n").build("gone", 0, 2).build("gone", 16, 0).fates("gone", "2");
    }

    private static void phonyNames() {
        Probe probe = new Probe().edit("p", 1).load(".PHONY: p q\nt: p\n\techo $?\np:\n\techo p\n");
        probe.build(0, 0).prints("echo p\np\necho p\np\n").fates("t p", "22");
        // To be phony is no rule.
        probe.build("q", 0, 2).fates("q", "3");
        probe.edit("q", 1).build("q", 0, 0).fates("q", "2").prints("");
    }

    /** A chain of all the names there may be. */
    private static void deepChain() {
        StringBuilder text = new StringBuilder();
        String letters = "abcdefghijklmnopqrstuvwxyz012345";
        for (int i = 0; i + 1 < letters.length(); i++) {
            text.append(letters.charAt(i)).append(':').append(letters.charAt(i + 1)).append('\n');
        }
        Probe probe = new Probe().load(text.toString()).edit("5", 1).build(0, 0);
        StringBuilder fates = new StringBuilder();
        StringBuilder names = new StringBuilder();
        for (int i = 0; i < letters.length(); i++) {
            names.append(i == 0 ? "" : " ").append(letters.charAt(i));
            fates.append(i == 31 ? 1 : 2);
        }
        probe.fates(names.toString(), fates.toString());
        probe.load(text + "5:a\n").build(0, 2).build(1, 2).fates("a 5", "33");
    }
}
