/** Promise 8 (build): the options, the marks of commands, and what is ignored or silent. */
public final class OptionsTest {
    public static void main(String[] args) {
        marks();
        quiet();
        forgiven();
        onlyPrint();
        touch();
        onlyAsk();
        together();
        Probe.finish();
    }

    private static void marks() {
        Probe probe = new Probe().load("t:\n\t@echo a\n\t-@+echo b\n\t+-false\n\t@@--++echo c\n\techo @d\n");
        probe.build(0, 0).prints("a\nb\nfalse\nc\necho @d\n@d\n").done(5);
        // Behind a space they are no marks.
        probe.load("t:\n\t- @echo x\n").build(0, 0).prints(" @echo x\n").done(1);
        probe.load("t:\n\t -echo x\n").build(0, 2).prints(" -echo x\n").done(1);
        probe.load("t:\n\t-\n\t@\n\t+\n").build(0, 0).prints("\n\n").done(3);
    }

    private static void quiet() {
        Probe probe = new Probe().load(".SILENT: s\nt: s\n\t@echo 1\n\techo 2\ns:\n\techo 3\n");
        probe.build(0, 0).prints("3\n1\necho 2\n2\n").build(32, 0).prints("3\n1\n2\n").done(3);
        probe.build(2, 0).prints("echo 3\necho 1\necho 2\n").build(34, 0).prints("echo 3\necho 1\necho 2\n").done(0);
    }

    private static void forgiven() {
        Probe probe = new Probe().load("t:\n\t-false\n\tnix\n\techo\n").build(0, 2).done(2).fates("t", "3");
        probe.build(16, 0).done(3).fates("t", "2").prints("false\nnix\necho\n\n");
        probe.load(".IGNORE: t\nt: u\n\tfalse\n\t$\n\ttrue\nu:\n\t-$\n").build(0, 0).done(2).prints("false\ntrue\n");
        // What is forgiven is a command, not a name that fails.
        probe.load(".IGNORE:\nt: nix\n").build(16, 2).fates("t", "3");
    }

    private static void onlyPrint() {
        Probe probe = new Probe().edit("a", 1).load("t: u\n\ttouch $@\n\t@+echo $?\nu: a\n\tcp a u\n\tfalse\n");
        probe.build(2, 0).prints("cp a u\nfalse\ntouch t\necho u\nu\n").done(1).times("a t u", "1 0 0");
        probe.fates("t u a", "221");
        // A command that is only printed may be wrong all the same.
        probe.load("t:\n\techo 1\n\techo $\n\techo 2\n").build(2, 2).prints("echo 1\n").fates("t", "3");
        probe.load("t:\n\t+false\n\techo\n").build(2, 2).prints("false\n").done(1);
    }

    private static void touch() {
        Probe probe = new Probe().edit("a", 7).edit("t", 5).edit("b", 3);
        probe.load(".PHONY: p\np: t n\n\techo p\nt: b\n\techo t\n\t+echo +\n\t$\nn: u\n\t@false\nu: a\n");
        probe.build(4, 0).prints("touch t\necho +\n+\ntouch n\n").done(1).fates("p t n u a b", "222211");
        // Neither a phony name nor one without commands is touched.
        probe.times("a t b p n u", "1 4 3 0 5 0").content("t", 5).content("n", 0);
        probe.build(4, 0).prints("touch n\n").times("t n", "4 6").fates("p t n u", "2122");
        probe.edit("b", 3).build(36, 0).prints("+\n").times("t n", "8 9").done(1);
        probe.load(".SILENT: t\nt: b\n\techo\n").edit("b", 3).build(4, 0).prints("").times("t", "11").done(0);
        probe.load(".SILENT:\nt: b\n\techo\n").edit("b", 3).build(4, 0).prints("").times("t", "13");
        // The file is there for the commands that are done.
        probe.load("m:\n\t+cp m k\n").build(4, 0).prints("touch m\ncp m k\n").times("m k", "14 15");
        probe.load("l:\n\t+false\n").build(4, 2).prints("touch l\nfalse\n").times("l", "16").fates("l", "3");
        // The default commands and those of ending rules are commands.
        probe.load(".DEFAULT:\n\techo\n").build("x", 4, 0).prints("touch x\n").times("x", "17");
        probe.load(".SUFFIXES: .c\n.c:\n\techo\n").edit("y.c", 6).build("y", 4, 0).prints("touch y\n").content("y", 0);
    }

    private static void onlyAsk() {
        Probe probe = new Probe().edit("a", 1).load("t: a\n\ttouch t\n\t$\n");
        probe.build(8, 1).prints("").done(0).times("t", "0").fates("t a", "21");
        probe.edit("t", 1).build(8, 0).fates("t a", "11").edit("a", 1).build(8, 1);
        probe.load("t: nix\n").build(8, 2).fates("t nix", "33");
        probe.load("t: a\n\techo 1\n\t+echo $@\n\t+@touch t\n").edit("a", 1).build(8, 1).prints("t\n").done(2).build(8, 0);
        probe.load("t: a\n\t+false\n").edit("a", 1).build(8, 2).done(1).load("t: a\n\t+$\n").build(8, 2).done(0);
        // Some name was out of date, though not the goal alone.
        probe.load("t: u\nu:\n").build(8, 1).fates("t u", "22");
        probe.load("t: u\nu: a\n").edit("u", 1).edit("t", 1).build(8, 0).build(0, 0).edit("a", 1).build(8, 1).build(0, 0);
    }

    private static void together() {
        Probe probe = new Probe().edit("a", 1).load("t: a\n\techo 1\n\t@+echo 2\n\t@echo 3\n");
        String[] prints = {"echo 1\n1\n2\n3\n", "echo 1\necho 2\n2\necho 3\n", "touch t\n2\n",
            "echo 1\necho 2\n2\necho 3\n", "2\n", "2\n", "2\n", "2\n"};
        int[] done = {3, 1, 1, 1, 1, 1, 1, 1};
        for (int options = 0; options < 16; options += 2) {
            for (int more : new int[] {0, 1, 16, 17, 32, 49}) {
                boolean hushed = more >= 32 && (options & 2) == 0;
                String print = prints[options / 2];
                if (hushed) {
                    print = print.replaceAll("(?m)^(echo|touch) .*\n", "");
                }
                probe.build(options + more, (options & 8) != 0 ? 1 : 0).prints(print).done(done[options / 2]);
                boolean touched = options == 4;
                Probe.due("touched by " + (options + more), probe.builder.time(probe.number("t")) > 0, touched);
                if (touched) {
                    probe.erase("t");
                }
            }
        }
    }
}
