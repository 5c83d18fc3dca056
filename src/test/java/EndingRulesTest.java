/** Promise 8 (build): how an ending rule and its source are found. */
public final class EndingRulesTest {
    public static void main(String[] args) {
        twoSuffixes();
        oneSuffix();
        firstFit();
        whatMayBeASource();
        whoHasNone();
        changedSuffixes();
        sourcesOfSources();
        withPrerequisites();
        Probe.finish();
    }

    private static void twoSuffixes() {
        Probe probe = new Probe().edit("a.c", 4).load(".SUFFIXES: .c .o\n.c.o:\n\tcp $< $@\n\techo $* $? $<\n");
        probe.build("a.o", 0, 0).prints("cp a.c a.o\necho a a.c a.c\na a.c a.c\n").content("a.o", 4).fates("a.o a.c", "21");
        probe.build("a.o", 0, 0).prints("").fates("a.o a.c", "11");
        probe.edit("a.c", 5).build("a.o", 0, 0).content("a.o", 5).fates("a.o a.c", "21");
        probe.build("b.o", 0, 2).fates("b.o", "3").names("a.c a.o b.o");
        // Other characters must be before the suffix.
        probe.edit(".c", 1).build(".o", 0, 2).edit("x.o.c", 1).build("x.o", 0, 2).build("x.o.o", 2, 0);
    }

    private static void oneSuffix() {
        Probe probe = new Probe().edit("a.c", 4).load(".SUFFIXES: .c .o\n.c:\n\techo $* $@ $< $?\n");
        probe.build("a", 0, 0).prints("echo a a a.c a.c\na a a.c a.c\n").fates("a a.c", "21");
        probe.edit("b.o.c", 1).build("b.o", 2, 0).prints("echo b.o b.o b.o.c b.o.c\n").build("c", 0, 2);
        // The other name may be too long to be one.
        probe.build("1234567", 0, 2).build("12345678", 0, 2).edit("123456.c", 1).build("123456", 2, 0);
    }

    private static void firstFit() {
        // The suffixes of the target first, then those of the source, in the order of the suffixes.
        String rules = ".y.o:\n\techo yo\n.c.o:\n\techo co\n.c.c.o:\n\techo cc\n.c:\n\techo c\n.y:\n\techo y\n";
        Probe probe = new Probe().edit("a.c", 1).edit("a.y", 1);
        probe.load(".SUFFIXES: .c .y .o\n" + rules, 0).build("a.o", 2, 0).prints("echo co\n");
        probe.load(".SUFFIXES: .y .o .c\n" + rules, 0).build("a.o", 2, 0).prints("echo yo\n");
        probe.load(".SUFFIXES: .c .y\n" + rules, 0).build("a", 2, 0).prints("echo c\n");
        probe.load(".SUFFIXES: .y .c\n" + rules, 0).build("a", 2, 0).prints("echo y\n");
        // One with two suffixes comes before one with one.
        probe = new Probe().edit("a.o.c", 1).edit("a.y", 1);
        probe.load(".SUFFIXES: .c .y .o\n.c:\n\techo c\n.y.o:\n\techo yo $*\n").build("a.o", 2, 0).prints("echo yo a\n");
        // Several suffixes fit the target.
        probe = new Probe().edit("a.c", 1).edit("a.b.c", 1);
        String both = ".c.o:\n\techo $* $<\n.c.b.o:\n\techo long $* $<\n";
        probe.load(".SUFFIXES: .c .o .b.o\n" + both).build("a.b.o", 2, 0).prints("echo a.b a.b.c\n");
        probe.load(".SUFFIXES: .b.o .c .o\n" + both).build("a.b.o", 2, 0).prints("echo long a a.c\n");
        // A rule of two suffixes that fit in two ways, and one that is a suffix itself.
        probe = new Probe().edit("x.a", 1).edit("x.a.b", 1);
        String way = ".a.b.c:\n\techo $< $@\n";
        probe.load(".SUFFIXES: .a .a.b .b.c .c\n" + way).build("x.b.c", 2, 0).prints("echo x.a x.b.c\n").build("x.c", 2, 2);
        probe.load(".SUFFIXES: .a.b .a .b.c .c\n" + way).build("x.c", 2, 0).prints("echo x.a.b x.c\n").build("x.b.c", 2, 2);
        probe.load(".SUFFIXES: .a .b .a.b\n.a.b:\n\techo $<\n").build("x", 2, 0).prints("echo x.a.b\n");
    }

    private static void whatMayBeASource() {
        String rules = ".SUFFIXES: .c .o\n.c.o:\n\techo $<\n";
        Probe probe = new Probe().load(rules).build("a.c", 0, 2).build("a.o", 0, 2);
        // A name that was met, but has no rule and is no file, is none; with a rule it is one.
        probe.load(rules + "a.c:\n").build("a.o", 0, 0).prints("echo a.c\na.c\n").fates("a.o a.c", "22");
        probe.load(rules + ".PHONY: a.c\n").build("a.o", 0, 2).load(rules + "x: a.c\n").build("a.o", 0, 2);
        probe.edit("a.c", 1).build("a.o", 0, 0).erase("a.c").build("a.o", 0, 2);
        // A rule without commands is none.
        probe.edit("a.c", 1).load(".SUFFIXES: .c .o .y\n.c.o:\n.y.o:\n\techo y\n").build("a.o", 0, 2);
        probe.edit("a.y", 1).build("a.o", 0, 0).prints("echo y\ny\n").fates("a.c a.y", "01");
        // The target itself is under way.
        probe.load(".SUFFIXES: .c\n.c.c:\n\techo\n").build("a.c", 0, 2).fates("a.c", "3");
    }

    private static void whoHasNone() {
        // A suffix is all of its characters.
        Probe other = new Probe().edit("a.c", 1).load(".SUFFIXES: .c .o\n.c.o:\n\techo\n");
        other.build("a_o", 0, 2).build("ao", 0, 2).build("a.p", 0, 2).build("o", 0, 2).build("a.o", 0, 0);
        // A source of an earlier build is forgotten.
        other.load("a.o:\n\techo <$<$*>\n").build(0, 0).prints("echo <>\n<>\n").fates("a.o a.c", "20");
        other.load(".DEFAULT:\n\techo $<\n").build("x", 0, 0).prints("echo x\nx\n");
        other.load("x:\n\techo <$<>\n").build("x", 0, 0).prints("echo <>\n<>\n");

        Probe probe = new Probe().edit("a.c", 1).load(".SUFFIXES: .c .o\n.c.o:\n\techo rule\na.o:\n\techo own <$<$*>\n");
        // Its own commands come first.
        probe.build(0, 0).prints("echo own <>\nown <>\n").fates("a.c", "0");
        // One with a rule but no commands has it, and so has a file; the default commands come last.
        probe.load(".SUFFIXES: .c .o\n.c.o:\n\techo rule\n.DEFAULT:\n\techo none\na.o:\n");
        probe.build(0, 0).prints("echo rule\nrule\n").edit("a.o", 1).build(0, 0).prints("").fates("a.o", "1");
        probe.edit("a.c", 1).build(0, 0).prints("echo rule\nrule\n").build("b.o", 0, 0).prints("echo none\nnone\n");
    }

    private static void changedSuffixes() {
        Probe probe = new Probe().edit("a.c", 1);
        String rule = ".SUFFIXES: .c .o\n.c.o:\n\techo x\n.c:\n\techo y\n.SUFFIXES:\n";
        probe.load(rule).build("a.o", 2, 2).build("a", 2, 2);
        probe.load(rule + ".SUFFIXES: .o .c\n").build("a.o", 2, 0).prints("echo x\n").build("a", 2, 0).prints("echo y\n");
        probe.load(rule + ".SUFFIXES: .c\n").build("a.o", 2, 2).build("a", 2, 0).prints("echo y\n");
        probe.load(rule + ".SUFFIXES: .o\n").build("a.o", 2, 2).build("a", 2, 2);
    }

    private static void sourcesOfSources() {
        // A source is a name that has a rule or is a file: there is no chain of ending rules without one.
        String rules = ".SUFFIXES: .y .c .o\n.y.c:\n\tcp $< $@\n.c.o:\n\tcp $< $@\n";
        Probe probe = new Probe().edit("a.y", 8).load(rules).build("a.o", 0, 2);
        probe.load(rules + "a.c:\n").build("a.o", 0, 0).prints("cp a.y a.c\ncp a.c a.o\n").content("a.o", 8);
        probe.fates("a.y a.c a.o", "122");
        // If the source fails, so does the target.
        probe.load(".SUFFIXES: .c .o\n.c.o:\n\techo\na.c: nix\na.o: b\nb:\n").build("a.o", 0, 2).fates("a.o a.c b", "330");
        probe.build("a.o", 1, 2).fates("a.o a.c b", "332");
    }

    private static void withPrerequisites() {
        Probe probe = new Probe().edit("a.h", 1).edit("a.c", 1).edit("b.h", 1);
        probe.load(".SUFFIXES: .c .o\n.c.o:\n\techo $? $<\n\ttouch $@\na.o: b.h a.c a.h\na.o: a.h\n");
        probe.build(0, 0).prints("echo a.c b.h a.c a.h a.h a.c\na.c b.h a.c a.h a.h a.c\ntouch a.o\n");
        probe.edit("a.h", 1).build(0, 0).prints("echo a.h a.h a.c\na.h a.h a.c\ntouch a.o\n").build(0, 0).prints("");
    }
}
