/** Promises 9 (names) and 10 (nameAt). */
public final class NamesTest {
    public static void main(String[] args) {
        order();
        edges();
        most();
        Probe.finish();
    }

    private static void order() {
        Probe probe = new Probe().edit("b", 1).edit("a", 1).edit("b", 2).names("b a");
        probe.load(".PHONY: p\n.IGNORE: i\n.SILENT: s b\nt u: v a t\n").names("b a p i s t u v");
        // Suffixes and the targets of ending rules are not met.
        probe.load(".SUFFIXES: .c .o\n.c.o:\n.c:\n.DEFAULT:\n\ttouch new\n").names("b a p i s t u v");
        probe.build("goal", 0, 0).names("b a p i s t u v goal new");
    }

    private static void edges() {
        Subject builder = new Probe().edit("a", 1).edit("z9._abcd", 1).builder;
        Probe.due("names", builder.names(), 2);
        String name = "z9._abcd";
        for (int i = 0; i < 8; i++) {
            Probe.due("nameAt(1, " + i + ")", builder.nameAt(1, i), (int) name.charAt(i));
        }
        Probe.due("nameAt(0, 0)", builder.nameAt(0, 0), 97);
        int[][] outside = {{0, 1}, {0, -1}, {1, 8}, {1, -1}, {2, 0}, {-1, 0}, {32, 0},
            {Integer.MAX_VALUE, 0}, {Integer.MIN_VALUE, 0}, {0, Integer.MAX_VALUE}, {0, Integer.MIN_VALUE}};
        for (int[] at : outside) {
            Probe.due("nameAt(" + at[0] + ", " + at[1] + ")", builder.nameAt(at[0], at[1]), -1);
        }
    }

    private static void most() {
        Probe probe = new Probe();
        for (int i = 0; i < 32; i++) {
            Probe.due("names", probe.builder.names(), i);
            probe.edit("n" + i, i);
        }
        Probe.due("the last name", probe.name(31), "n31");
        Probe.due("time(32)", probe.builder.time(32), -1);
        Probe.due("content(32)", probe.builder.content(32), 0);
        Probe.due("fate(32)", probe.builder.fate(32), -1);
        Probe.due("nameAt(32, 0)", probe.builder.nameAt(32, 0), -1);
        probe.type("n32");
        Probe.due("edit of the 33rd", probe.builder.edit(1), -1);
        Probe.due("build of the 33rd", probe.builder.build(0), -1);
        Probe.due("erase of the 33rd", probe.builder.erase(), false);
        probe.builder.scrap();
        Probe.due("names", probe.builder.names(), 32);
        probe.edit("n31", 5).content("n31", 5).times("n31", "33");
        probe.load("n1: n2 n31\n").load("n1: n2 n32 n3\n", -1).load("n32: n1\n", -1).load(".PHONY: n0 n32\n", -1);
        // Suffixes are no names that are met.
        probe.load(".SUFFIXES: .c .o\nn1:\n");
        Probe.due("names", probe.builder.names(), 32);
    }
}
