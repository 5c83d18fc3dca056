/** Promises 6 (edit), 7 (erase), 11 (time) and 12 (content). */
public final class FilesTest {
    public static void main(String[] args) {
        editing();
        erasing();
        asking();
        Probe.finish();
    }

    private static void refuses(Probe probe, String draft) {
        probe.type(draft);
        int before = probe.builder.names();
        Probe.due("edit of " + draft, probe.builder.edit(3), -1);
        Probe.due("names", probe.builder.names(), before);
        probe.builder.scrap();
    }

    private static void editing() {
        Probe probe = new Probe();
        String[] bad = {"", "123456789", "A", "a b", " a", "a ", "a\n", "a-b", "a/b", "\ta", "a:", "@", "`", "{", "/"};
        for (String draft : bad) {
            refuses(probe, draft);
        }
        probe.edit("x", 1).times("x", "1");
        probe.type("a");
        Probe.due("edit of a", probe.builder.edit(Integer.MIN_VALUE), 1);
        Probe.due("the draft is empty then", probe.builder.edit(1), -1);
        probe.content("a", Integer.MIN_VALUE).times("x a", "1 2");
        probe.type("x");
        Probe.due("edit of x again", probe.builder.edit(-1), 0);
        probe.content("x", -1).times("x a", "3 2");
        for (String name : new String[] {".", "_", "0", "9", "z", "12345678", "........"}) {
            probe.edit(name, 4);
        }
        probe.names("x a . _ 0 9 z 12345678 ........");

        // A draft that is refused stays, and the clock does.
        probe.type("bad");
        probe.type("-");
        Probe.due("edit of bad-", probe.builder.edit(1), -1);
        Probe.due("build of bad-", probe.builder.build(0), -1);
        probe.load("\n", -1).edit("x", 0).times("x", "11");
    }

    private static void erasing() {
        Probe probe = new Probe().edit("a", 5).edit("b", 6).load("c: a\n");
        probe.type("c");
        Probe.due("erase of what is no file", probe.builder.erase(), false);
        probe.builder.scrap();
        probe.type("nix");
        Probe.due("erase of no name", probe.builder.erase(), false);
        // The draft stayed.
        Probe.due("edit of the same draft", probe.builder.edit(1), 3);
        probe.erase("a").times("a b c nix", "0 2 0 3").content("a", 0).names("a b c nix");
        Probe.due("the draft is empty then", probe.builder.erase(), false);
        probe.type("a");
        Probe.due("erase again", probe.builder.erase(), false);
        Probe.due("edit again", probe.builder.edit(9), 0);
        probe.times("a", "4").content("a", 9);
    }

    private static void asking() {
        Probe probe = new Probe().edit("a", 5).load("x:\n");
        Subject builder = probe.builder;
        int[] none = {2, -1, 32, Integer.MAX_VALUE, Integer.MIN_VALUE};
        for (int k : none) {
            Probe.due("time(" + k + ")", builder.time(k), -1);
            Probe.due("content(" + k + ")", builder.content(k), 0);
            Probe.due("fate(" + k + ")", builder.fate(k), -1);
        }
        Probe.due("time of a file", builder.time(0), 1);
        Probe.due("content of a file", builder.content(0), 5);
        Probe.due("time of no file", builder.time(1), 0);
        Probe.due("content of no file", builder.content(1), 0);
        // A file that is written as none has the content 0, also if it was one once.
        probe.erase("a").load("x:\n\ttouch a\n").build(0, 0).content("a", 0).times("a", "2");
    }
}
