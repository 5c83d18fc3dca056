/** Texts that would keep a careless program busy without end; the answers are those of the document all the same. */
public final class HardTextsTest {
    public static void main(String[] args) {
        manyEmptyMacros();
        manyMacrosThatComeToNothing();
        everyNameAgain();
        Probe.finish();
    }

    private static void manyEmptyMacros() {
        StringBuilder text = new StringBuilder();
        for (char c = 'A'; c < 'F'; c++) {
            text.append(c).append('=').append(("$" + (char) (c + 1)).repeat(22)).append('\n');
        }
        text.append("F=\nt:").append("$A".repeat(20)).append('\n');
        Probe probe = new Probe().load(text + "\t" + "$A".repeat(5) + "x\n");
        for (int i = 0; i < 100; i++) {
            probe.build(2, 0).prints("x\n");
        }
    }

    private static void manyMacrosThatComeToNothing() {
        StringBuilder text = new StringBuilder("F=x\nE=" + "$(F:x=)".repeat(5) + "\n");
        for (char c = 'A'; c < 'E'; c++) {
            text.append(c).append('=').append(("$" + (char) (c + 1)).repeat(22)).append('\n');
        }
        Probe probe = new Probe().load(text + "t:\n\t" + "$A".repeat(20) + "y\n");
        for (int i = 0; i < 100; i++) {
            probe.build(2, 0).prints("y\n");
        }
    }

    private static void everyNameAgain() {
        // Each name needs all those behind it: the paths are many, the names few.
        StringBuilder text = new StringBuilder();
        String letters = "abcdefghijklm";
        for (int i = 0; i + 1 < letters.length(); i++) {
            text.append(letters.charAt(i)).append(':');
            for (int j = i + 1; j < letters.length(); j++) {
                text.append(' ').append(letters.charAt(j));
            }
            text.append('\n');
        }
        new Probe().load(text + "m:\n\techo m\n").build(0, 0).prints("echo m\nm\n").done(1);
    }
}
