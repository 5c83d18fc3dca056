/** The boundaries of promises 1 to 4: a new object, type, scrap and set. */
final class DraftBounds {
    private DraftBounds() {
    }

    static void check() {
        newObject();
        charactersThatAreRefused();
        fullDraft();
        scrap();
        set();
        setRefused();
    }

    private static void newObject() {
        Sentence.of(1, "An empty draft, no names, files, macros and rules.");
        Run run = new Run().draftIsEmpty().buildRefused(0).buildRefused(63).names("").done(0).prints("");
        run.nameAtRefused(0, 0).timeRefused(0).fateRefused(0).printedAtRefused(0)
                .asks("content(0)", b -> b.content(0), 0);
        // The empty draft is an empty rule text.
        new Run().load("").buildRefused(0).names("");
        for (char c = 'A'; c <= 'Z'; c++) {
            new Run().load("t:\n\t<$" + c + ">\n").build("", 2, 0).prints("<>\n");
        }
        new Run().build("t", 0, 2).fates("t", "3").type("t").eraseRefused();
        // No suffixes, nothing silent or ignored, no default: each would show here.
        new Run().load(".c.o:\n\ttrue\nt:\n\tfalse\n").names(".c.o t").build("t", 0, 2).prints("false\n")
                .build("x", 0, 2);
        // The clock is 0.
        new Run().edit("a", 1).times("a", "1");
    }

    private static void charactersThatAreRefused() {
        Sentence.of(2, "Appends a character to the draft; false when it is none of those that it may have,");
        for (int code : new int[] {0, 1, 7, 8, 11, 12, 13, 27, 30, 31, 127, 128, 254, 255, 256, 288, 8232, 65535}) {
            new Run().typeRefused(code).typeRefused(code).draftIsEmpty();
            new Run().type("A=").typeRefused(code).type("x").set("").load("t:\n\t$A\n").build("", 2, 0).prints("x\n");
            new Run().type("a:").typeRefused(code).load("b\n").names("a b");
        }
        for (int code : new int[] {32, 33, 125, 126, 9}) {
            new Run().set("A=<" + (char) code + ">").load("t:\n\t$A\n").build("", 2, 0)
                    .prints("<" + (char) code + ">\n");
        }
        new Run().type("a:").type("\n").load("b", -2).names("a");
    }

    private static void fullDraft() {
        Sentence.of(2, "or it has 320.");
        Run run = new Run().type("#".repeat(317)).type("\n").type("a");
        // 319 characters are there: one more, and then none.
        run.type(":").typeRefused(':').typeRefused('\n').typeRefused(0).typeRefused(65535);
        run.load("").names("a").build("", 0, 0).fates("a", "2");
        run = new Run().type("#".repeat(320)).typeRefused('a').editRefused(1).setRefused().eraseRefused()
                .buildRefused(0);
        // It stays full behind calls that are refused, and is empty behind one that takes it.
        run.typeRefused('a').scrap().type("ab").edit("", 1, "ab");
        new Run().type("\n".repeat(319)).type("x").typeRefused('y').load("", -320);
    }

    private static void scrap() {
        Sentence.of(3, "The draft becomes empty.");
        new Run().scrap().draftIsEmpty();
        new Run().type("a").scrap().draftIsEmpty();
        new Run().type("a").scrap().scrap().type("b").edit("", 1, "b").names("b");
        new Run().type("x".repeat(320)).scrap().type("y".repeat(100)).scrap().edit("z", 1).names("z");
        // Nothing but the draft is.
        Run run = new Run().set("A=1").edit("f", 5).load("t: f\n\techo $A\n").build("", 0, 0).type("M=x").scrap();
        run.names("f t").times("f t", "1 0").contents("f", "5").fates("f t", "1 2").done(1).prints("echo 1\n1\n");
        run.build("", 0, 0).prints("echo 1\n1\n").edit("f", 6).times("f", "2");
    }

    private static void set() {
        Sentence.of(4, "The draft, a capital letter, = and a value of at most 16 characters without newlines (as "
                + "it stands, with its spaces), sets this macro; then it is empty.");
        String[] values = {"", "x", " ", "  x  ", "\t", "123456789012345", "1234567890123456", " 23456789012345 ", "=",
                "a#b",
            "\\", "a:b", "~"};
        for (String value : values) {
            for (String letter : new String[] {"A", "M", "Z"}) {
                Run run = new Run().set(letter + "=" + value).load("t:\n\t<$" + letter + ">\n").build("", 2, 0);
                run.prints("<" + value + ">\n");
            }
        }
        new Run().set("A=1").draftIsEmpty().set("A=").draftIsEmpty().names("");
        // Another one takes its place, an empty one, too; the others stay.
        Run run = new Run().set("A=1").set("B=2").set("A=3").load("A=4\nt:\n\t<$A$B>\n").build("", 2, 0)
                .prints("<32>\n");
        run.set("A=").build("", 2, 0).prints("<2>\n").set("B=1234567890123456").build("", 2, 0)
                .prints("<1234567890123456>\n");
        for (char c = 'A'; c <= 'Z'; c++) {
            new Run().set(c + "=v").load("t:\n\t$" + c + "\n").build("", 2, 0).prints("v\n");
        }
    }

    private static void setRefused() {
        Sentence.of(4, "False when the draft is not so.");
        String[] drafts = {"", "A", "=", "=x", "A x", "A:x", "A =x", "a=x", "z=x", "@=x", "[=x", "0=x", ".=x", "AB=x",
                " A=x", "\tA=x",
            "\nA=x", "A\n=x", "A=\n", "A=x\n", "A=\nx", "A=x\ny", "A=12345678901234567", "A=" + " ".repeat(17),
            "A=1234567890123456\n", "A=" + "x".repeat(318)};
        for (String draft : drafts) {
            Run run = new Run().set("A=old").type(draft).setRefused().setRefused();
            run.scrap().load("t:\n\t<$A>\n").build("", 2, 0).prints("<old>\n");
        }
        // The draft is there still, and can be made longer or be used by another call.
        new Run().type("A").setRefused().type("=").set("").draftIsEmpty();
        new Run().type("ab").setRefused().edit("", 3, "ab").names("ab");
        new Run().type("A=12345678901234567").setRefused().load("\nt:\n\t$A\n").build("", 2, 0)
                .prints("12345678901234567\n");
    }
}
