/** The boundaries of expanding: what stands for what, what is wrong, how deep and how long it may be. */
final class ExpansionBounds {
    private static final String HUNDRED = "0123456789".repeat(10);

    private ExpansionBounds() {
    }

    static void check() {
        macros();
        ends();
        placesOfEnds();
        dollarsAndNames();
        notInRuleLines();
        otherDollars();
        levels();
        levelsOfEmptyValues();
        length();
        lengthBeforeTheEnds();
        valuesThatWereSet();
        timeOfExpansion();
    }

    /** A command is expanded to this. */
    private static void becomes(String definitions, String text, String want) {
        new Run().load(definitions + "t:\n\t" + text + "\n").build("", 2, 0).prints(want + "\n").fates("t", "2");
    }

    /** A command fails by its expansion: it is neither printed nor done, and in a rule line the text is wrong. */
    private static void isWrong(String definitions, String text) {
        Run run = new Run().load(definitions + "t:\n\ttrue\n\t" + text + "\n\ttrue\n").build("", 2, 2).prints("true\n");
        run.fates("t", "3").build("", 0, 2).prints("true\n").done(1).build("", 16, 0).done(2).prints("true\ntrue\n");
        int lines = definitions.length() - definitions.replace("\n", "").length();
        new Run().load(definitions + "t: a " + text + "\n", -lines - 1).names("");
    }

    private static void macros() {
        Sentence.of(5, "EXPANDING a text: from left to right, $X and $(X), X being a capital letter, stand for the "
                + "value of the macro X (empty, if it has none), expanded;");
        for (char c = 'A'; c <= 'Z'; c++) {
            becomes(c + "=v\n", "$" + c + "$(" + c + ")", "vv");
            becomes("", "<$" + c + "$(" + c + ")>", "<>");
        }
        for (String bad : new String[] {"@x", "[", "a", "z", "0", "_", "."}) {
            isWrong("A=v\n", "$(" + bad + ")");
        }
        for (String bad : new String[] {"$[", "$a", "$z", "$0", "$_", "$.", "$()", "$(AB)", "$(A ", "$(A", "$( A)"}) {
            isWrong("A=v\n", bad);
        }
        becomes("A=b\n", "$AA$(A)A$A", "bAbAb");
        becomes("A=$B$C\nB=$C$C\nC=c\n", "$A", "ccc");
        becomes("A=$$\n", "$AA$(A)A", "$A$A");
        becomes("A=\nB=$A\n", "<$B>", "<>");
        new Run().load("A=b c\nt$Z: $A $(A)d $Z\n").names("t b c cd");
    }

    private static void ends() {
        Sentence.of(5, "$(X:s=t), s and t being any texts without ) and s without =, for the value of X, expanded, "
                + "in which in every word that ends with s this end becomes t");
        becomes("A=a.c b.c.c c.d .c c\n", "$(A:.c=.o)", "a.o b.c.o c.d .o c");
        // Nothing, all of a word, and more than a word.
        becomes("A=a bb\n", "$(A:=x)", "ax bbx");
        becomes("A=a bb\n", "$(A:=)", "a bb");
        becomes("A=a bb b\n", "<$(A:b=)>", "<a b >");
        becomes("A=ab b\n", "$(A:ab=x)$(A:xab=y)", "x bab b");
        becomes("", "<$(A:=x)$(A:a=b)>", "<>");
        becomes("A=    \n", "<$(A:=x)>", "<>");
        becomes("A=abcab\n", "$(A:ab=x)", "abcx");
        // What s and t may hold: they are not expanded, and t may have spaces and =.
        becomes("A=ab\n", "$(A:b=$B)$(A:b=$)$(A:$b=c)", "a$Ba$ab");
        becomes("A=ab\n", "$(A:b==)$(A:b=c=d)$(A:b=(c)", "a=ac=da(c");
        becomes("A=a:b\n", "$(A::b=:)$(A:a:b=)", "a:");
        becomes("A=a(b\n", "$(A:(b=c)", "ac");
        becomes("A=a b\n", "$(A:a b=x)$(A: b=x)$(A:b=x y)", "a ba ba x y");
        becomes("A=a\n", "$(A:a=x) $(A:a= )", "x  ");
        isWrong("A=v\n", "$(A:)");
        isWrong("A=v\n", "$(A:s)");
        isWrong("A=v\n", "$(A:s=t");
        isWrong("A=v\n", "$(A:s)=t)");
        isWrong("A=v\n", "$(A=s=t)");
        isWrong("A=v\n", "$(AB:s=t)");
        isWrong("A=v\n", "$(a:s=t)");
        isWrong("A=v\n", "$(:s=t)");
        isWrong("A=v\n", "$(A :s=t)");
    }

    private static void placesOfEnds() {
        Sentence.of(5, "(in the order of the words);");
        becomes("A=a b a\n", "$(A:a=x y)", "x y b x y");
        // What an end became is not looked at again, and what stands around the value is no part of its words.
        becomes("A=aa\n", "$(A:a=aa)$(A:a=a a)", "aaaaa a");
        becomes("A=b\n", "a$(A:ab=x)b$(A:b=c)b", "abbcb");
        becomes("A=x$(B:b=c)c\nB=b\n", "$(A:cc=d)", "xd");
        new Run().set("A= a  a ").load("t:\n\t<$(A:a=b)$(A:=c)>\n").build("", 2, 0).prints("< b  b  ac  ac >\n");
    }

    private static void dollarsAndNames() {
        Sentence.of(5, "$$ for $; and, in a command (in the values of macros that stand in it, too), $@, $<, $? "
                + "and $* for what is said below.");
        becomes("A=x\n", "$$A$$$$$$$A$$", "$A$$$x$");
        isWrong("", "$$$");
        becomes("", "$@$<$?$*$@", "tt");
        becomes("A=$B\nB=$@,$<$?$*\n", "$A$(B:t,=u)", "t,u");
    }

    private static void notInRuleLines() {
        Sentence.of(5, "in a command (in the values of macros that stand in it, too)");
        for (String one : new String[] {"$@", "$<", "$?", "$*"}) {
            new Run().load("a: " + one + "\n", -1).load("A=" + one + "\na: $A\n", -2).load("A=" + one + "\na: b\n")
                    .names("a b");
            new Run().load("a: $" + one + "\n", -1).names("a").load("a" + one + ":\n", -1).names("a");
        }
    }

    private static void otherDollars() {
        Sentence.of(5, "Any other $ is WRONG.");
        for (char c = 32; c <= 126; c++) {
            boolean stands = (c >= 'A' && c <= 'Z') || "$@<?*(".indexOf(c) >= 0;
            if (!stands && c != '#') {
                isWrong("", "x$" + c + "y");
                isWrong("B=$" + c + "y\n", "$B");
            }
        }
        isWrong("", "x$");
        isWrong("", "x$\t");
        isWrong("A=$\n", "$A" + "A");
        new Run().load("t:\n\ttrue\n\techo $#\n").build("", 0, 2).prints("true\n").done(1);
        // What does not come to be expanded is not wrong.
        becomes("A=$\nB=$a\n", "ok", "ok");
    }

    private static void levels() {
        Sentence.of(5, "The text itself has the level 0, the value of a macro one more than the text in which the "
                + "macro stands: a macro in a text of the level 6 is wrong.");
        String chain = "A=$B\nB=$C\nC=$D\nD=$(E)\nE=$(F:x=y)\n";
        becomes(chain + "F=x\n", "$A", "y");
        becomes(chain + "F=$$@\n", "$A", "$@");
        isWrong(chain + "F=$G\nG=x\n", "$A");
        isWrong(chain + "F=$(G)\nG=x\n", "$A");
        isWrong(chain + "F=$(G:=x)\nG=x\n", "$A");
        becomes(chain + "F=$G\nG=x\n", "$B", "y");
        becomes(chain + "F=$G\nG=x\n", "$C$B$D", "yyy");
        isWrong(chain + "F=$G\nG=x\n", "$B$A");
        isWrong("A=$A\n", "$A");
        isWrong("A=$B\nB=$A\n", "x$A");
        becomes("U=$V\nV=$W\nW=$X\nX=$Y\nY=$Z\nZ=z\n", "$U", "z");
        becomes("U=$V\nV=$W\nW=$X\nX=$Y\nY=$Z$A$Z\n", "<$U$U$Z>", "<>");
        // In a text of the level 6, the other ones stand as ever.
        new Run().load(chain + "F=$@$<$?$*$$\nt:\n\t$A\n").build("", 2, 0).prints("t$\n");
    }

    private static void levelsOfEmptyValues() {
        Sentence.of(5, "a macro in a text of the level 6 is wrong.");
        // Also one without a value, and one that was expanded before at a lower level.
        String chain = "A=$B\nB=$C\nC=$D\nD=$E\nE=$F\nF=$G\n";
        isWrong(chain, "$A");
        isWrong(chain, "$G$F$E$D$C$B$A");
        becomes(chain, "<$B$G$B$F>", "<>");
        isWrong(chain, "$B$B$A");
    }

    private static void length() {
        Sentence.of(5, "The expansion is wrong, too, as soon as more than 120 characters stand there");
        becomes("", HUNDRED + "a".repeat(19), HUNDRED + "a".repeat(19));
        becomes("", HUNDRED + "a".repeat(20), HUNDRED + "a".repeat(20));
        isWrong("", HUNDRED + "a".repeat(21));
        becomes("A=" + HUNDRED + "\n", "$A" + "a".repeat(20), HUNDRED + "a".repeat(20));
        isWrong("A=" + HUNDRED + "\n", "$A" + "a".repeat(21));
        becomes("A=" + HUNDRED + "\n", "a".repeat(20) + "$A$B$<", "a".repeat(20) + HUNDRED);
        new Run().load("A=" + HUNDRED + "\nt:\n\t" + "a".repeat(20) + "$A$@\n").build("", 0, 2).prints("").done(0);
        becomes("A=" + HUNDRED + "\n", "a".repeat(19) + "$A$@", "a".repeat(19) + HUNDRED + "t");
        isWrong("A=" + HUNDRED + "\n", "a".repeat(20) + "$A$$");
        becomes("A=" + HUNDRED + "\n", "a".repeat(19) + "$A$$", "a".repeat(19) + HUNDRED + "$");
        isWrong("A=" + HUNDRED + "\n", "a".repeat(20) + "$A ");
        // The text itself may be longer than what it stands for.
        becomes("", "$A$(B)$(C:x=y)".repeat(12) + "z", "z");
        // A rule line, with its spaces.
        new Run().load("a:" + " bcdefgh".repeat(14) + " bcdef\n").names("a bcdefgh bcdef");
        new Run().load("a:" + " bcdefgh".repeat(14) + " bcdefg\n", -1).names("");
        new Run().load("a:" + " bcdefgh".repeat(14) + " bcdef" + "   \n").names("a bcdefgh bcdef");
        // Marks are taken off before, and do not count.
        becomes("", "-@+-" + HUNDRED + "a".repeat(20), HUNDRED + "a".repeat(20));
    }

    private static void lengthBeforeTheEnds() {
        Sentence.of(5, "(the value of a macro stands there before its ends become t).");
        String value = "A=12345678 12345678 12345678\n";
        becomes(value, "b".repeat(94) + "$(A:2345678=)", "b".repeat(94) + "1 1 1");
        isWrong(value, "b".repeat(95) + "$(A:2345678=)");
        isWrong(value + "C=$(A:12345678=)\n", "b".repeat(95) + "$C");
        becomes(value + "C=$(A:12345678=)\n", "b".repeat(94) + "$C", "b".repeat(94) + "  ");
        // So it is with one that comes to nothing, and whenever it stands there again.
        String nothing = "A=$(B:12345=)\nB=12345\nC=$D$A$D\n";
        becomes(nothing, "$A" + "b".repeat(115) + "$A$C", "b".repeat(115));
        isWrong(nothing, "$A" + "b".repeat(116) + "$A");
        isWrong(nothing, "$C$C" + "b".repeat(116) + "$C");
        isWrong(nothing, "$C" + "b".repeat(116) + "$A");
        isWrong(nothing + "E=$A$D\n", "$E" + "b".repeat(116) + "$E");
        becomes(nothing, "$A$D" + "b".repeat(120) + "$D", "b".repeat(120));
        becomes(nothing + "E=$D\n", "$C$E" + "b".repeat(120) + "$E$D", "b".repeat(120));
        isWrong(nothing + "E=$A\nF=$A\n", "$E$F" + "b".repeat(116) + "$F");
        // And what they became stands there as well.
        becomes("A=1 2 3\n", "b".repeat(112) + "$(A:=x)", "b".repeat(112) + "1x 2x 3x");
        isWrong("A=1 2 3\n", "b".repeat(113) + "$(A:=x)");
    }

    private static void valuesThatWereSet() {
        Sentence.of(5, "A macro has the value that set() gave it, if there is one, else that of the definitions");
        Run run = new Run().load("A=d\nB=e\nt:\n\t<$A$B$C>\n").build("", 2, 0).prints("<de>\n").set("A=s");
        run.build("", 2, 0).prints("<se>\n").set("B=").build("", 2, 0).prints("<s>\n").set("C=c").build("", 2, 0)
                .prints("<sc>\n");
        // A set value, even the empty one, goes before definitions that come later.
        run.load("A=1\nB=2\nC=3\nD=4\nt:\n\t<$A$B$C$D>\n").build("", 2, 0).prints("<sc4>\n").set("A=").set("D=5");
        run.build("", 2, 0).prints("<c5>\n").load("t: $A$B$C.$D\n").names("t c.5");
        // What it gave is expanded in its turn.
        run.set("A=$D$$").load("t:\n\t$A\n").build("", 2, 0).prints("5$\n").set("A=$A").build("", 2, 2).set("A=$(")
                .build("", 2, 2);
    }

    private static void timeOfExpansion() {
        Sentence.of(5, "(at the time when it is expanded).");
        new Run().load("a: $A\nA=b\nc: $A\nA=d\n").names("a c b");
        new Run().load("B=$A\na: $B\nA=b\na: $B\nA=c\na: $B\n").names("a b c");
        new Run().load("A=1\nt:\n\techo $A\nA=2\nu:\n\techo $A\nA=3\n").build("t", 2, 0).prints("echo 3\n");
    }
}
