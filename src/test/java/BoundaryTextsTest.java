/** The boundary cases that the document names for texts: its Terms, and promises 14 to 17. */
public final class BoundaryTextsTest extends Checks {

    public static void main(String[] args) {
        append();
        clearText();
        blanks();
        numbers();
        clauses();
        errorPositions();
        readClauses();
        readClausesRefuses();
        schedules();
        outputByte();
        finish();
    }

    // ---- promises 14 and 15

    private static void append() {
        sentence("Terms", "There is a text of at most 160 bytes, initially empty.", () -> {
            CnfPreprocessor x = new CnfPreprocessor();
            is("clearText() at first", x.clearText(), 0);
            write(x, " ".repeat(159));
            is("append, the 160th byte", x.append(32), 160);
            refuses("append, the 161st byte", x, STATE, () -> x.append(32));
            is("clearText() of a full text", x.clearText(), 160);
        });
        sentence("Promise 14", "value: the byte, 0 to 127", () -> {
            CnfPreprocessor x = new CnfPreprocessor();
            is("append(0)", x.append(0), 1);
            is("append(127)", x.append(127), 2);
            is("readClauses(): byte 0 is no blank", x.readClauses(), -1);
        });
        sentence("Promise 14", "Returns the length of the text afterwards.", () -> {
            CnfPreprocessor x = new CnfPreprocessor();
            for (int length = 1; length <= 160; length++) {
                is("append, byte " + length, x.append(length % 128), length);
            }
            x.clearText();
            is("append after clearText()", x.append(1), 1);
        });
        sentence("Promise 14", "Throws IllegalArgumentException if value is out of range", () -> {
            CnfPreprocessor x = new CnfPreprocessor();
            refusesBeyond("append", x, ARGUMENT, 128, x::append);
            refuses("append(256)", x, ARGUMENT, () -> x.append(256));
            is("append after refused ones", x.append(48), 1);
        });
        sentence("Promise 14", "Throws IllegalStateException if the text has 160 bytes", () -> {
            CnfPreprocessor x = new CnfPreprocessor();
            write(x, " ".repeat(160));
            refuses("append(0)", x, STATE, () -> x.append(0));
            refuses("append(127)", x, STATE, () -> x.append(127));
            is("readClauses() of 160 blanks", x.readClauses(), 0);
        });
        sentence("Terms", "If several exceptions apply, the one that is listed first is thrown.", () -> {
            CnfPreprocessor x = new CnfPreprocessor();
            write(x, " ".repeat(160));
            refusesBeyond("append to a full text", x, ARGUMENT, 128, x::append);
        });
        sentence("Terms", "Each successful call of a method that is described as undoable saves the state", () -> {
            CnfPreprocessor x = new CnfPreprocessor();
            x.append(48);
            x.clearText();
            x.append(48);
            refuses("undo() after append and clearText", x, STATE, x::undo);
        });
    }

    private static void clearText() {
        sentence("Promise 15", "Returns the length that it had.", () -> {
            CnfPreprocessor x = new CnfPreprocessor();
            is("clearText() of an empty text", x.clearText(), 0);
            x.append(0);
            is("clearText() of one byte", x.clearText(), 1);
            is("clearText() again", x.clearText(), 0);
            write(x, "0".repeat(160));
            is("clearText() of a full text", x.clearText(), 160);
            is("readClauses() of what is left", x.readClauses(), 0);
        });
        sentence("Promise 15", "Empties the text.", () -> {
            CnfPreprocessor x = new CnfPreprocessor();
            write(x, "1 2 0 x");
            x.clearText();
            write(x, "3 0");
            is("readClauses() of the new text", x.readClauses(), 1);
            is("the list", list(x), "3 0;");
        });
    }

    // ---- texts as clauses

    /** Reads a text with some variables; what is due is the answer, and the list if there is no syntax error. */
    private static void reads(int variables, String text, int due, String list) {
        CnfPreprocessor x = formula(variables);
        write(x, text);
        String what = "readClauses() of \"" + text.replace('\n', ';') + "\" with " + variables + " variables";
        is(what, x.readClauses(), due);
        is("the list after " + what, list(x), list);
    }

    /** The text has a syntax error at this index. */
    private static void errs(int variables, String text, int index) {
        reads(variables, text, -1 - index, "");
    }

    private static void blanks() {
        sentence("Terms", "blanks (byte 32) and line feeds (byte 10) may stand anywhere except inside of a number",
                () -> {
            reads(3, " \n 1 \n\n -2  0 \n", 1, "1 -2 0;");
            reads(3, "\n\n", 0, "");
            reads(3, "1\n0\n\n2\n0", 2, "1 0;2 0;");
            reads(10, "1 0", 1, "1 0;");
            errs(10, "1 0 0 1", 7);
            errs(3, "-\n1 0", 1);
            errs(3, "1\t0", 1);
            errs(3, "1\r\n0", 1);
            errs(3, "\f", 0);
            errs(3, "1 0\u000b", 3);
            errs(3, "\u001f1 0", 0);
            errs(3, "!1 0", 0);
        });
        sentence("Terms", "and there must be at least one between two numbers", () -> {
            errs(3, "1-2 0", 1);
            errs(3, "1 -2-3 0", 4);
            errs(3, "0-1 0", 1);
            errs(3, "00", 1);
            errs(3, "1 0-", 3);
            reads(3, "1 -2 0", 1, "1 -2 0;");
            reads(3, "0\n0", 2, "0;");
        });
    }

    private static void numbers() {
        sentence("Terms", "the number n from 1 to V is the positive literal of variable n - 1, and -n its negative one",
                () -> {
            reads(1, "1 0 -1 0", 2, "1 0;-1 0;");
            reads(10, "1 -10 0 -1 10 0", 2, "1 -10 0;-1 10 0;");
            reads(9, "-9 0 9 0", 2, "-9 0;9 0;");
            errs(1, "2 0", 0);
            errs(1, "-2 0", 1);
            errs(9, "10 0", 1);
            errs(9, "-10 0", 2);
            errs(10, "11 0", 1);
            errs(10, "-11 0", 2);
            errs(10, "20 0", 1);
        });
        sentence("Terms", "Numbers have no leading zeros", () -> {
            errs(3, "01 0", 1);
            errs(10, "010 0", 1);
            errs(3, "-01 0", 1);
            errs(3, "1 00", 3);
            errs(3, "1 01 0", 3);
        });
        sentence("Terms", "0 has no minus sign", () -> {
            errs(3, "-0", 1);
            errs(3, "1 -0", 3);
        });
        sentence("Terms", "the minus sign stands directly before its number", () -> {
            errs(3, "- 1 0", 1);
            errs(3, "--1 0", 1);
            errs(3, "-x", 1);
            errs(3, "1 - 0", 3);
            errs(3, "1- 0", 1);
        });
    }

    private static void clauses() {
        sentence("Terms", "A clause is a sequence of literals, followed by the number 0", () -> {
            reads(3, "", 0, "");
            reads(3, "0", 1, "0;");
            reads(3, "1 2 3 0", 1, "1 2 3 0;");
            reads(3, "3 2 0 1 0", 2, "2 3 0;1 0;");
            errs(3, "1 2 3", 5);
        });
        sentence("Terms", "A literal may be repeated in a clause.", () -> {
            reads(3, "2 2 2 0", 1, "2 0;");
            reads(10, "-10 1 -10 1 0", 1, "1 -10 0;");
        });
        sentence("Terms", "A clause with complementary literals is left out.", () -> {
            reads(3, "1 -1 0", 0, "");
            reads(3, "-3 2 3 0 2 0 1 2 -2 0", 1, "2 0;");
            reads(10, "10 -10 0 10 -9 0", 1, "-9 10 0;");
            // The first literal of variable 1 and the second one of variable 0 are no complements.
            reads(3, "-1 2 0", 1, "-1 2 0;");
        });
    }

    private static void errorPositions() {
        sentence("Terms", "The syntax error position is the index of the first byte that cannot stand where it stands",
                () -> {
            errs(3, "x", 0);
            errs(3, "1x", 1);
            errs(3, "1 x y", 2);
            errs(3, "1 0 2 0 u", 8);
            errs(3, "+1 0", 0);
            errs(3, "1,2 0", 1);
            errs(3, "1.0 0", 1);
            errs(3, "/ 0", 0);
            errs(3, ": 0", 0);
            errs(3, "1/ 0", 1);
            errs(3, "1: 0", 1);
            errs(3, "-/", 1);
            errs(3, "-:", 1);
            errs(3, "\u0000", 0);
            errs(3, "0".concat("\u007f"), 1);
            errs(3, " ".repeat(159) + "x", 159);
        });
        sentence("Terms", "(of a number above V it is the digit by which it becomes greater than V)", () -> {
            errs(3, "4 0", 0);
            errs(3, "12 0", 1);
            errs(3, "1 -4 0", 3);
            errs(10, "100 0", 2);
            errs(10, "19999999999 0", 1);
            errs(10, "10000000000 0", 2);
            errs(10, "-4294967297 0", 2);
            errs(10, "99", 1);
        });
        sentence("Terms", "or the length of the text if the text ends too early", () -> {
            errs(3, "1", 1);
            errs(3, "1 ", 2);
            errs(3, "1\n\n", 3);
            errs(3, "-", 1);
            errs(3, "1 0 -", 5);
            errs(3, "1 0 2 ", 6);
            errs(3, "1 -1", 4);
            errs(3, "1 -1 ", 5);
            errs(3, "1" + " ".repeat(159), 160);
            errs(3, " ".repeat(159) + "-", 160);
        });
    }

    // ---- promise 16

    private static void readClauses() {
        sentence("Promise 16", "Adds the clauses of the text, in order. The text stays.", () -> {
            CnfPreprocessor x = formula(3, c(3));
            write(x, "2 0 -1 0 2 0");
            is("readClauses()", x.readClauses(), 3);
            is("the list", list(x), "3 0;2 0;-1 0;2 0;");
            is("readClauses() again", x.readClauses(), 3);
            is("originalCount()", x.originalCount(), 7);
            is("clearText()", x.clearText(), 12);
        });
        sentence("Promise 16", "Undoable, unless there is a syntax error.", () -> {
            CnfPreprocessor x = formula(3);
            write(x, "1 0 2 0");
            x.readClauses();
            is("undo()", x.undo(), 1);
            is("originalCount() after undo()", x.originalCount(), 0);
            x.clearText();
            is("readClauses() of an empty text", x.readClauses(), 0);
            is("undo() of a call that added nothing", x.undo(), 1);
            write(x, "1");
            is("readClauses() of an error", x.readClauses(), -2);
            is("undo() after an error", x.undo(), 0);
            refuses("one more undo()", x, STATE, x::undo);
        });
        sentence("Promise 16", "If one of the clauses is empty, all of them become original clauses nevertheless.",
                () -> {
            CnfPreprocessor x = formula(3, c(3));
            write(x, "1 0 0 -2 0");
            is("readClauses()", x.readClauses(), 3);
            is("originalCount()", x.originalCount(), 4);
            is("original(1, true)", x.original(1, true), 1);
            is("original(2, true)", x.original(2, true), 0);
            is("original(3, false)", x.original(3, false), 2);
            is("the list", list(x), "0;");
            reads(3, "0 ".repeat(32), 32, "0;");
        });
        sentence("Promise 16", "Returns the number of clauses that were added", () -> {
            reads(3, " ", 0, "");
            reads(3, "1 -1 0", 0, "");
            reads(3, "1 -1 0 2 0", 1, "2 0;");
            reads(3, "3 0 ".repeat(32), 32, "3 0;".repeat(32));
        });
        sentence("Promise 16", "-1 minus the syntax error position if there is a syntax error (then nothing changes)",
                () -> {
            CnfPreprocessor x = formula(3, c(1));
            write(x, "2 0 3 0 x");
            leaves("readClauses()", x, () -> is("readClauses()", x.readClauses(), -9));
            is("originalCount()", x.originalCount(), 1);
            write(x, "x");
            leaves("readClauses()", x, () -> is("readClauses() of an error at 0", x.readClauses(), -1));
            write(x, " ".repeat(159) + "1");
            leaves("readClauses()", x, () -> is("readClauses() of an error at 160", x.readClauses(), -161));
        });
        sentence("Promise 16", "if there is a syntax error (then nothing changes)", () -> {
            for (String error : new String[] {"-", "1", "-1", "1 ", "1 -2 x", "0 1", "00", "10", "-x", "3 -3"}) {
                CnfPreprocessor x = formula(3);
                write(x, error);
                is("readClauses() of \"" + error + "\" is an error", x.readClauses() < 0, true);
                write(x, "");
                is("readClauses() of no text after it", x.readClauses(), 0);
                write(x, error);
                x.readClauses();
                write(x, "2 0");
                is("readClauses() of a text after it", x.readClauses(), 1);
                is("the list after \"" + error + "\" and \"2 0\"", list(x), "2 0;");
            }
        });
    }

    private static void readClausesRefuses() {
        sentence("Promise 16", "Throws IllegalStateException if a variable is not active", () -> {
            CnfPreprocessor x = formula(3, c(-1, 2), c(2, 3));
            x.eliminate(0);
            is("rowCount()", x.rowCount(), 0);
            for (String text : new String[] {"", "2 0", "x", "0"}) {
                write(x, text);
                refuses("readClauses() of \"" + text + "\"", x, STATE, x::readClauses);
            }
        });
        sentence("Promise 16", "the stack is not empty", () -> {
            CnfPreprocessor x = formula(3, c(1, 2));
            x.apply(5);
            is("rowCount()", x.rowCount(), 1);
            for (String text : new String[] {"", "2 0", "x", "0"}) {
                write(x, text);
                refuses("readClauses() of \"" + text + "\"", x, STATE, x::readClauses);
            }
        });
        sentence("Promise 16", "the formula is contradictory", () -> {
            CnfPreprocessor x = formula(3, c());
            for (String text : new String[] {"", "2 0", "x", "0"}) {
                write(x, text);
                refuses("readClauses() of \"" + text + "\"", x, STATE, x::readClauses);
            }
        });
        sentence("Promise 16", "or the text has no syntax error and there would be more than 32 original clauses",
                () -> {
            CnfPreprocessor x = formula(3);
            write(x, "1 0 ".repeat(33));
            refuses("readClauses() of 33 clauses", x, STATE, x::readClauses);
            write(x, "1 0 ".repeat(32));
            is("readClauses() of 32 clauses", x.readClauses(), 32);
            refuses("readClauses() of 32 more", x, STATE, x::readClauses);
            write(x, "0");
            refuses("readClauses() of the 33rd clause", x, STATE, x::readClauses);
            write(x, "1 0 x");
            is("readClauses() of an error beside 32 clauses", x.readClauses(), -5);
            write(x, "");
            is("readClauses() of no clause beside 32", x.readClauses(), 0);
            write(x, "1 -1 0");
            is("readClauses() of a clause that is left out beside 32", x.readClauses(), 0);
        });
        sentence("Terms", "A clause with complementary literals is left out.", () -> {
            CnfPreprocessor x = formula(3);
            x.generate(1, 31, 2);
            write(x, "1 -1 0 2 -2 0 3 0 1 -1 0");
            is("readClauses(): clauses left out are not counted", x.readClauses(), 1);
            is("originalCount()", x.originalCount(), 32);
        });
        sentence("Terms", "There is a text of at most 160 bytes", () -> {
            CnfPreprocessor x = formula(3);
            write(x, "0 ".repeat(80));
            refuses("readClauses() of 80 clauses", x, STATE, x::readClauses);
            write(x, "0 ".repeat(79) + " x");
            is("readClauses() of 79 clauses and an error", x.readClauses(), -160);
        });
    }

    // ---- texts as schedules

    private static void runs(String text, int due) {
        CnfPreprocessor x = formula(4, c(1, 2), c(-1, 2), c(-2, 3), c(-3, 4, 1));
        write(x, text);
        is("run(9) of \"" + text.replace('\n', ';') + "\"", x.run(9), due);
        is("clearText() afterwards", x.clearText(), text.length());
    }

    private static void schedules() {
        sentence("Terms", "As a schedule the text is a sequence of 1 to 20 letters of techniques", () -> {
            runs("", -1);
            runs("u", 1);
            runs("t", 2);
            runs("u".repeat(20), 1);
            runs("u".repeat(19) + "t", 3);
            runs("u".repeat(21), -21);
            runs("u".repeat(160), -21);
            for (char letter = 0; letter < 128; letter++) {
                boolean known = "upstebcfqv".indexOf(letter) >= 0 || letter == ' ' || letter == '\n';
                CnfPreprocessor x = formula(1);
                write(x, "u" + letter);
                is("run(1) of u and byte " + (int) letter, x.run(1), known ? 1 : -2);
            }
        });
        sentence("Terms", "letters of techniques; blanks and line feeds may stand anywhere.", () -> {
            runs("\n t \n\n u ", 2);
            runs("u" + " ".repeat(158) + "t", 3);
            runs(" ".repeat(70) + "utututututututututut" + "\n".repeat(70), 2);
            runs("u\tt", -2);
        });
        sentence("Terms", "the index of the first byte that cannot stand where it stands", () -> {
            runs("x", -1);
            runs("tU", -2);
            runs("t0", -2);
            runs("tttx" + "t".repeat(30), -4);
            runs("t".repeat(20) + "x", -21);
            runs("t".repeat(20) + " \n t", -24);
            runs("t ".repeat(20) + "t", -41);
        });
        sentence("Terms", "or the length of the text if the text ends too early", () -> {
            runs(" ", -2);
            runs("\n \n", -4);
            runs(" ".repeat(160), -161);
        });
    }

    // ---- promise 17

    private static void outputByte() {
        sentence("Promise 17", "for each clause its literals in ascending order, each one as a number like in TEXTS,"
                + " followed by a blank, and then 0 and a line feed", () -> {
            CnfPreprocessor x = formula(10, c(10, -9, 1), c(-10));
            String due = "1 -9 10 0\n-10 0\n";
            for (int i = 0; i < due.length(); i++) {
                is("outputByte(" + i + ")", x.outputByte(i), due.charAt(i));
            }
            is("outputByte(" + due.length() + ")", x.outputByte(due.length()), NONE);
            CnfPreprocessor empty = formula(10, c(1), c());
            is("outputByte(0) of a contradictory formula", empty.outputByte(0), '0');
            is("outputByte(1) of a contradictory formula", empty.outputByte(1), 10);
            is("outputByte(2) of a contradictory formula", empty.outputByte(2), NONE);
        });
        sentence("Promise 17", "Returns the byte; NONE if the text has not so many bytes.", () -> {
            CnfPreprocessor none = formula(3);
            is("outputByte(0) without clauses", none.outputByte(0), NONE);
            is("outputByte(greatest int) without clauses", none.outputByte(GREATEST), NONE);
            CnfPreprocessor x = formula(10);
            for (int i = 0; i < 32; i++) {
                x.addClause(0, 1023);
            }
            // 9 times 3 bytes, 4 bytes, and 2 bytes for each clause.
            is("outputByte(1055), the last byte", x.outputByte(1055), 10);
            is("outputByte(1054)", x.outputByte(1054), '0');
            is("outputByte(1053)", x.outputByte(1053), ' ');
            is("outputByte(1052)", x.outputByte(1052), '0');
            is("outputByte(1051)", x.outputByte(1051), '1');
            is("outputByte(1050)", x.outputByte(1050), '-');
            is("outputByte(1056)", x.outputByte(1056), NONE);
            is("outputByte(greatest int)", x.outputByte(GREATEST), NONE);
        });
        sentence("Promise 17", "Throws IllegalArgumentException if index is negative", () -> {
            CnfPreprocessor x = formula(3, c(1));
            refuses("outputByte(-1)", x, ARGUMENT, () -> x.outputByte(-1));
            refuses("outputByte(least int)", x, ARGUMENT, () -> x.outputByte(LEAST));
            is("outputByte(0)", x.outputByte(0), '1');
        });
        sentence("Terms", "NONE is returned only if no exception applies.", () -> {
            CnfPreprocessor none = formula(3);
            refuses("outputByte(-1) without clauses", none, ARGUMENT, () -> none.outputByte(-1));
        });
    }
}
