/** Promises 18 to 21: type, clearText, fault, play. */
public final class TextTest {
    private static final int NONE = SpilledGroups.NOT_FOUND;

    public static void main(String[] args) {
        promise18Type();
        promise19ClearText();
        promise20FaultForm();
        promise20FaultRoom();
        promise20FaultWrong();
        promise21Play();
        promise21PlayIsOneChange();
        promise21PlayWithFault();
        Check.end();
    }

    private static void promise18Type() {
        SpilledGroups x = new SpilledGroups();
        for (int character : new int[] {31, 127, -1, 0, 128, Integer.MIN_VALUE, Integer.MAX_VALUE}) {
            Check.due("type(" + character + ")", x.type(character), SpilledGroups.INVALID_ARGUMENT);
        }
        Check.due("type(32)", x.type(32), 1);
        Check.due("type(126)", x.type(126), 2);
        for (int i = 3; i <= 60; i++) {
            Check.due("type", x.type('7'), i);
        }
        Check.due("type of 61", x.type('7'), SpilledGroups.LIMIT_REACHED);
        Check.due("type of 61, wrong", x.type(127), SpilledGroups.INVALID_ARGUMENT);
        Check.due("length", x.count(4), 60);
        Check.due("states", x.count(3), 0);
    }

    private static void promise19ClearText() {
        SpilledGroups x = new SpilledGroups();
        Check.due("clearText() of none", x.clearText(), 0);
        Check.type(x, "1=1;");
        Check.due("clearText()", x.clearText(), 4);
        Check.due("length", x.count(4), 0);
        Check.due("clearText() again", x.clearText(), 0);
        Check.due("states", x.count(3), 0);
        Check.due("play()", x.play(), 0);
        Check.type(x, "2=2;");
        Check.due("play() of the new text", x.play(), 1);
        Check.due("key", x.rowOf(0, 0), 2);
    }

    private static void dueFault(SpilledGroups x, String text, int position, int reason, int cause) {
        x.clearText();
        Check.type(x, text);
        Check.due("fault(0) of " + text, x.fault(0), position);
        Check.due("fault(1) of " + text, x.fault(1), reason);
        Check.due("fault(2) of " + text, x.fault(2), cause);
    }

    private static void promise20FaultForm() {
        SpilledGroups x = new SpilledGroups();
        for (String right : new String[] {"", "0=0;", "9999=999;", "0000=-000;", "1=-999;2=3;", "12=34;567=8;", "001=09;"}) {
            dueFault(x, right, NONE, NONE, NONE);
        }
        dueFault(x, ";", 0, 1, 0);
        dueFault(x, "=1;", 0, 1, 0);
        dueFault(x, "-1=1;", 0, 1, 0);
        dueFault(x, " 1=1;", 0, 1, 0);
        dueFault(x, "a", 0, 1, 0);
        dueFault(x, "1;", 0, 1, 1);
        dueFault(x, "12 =1;", 0, 1, 2);
        dueFault(x, "12345=1;", 0, 1, 4);
        dueFault(x, "1=;", 0, 1, 2);
        dueFault(x, "1=+1;", 0, 1, 2);
        dueFault(x, "1=-;", 0, 1, 3);
        dueFault(x, "1=--1;", 0, 1, 3);
        dueFault(x, "1=1-;", 0, 1, 3);
        dueFault(x, "1=1000;", 0, 1, 5);
        dueFault(x, "1=-0001;", 0, 1, 6);
        dueFault(x, "1234=-5678", 0, 1, 9);
        dueFault(x, "1=/;", 0, 1, 2);
        dueFault(x, "1=:;", 0, 1, 2);
        // Texts that end too early: the length of the row.
        dueFault(x, "1", 0, 1, 1);
        dueFault(x, "1234", 0, 1, 4);
        dueFault(x, "1=", 0, 1, 2);
        dueFault(x, "1=-", 0, 1, 3);
        dueFault(x, "1=-999", 0, 1, 6);
        // Behind other rows, and the first one of several.
        dueFault(x, "1=1;2=2;3", 8, 1, 1);
        dueFault(x, "1=1;;2=2;", 4, 1, 0);
        dueFault(x, "1=1; 2=2;", 4, 1, 0);
        dueFault(x, "1=1;22=x;y", 4, 1, 3);
        dueFault(x, "1=1;1=1;1=1;1=1;1=1;1=1;1=1;1=1;1=1;1=1;1=1;1=1;1=1;1=1;1=1;", NONE, NONE, NONE);
    }

    private static void promise20FaultRoom() {
        SpilledGroups x = Examples.unlike(98);
        dueFault(x, "1=1;2=2;", NONE, NONE, NONE);
        dueFault(x, "1=1;2=2;3=3;", 8, 2, 2);
        dueFault(x, "11=1;22=2;33=3;44=4;", 10, 2, 2);
        // A row that is not of the form is no row that finds 100.
        dueFault(x, "1=1;2=2;3=3", 8, 1, 3);
        dueFault(x, "1=1;2=2;3=3;x", 8, 2, 2);
        dueFault(x, "1=1;x;3=3;4=4;", 4, 1, 0);
        x.row(1, 1);
        dueFault(x, "1=1;2=2;", 4, 2, 1);
        x.row(1, 1);
        dueFault(x, "1=1;", 0, 2, 0);
        dueFault(x, "1=1", 0, 1, 3);
        dueFault(x, "", NONE, NONE, NONE);
        Check.type(x, "7=7;");
        Check.due("reason with 100 rows", x.fault(1), 2);
        x.drop(0);
        Check.due("no fault with 99 rows", x.fault(1), NONE);
    }

    private static void promise20FaultWrong() {
        SpilledGroups x = new SpilledGroups();
        Check.type(x, "x");
        for (int what : new int[] {-1, 3, Integer.MIN_VALUE, Integer.MAX_VALUE}) {
            Check.due("fault(" + what + ")", x.fault(what), SpilledGroups.INVALID_ARGUMENT);
        }
        x.clearText();
        Check.due("fault(3) without a fault", x.fault(3), SpilledGroups.INVALID_ARGUMENT);
    }

    private static void promise21Play() {
        SpilledGroups x = Check.withRows(4, 4);
        Check.type(x, "0012=-05;9999=999;0=-0;12=7;");
        Check.due("play()", x.play(), 5);
        int[][] rows = {{4, 4}, {12, -5}, {9999, 999}, {0, 0}, {12, 7}};
        for (int i = 0; i < rows.length; i++) {
            Check.due("key of " + i, x.rowOf(i, 0), rows[i][0]);
            Check.due("value of " + i, x.rowOf(i, 1), rows[i][1]);
        }
        Check.due("the text stays", x.count(4), 28);
        Check.due("groups", x.total(0), 4);
        Check.due("play() again", x.play(), 9);
        SpilledGroups y = Examples.unlike(85);
        Check.type(y, "1=1;1=1;1=1;1=1;1=1;1=1;1=1;1=1;1=1;1=1;1=1;1=1;1=1;1=1;1=1;");
        Check.due("play() up to 100", y.play(), 100);
        Check.due("play() beyond", y.play(), SpilledGroups.NOT_POSSIBLE);
    }

    private static void promise21PlayIsOneChange() {
        SpilledGroups x = new SpilledGroups();
        Check.due("play() of nothing", x.play(), 0);
        Check.due("states", x.count(3), 1);
        Check.type(x, "1=1;2=2;3=3;");
        Check.due("play()", x.play(), 3);
        Check.due("states", x.count(3), 2);
        Check.due("undo()", x.undo(), 1);
        Check.due("rows", x.count(0), 0);
    }

    private static void promise21PlayWithFault() {
        SpilledGroups x = Examples.unlike(98);
        Check.type(x, "1=1;2=2;3=3;");
        Check.due("play() without room", x.play(), SpilledGroups.NOT_POSSIBLE);
        Check.due("rows", x.count(0), 98);
        x.clear();
        x.clearText();
        Check.type(x, "1=1;2");
        Check.due("play() of a broken text", x.play(), SpilledGroups.NOT_POSSIBLE);
        Check.due("rows", x.count(0), 0);
        x.undo();
        Check.due("rows", x.count(0), 98);
    }
}
