/** Promises 12 to 15: degree, vector, line, lines. */
final class LinesTest {
    public static void main(String[] args) {
        Check check = new Check();
        degrees(check);
        vectors(check);
        oneLine(check);
        severalLines(check);
        check.end();
    }

    private static void degrees(Check check) {
        SkyStones x = new SkyStones();
        int[][] due = {{0, 1, 0}, {0, 9999, 0}, {1, 3, 15}, {1, 1, 45}, {3, 1, 75}, {1, 0, 90}, {3, -1, 105},
            {1, -1, 135}, {1, -3, 165}, {0, -1, 180}, {-1, -3, 195}, {-1, -1, 225}, {-3, -1, 255}, {-1, 0, 270},
            {-3, 1, 285}, {-1, 1, 315}, {-1, 3, 345}, {-1, 45, 359}, {-1, 46, 0}, {1, 46, 0}, {46, 1, 90}, {46, -1, 90},
            {1, -46, 180}, {-1, -46, 180}, {-46, -1, 270}, {-46, 1, 270}, {9999, 9998, 46}, {-9999, -9999, 225},
            {7, 10, 31}, {10, 7, 59}};
        for (int[] row : due) {
            check.due("degree " + row[0] + " " + row[1], x.degree(row[0], row[1]), row[2]);
        }
        check.due("both 0", x.degree(0, 0), -1);
        check.due("east above", x.degree(10000, 1), -1);
        check.due("east below", x.degree(-10000, 1), -1);
        check.due("north above", x.degree(1, 10000), -1);
        check.due("north below", x.degree(1, -10000), -1);
        check.due("far below", x.degree(Integer.MIN_VALUE, 0), -1);
    }

    private static void vectors(Check check) {
        SkyStones x = new SkyStones();
        int[][] due = {{0, 0, 45}, {45, 45, 45}, {46, 45, 44}, {90, 45, 0}, {91, 45, -1}, {135, 45, -45},
            {136, 44, -45}, {180, 0, -45}, {181, -1, -45}, {225, -45, -45}, {226, -45, -44}, {270, -45, 0},
            {271, -45, 1}, {315, -45, 45}, {316, -44, 45}, {359, -1, 45}};
        for (int[] row : due) {
            check.due("east of " + row[0], x.vector(row[0], 0), row[1]);
            check.due("north of " + row[0], x.vector(row[0], 1), row[2]);
        }
        for (int degree = 0; degree < 360; degree++) {
            check.due("DEGREE of VECTOR " + degree, x.degree(x.vector(degree, 0), x.vector(degree, 1)), degree);
        }
        check.due("no DEGREE", x.vector(360, 0), -100);
        check.due("below", x.vector(-1, 0), -100);
        check.due("no what", x.vector(0, 2), -100);
        check.due("what below", x.vector(0, -1), -100);
    }

    private static void row(Check check, SkyStones x, int line, int n, int... due) {
        for (int what = 0; what < due.length; what++) {
            check.due("line " + line + " what " + what + " n " + n, x.line(line, what, n), due[what]);
        }
    }

    private static void oneLine(Check check) {
        SkyStones x = Check.told("stone a 100 100 500;hole b 130 110 200;hole c 100 90 800;"
            + "door a b;door c b;door b c;count if stones==1 and gap==300;");
        row(check, x, 1, 0, 75, 300, 30, 1, 1, 0, 200, 1);
        row(check, x, 14, 0, 255, 300, 30, 1, 0, 1, 200, 1);
        row(check, x, 2, 0, 180, 300, 10, 1, 0, 0, 500, 1);
        row(check, x, 28, 0, 0, 300, 10, 1, 0, 0, 500, 1);
        row(check, x, 16, 0, 240, 600, 30, 0, 1, 1, 200, 0);
        check.due("to itself", x.line(0, 0, 0), -1);
        check.due("to itself", x.line(15, 0, 0), -1);
        check.due("no THING", x.line(3, 0, 0), -1);
        check.due("below", x.line(-1, 0, 0), -1);
        check.due("beyond", x.line(196, 0, 0), -1);
        check.due("no what", x.line(1, 8, 0), -1);
        check.due("what below", x.line(1, -1, 0), -1);
        check.due("no n", x.line(1, 0, 1), -1);
        check.due("n below", x.line(1, 0, -1), -1);
        x.move(1, 100, 101);
        x.date(1, 500);
        x.gone(2);
        row(check, x, 1, 1, 0, 300, 1, 1, 1, 0, 200, 1);
        row(check, x, 1, 2, 0, 0, 1, 1, 1, 0, 500, 0);
        row(check, x, 16, 3, -1, -1, -1, -1, -1, -1, -1, -1);
        x.move(1, 100, 100);
        row(check, x, 1, 4, -1, -1, -1, -1, -1, -1, -1, -1);
    }

    private static void severalLines(Check check) {
        SkyStones x = Check.told("stone a 0 0 0;stone b 0 1 0;hole c 0 2 0;hole d 0 3 0;"
            + "count if stones==2;count if stones==0;count if degree==0 and far==1;");
        check.due("all", x.lines(false, 0), 12);
        check.due("that COUNT", x.lines(true, 0), 2 + 2 + 1);
        check.due("no n", x.lines(false, 1), -1);
        check.due("n below", x.lines(true, -1), -1);
        x.gone(3);
        check.due("all but d's", x.lines(false, 1), 6);
        check.due("that COUNT", x.lines(true, 1), 3);
        x.move(2, 0, 1);
        check.due("none at one place", x.lines(false, 2), 4);
        SkyStones y = Check.told("stone a 0 0 0;hole b 0 1 0;");
        check.due("without RULES", y.lines(true, 0), 2);
    }
}
