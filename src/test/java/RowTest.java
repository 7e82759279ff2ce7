import java.util.ArrayList;
import java.util.Collections;
import java.util.List;

/** Promises 16 to 21: the reckoning with rows. */
public final class RowTest {
    private static final Due DUE = new Due("RowTest");
    private static final long[] NO_ROWS_OF_SIX = {
        0, -1, Long.MIN_VALUE, Long.MAX_VALUE, Due.code("12345"), Due.code("1234567"), Due.code("123455"),
        Due.code("123457"), Due.code("-12345"), Due.code("123-56"), Due.code("123456") | 1L << 62,
        Due.code("123456") | Long.MIN_VALUE, 0xF65432L
    };

    public static void main(String[] args) {
        change();
        numbers();
        allNumbers();
        product();
        inverse();
        order();
        noRows();
        DUE.close();
    }

    private static void change() {
        RingingChamber x = new RingingChamber();
        long rounds = Due.code("123456");
        DUE.asks(x, "16 x", x.change(rounds, 21), Due.code("214365"), 0);
        DUE.asks(x, "16 none", x.change(rounds, 0), rounds, 0);
        DUE.asks(x, "16 last", x.change(Due.code("654321"), 16), Due.code("654312"), 0);
        DUE.asks(x, "16 inner", x.change(Due.code("214365"), 10), Due.code("241635"), 0);
        int[] none = {-1, 3, 6, 7, 32, 33, 12, 24, Integer.MIN_VALUE, Integer.MAX_VALUE};
        for (int change : none) {
            DUE.asks(x, "16 no CHANGE " + change, x.change(rounds, change), 0, 8);
        }
        DUE.asks(x, "16 no row", x.change(0, 0), 0, 8);
        x.bells(12);
        DUE.asks(x, "16 twelve", x.change(Due.code("1234567890ET"), 1024), Due.code("1234567890TE"), 0);
        DUE.asks(x, "16 above twelve", x.change(Due.code("1234567890ET"), 2048), 0, 8);
    }

    private static void numbers() {
        RingingChamber x = new RingingChamber();
        DUE.asks(x, "17 ROUNDS", x.number(Due.code("123456")), 0, 0);
        DUE.asks(x, "17 next", x.number(Due.code("123465")), 1, 0);
        DUE.asks(x, "17 last", x.number(Due.code("654321")), 719, 0);
        DUE.asks(x, "17 bell 2 first", x.number(Due.code("213456")), 120, 0);
        DUE.asks(x, "18 ROUNDS", x.ofNumber(0), Due.code("123456"), 0);
        DUE.asks(x, "18 last", x.ofNumber(719), Due.code("654321"), 0);
        int[] none = {-1, 720, Integer.MAX_VALUE, Integer.MIN_VALUE};
        for (int number : none) {
            DUE.asks(x, "18 none " + number, x.ofNumber(number), 0, 2);
        }
        x.bells(12);
        DUE.asks(x, "17 twelve", x.number(Due.code("TE0987654321")), 479001599, 0);
        DUE.asks(x, "18 twelve", x.ofNumber(479001599), Due.code("TE0987654321"), 0);
        DUE.asks(x, "18 beyond twelve", x.ofNumber(479001600), 0, 2);
        DUE.asks(x, "18 the greatest", x.ofNumber(Integer.MAX_VALUE), 0, 2);
        x.bells(4);
        DUE.asks(x, "18 beyond four", x.ofNumber(24), 0, 2);
        DUE.asks(x, "17 of six on four", x.number(Due.code("123456")), -1, 8);
    }

    /** All rows of up to six bells, sorted as words, have the numbers in order. */
    private static void allNumbers() {
        for (int n = 4; n <= 6; n++) {
            List<String> rows = new ArrayList<>();
            arrange("", "123456".substring(0, n), rows);
            Collections.sort(rows);
            RingingChamber x = null;
            for (int i = 0; i < rows.size(); i++) {
                if (i % 200 == 0) {
                    x = new RingingChamber();
                    x.bells(n);
                }
                DUE.is("17 number of " + rows.get(i), x.number(Due.code(rows.get(i))), i);
                DUE.is("18 row of " + i, x.ofNumber(i), Due.code(rows.get(i)));
            }
        }
    }

    private static void arrange(String row, String left, List<String> rows) {
        if (left.isEmpty()) {
            rows.add(row);
        }
        for (int i = 0; i < left.length(); i++) {
            arrange(row + left.charAt(i), left.substring(0, i) + left.substring(i + 1), rows);
        }
    }

    private static void product() {
        RingingChamber x = new RingingChamber();
        x.bells(4);
        DUE.asks(x, "19 product", x.product(Due.code("2341"), Due.code("2134")), Due.code("3241"), 0);
        DUE.asks(x, "19 the other way", x.product(Due.code("2134"), Due.code("2341")), Due.code("1342"), 0);
        DUE.asks(x, "19 ROUNDS", x.product(Due.code("4213"), Due.code("1234")), Due.code("4213"), 0);
        DUE.asks(x, "19 a none", x.product(0, Due.code("1234")), 0, 8);
        DUE.asks(x, "19 b none", x.product(Due.code("1234"), Due.code("1233")), 0, 8);
        x.bells(12);
        long back = Due.code("TE0987654321");
        DUE.asks(x, "19 twelve", x.product(back, back), Due.code("1234567890ET"), 0);
    }

    private static void inverse() {
        RingingChamber x = new RingingChamber();
        DUE.asks(x, "20 inverse", x.inverse(Due.code("234561")), Due.code("612345"), 0);
        DUE.asks(x, "20 none", x.inverse(-1), 0, 8);
        for (int i = 0; i < 720; i += 7) {
            long row = x.ofNumber(i);
            DUE.is("20 product with it", x.product(x.inverse(row), row), Due.code("123456"));
        }
        x.bells(12);
        DUE.asks(x, "20 twelve", x.inverse(Due.code("234567890ET1")), Due.code("T1234567890E"), 0);
    }

    private static void order() {
        RingingChamber x = new RingingChamber();
        DUE.asks(x, "21 ROUNDS", x.order(Due.code("123456")), 1, 0);
        DUE.asks(x, "21 x", x.order(Due.code("214365")), 2, 0);
        DUE.asks(x, "21 three and two", x.order(Due.code("231546")), 6, 0);
        DUE.asks(x, "21 round", x.order(Due.code("234561")), 6, 0);
        DUE.asks(x, "21 none", x.order(Due.code("234566")), 0, 8);
        x.bells(12);
        DUE.asks(x, "21 three, four and five", x.order(Due.code("231567490ET8")), 60, 0);
        DUE.asks(x, "21 twelve", x.order(Due.code("234567890ET1")), 12, 0);
        DUE.asks(x, "21 five and seven", x.order(Due.code("234517890ET6")), 35, 0);
    }

    private static void noRows() {
        RingingChamber x = new RingingChamber();
        for (long code : NO_ROWS_OF_SIX) {
            String shown = Long.toHexString(code);
            DUE.asks(x, "16 " + shown, x.change(code, 0), 0, 8);
            DUE.asks(x, "17 " + shown, x.number(code), -1, 8);
            DUE.asks(x, "19 " + shown, x.product(code, code), 0, 8);
            DUE.asks(x, "20 " + shown, x.inverse(code), 0, 8);
            DUE.asks(x, "21 " + shown, x.order(code), 0, 8);
            DUE.is("35 " + shown, x.fits(code, 0), false);
        }
    }
}
