/** Promises 1 to 7 and 11: the land, what is on it, mended and asked. */
public final class LandTest {
    private static final Due DUE = new Due("LandTest");

    public static void main(String[] args) {
        newObject();
        fields();
        fallsAndCries();
        fallsFromRows();
        mended();
        cells();
        DUE.end();
    }

    private static void newObject() {
        FellInField x = new FellInField();
        for (int what = 0; what <= 6; what++) {
            DUE.is("new count(" + what + ")", x.count(what), 0);
        }
        DUE.is("new trace(0)", x.trace(0), -1);
        DUE.is("new back()", x.back(), -5);
        for (int shelf = 0; shelf < 6; shelf++) {
            DUE.is("new taken", x.taken(shelf, 0), -11);
        }
        FellInField other = new FellInField();
        other.field(0, 101);
        DUE.is("objects are apart", x.count(0), 0);
    }

    private static void fields() {
        FellInField x = new FellInField();
        int[][] bad = {{-1, 101}, {400, 101}, {0, 0}, {0, -101}, {0, 1}, {0, 100}, {0, 121}, {0, 2101}, {0, 99},
            {Integer.MIN_VALUE, 101}, {0, Integer.MAX_VALUE}, {0, Integer.MIN_VALUE}};
        for (int[] b : bad) {
            DUE.is("field(" + b[0] + ", " + b[1] + ")", x.field(b[0], b[1]), -1);
        }
        DUE.is("no field came", x.count(0), 0);
        for (int i = 0; i < 8; i++) {
            DUE.is("field", x.field(20 * i + 19 - i, 100 * (i + 1) + 20 - i), i);
        }
        DUE.is("FULL", x.field(0, 101), -3);
        DUE.is("BAD ahead of FULL", x.field(400, 101), -1);
        for (int i = 0; i < 8; i++) {
            DUE.is("X", x.of(i, 0), 19 - i);
            DUE.is("Y", x.of(i, 1), i);
            DUE.is("WIDE", x.of(i, 2), i + 1);
            DUE.is("DEEP", x.of(i, 3), 20 - i);
            DUE.is("OWNER", x.of(i, 4), -1);
            DUE.is("PRICE", x.of(i, 5), 10);
        }
        DUE.is("of beyond", x.of(8, 0), -2000000000);
        DUE.is("of below", x.of(-1, 0), -2000000000);
    }

    private static void fallsAndCries() {
        FellInField x = new FellInField();
        DUE.is("fall(-1, 0)", x.fall(-1, 0), -1);
        DUE.is("fall(400, 0)", x.fall(400, 0), -1);
        DUE.is("fall(0, -1)", x.fall(0, -1), -1);
        DUE.is("fall(0, 1000)", x.fall(0, 1000), -1);
        DUE.is("cry(-1, 0)", x.cry(-1, 0), -1);
        DUE.is("cry(6, 0)", x.cry(6, 0), -1);
        DUE.is("cry(0, -1)", x.cry(0, -1), -1);
        DUE.is("cry(0, 1000)", x.cry(0, 1000), -1);
        for (int i = 0; i < 10; i++) {
            DUE.is("fall", x.fall(399 - i, 999 - i), i);
        }
        for (int i = 0; i < 12; i++) {
            DUE.is("cry", x.cry(i % 6, 999 - i), i);
        }
        DUE.is("FULL falls", x.fall(0, 0), -3);
        DUE.is("BAD ahead of FULL falls", x.fall(0, 1000), -1);
        DUE.is("FULL cries", x.cry(0, 0), -3);
        DUE.is("BAD ahead of FULL cries", x.cry(6, 0), -1);
        DUE.is("falls", x.count(1), 10);
        DUE.is("cries", x.count(2), 12);
        int[] fall = {10, 19, 990, 0};
        int[] cry = {5, 988, 0, 5};
        for (int i = 0; i < 4; i++) {
            DUE.is("of fall 9", x.of(9, 6 + i), fall[i]);
            DUE.is("of cry 11", x.of(11, 10 + i), cry[i]);
        }
        DUE.is("not found", x.of(9, 14), 0);
        DUE.is("no such fall", x.of(10, 14), -2000000000);
        DUE.is("no such what", x.of(0, 15), -2000000000);
        DUE.is("no such what", x.of(0, -1), -2000000000);
    }

    private static void fallsFromRows() {
        FellInField x = new FellInField();
        DUE.is("missing row", x.falls(0, 0, 1), 0);
        DUE.is("no such shelf", x.falls(-1, 0, 1), -1);
        DUE.is("no such shelf", x.falls(6, 0, 1), -1);
        DUE.is("n 0", x.falls(0, 0, 0), -1);
        DUE.is("n 11", x.falls(0, 0, 11), -1);
        x.body(0);
        x.keep(0, 0);
        DUE.is("a body", x.falls(0, 0, 1), -12);
        DUE.is("BAD ahead of -12", x.falls(0, 0, 11), -1);
        DUE.is("-12 with i below 0", x.falls(0, -1, 1), -12);
        for (int sort = 0; sort < 5; sort++) {
            x.row(1, sort, 6);
            DUE.is("falls of sort " + sort, x.falls(1, 0, 1), sort == 1 ? 1 : -12);
        }
        Due.fill(x, 1, 1, 9, 1, 2, 3, 19, 0, 999, 4, 4);
        DUE.is("i below 0", x.falls(1, -1, 1), 0);
        DUE.is("i least", x.falls(1, Integer.MIN_VALUE, 10), 0);
        DUE.is("i at the end", x.falls(1, 9, 1), 0);
        DUE.is("i most", x.falls(1, Integer.MAX_VALUE, 10), 0);
        DUE.is("only n", x.falls(1, 0, 1), 1);
        DUE.is("ends within a three", x.falls(1, 1, 10), 2);
        DUE.is("came", x.count(1), 4);
        DUE.is("X", x.of(2, 6), 1);
        DUE.is("Y", x.of(2, 7), 2);
        DUE.is("MINUTE", x.of(2, 8), 3);
        DUE.is("WHAT", x.of(2, 9), 0);
        DUE.is("MINUTE", x.of(3, 8), 999);
        long[][] wrong = {{-1, 0, 0}, {20, 0, 0}, {0, -1, 0}, {0, 20, 0}, {0, 0, -1}, {0, 0, 1000}};
        for (long[] w : wrong) {
            Due.fill(x, 1, 1, w);
            DUE.is("one is not as it may be", x.falls(1, 0, 1), 0);
        }
        Due.fill(x, 1, 1, 0, 0, 0, 20, 0, 0, 0, 0, 0);
        DUE.is("those ahead came", x.falls(1, 0, 3), 1);
        x.row(1, 1, 3);
        DUE.is("the row's very end", x.falls(1, 0, 1), 1);
        x.row(1, 1, 60);
        DUE.is("till FULL", x.falls(1, 0, 10), 4);
        DUE.is("FULL", x.falls(1, 0, 10), 0);
        DUE.is("ten", x.count(1), 10);
    }

    private static void mended() {
        int[] least = {0, 0, 1, 1, -1, 0, 0, 0, 0, 0, 0, 0, 0, 0};
        int[] most = {19, 19, 20, 20, 5, 99, 19, 19, 999, 3, 5, 999, 3, 9};
        FellInField x = new FellInField();
        for (int what = -1; what <= 15; what++) {
            DUE.is("mend of none", x.mend(0, what, 1), -2000000000);
        }
        x.field(0, 101);
        x.field(63, 203);
        x.fall(0, 0);
        x.fall(399, 7);
        x.cry(0, 0);
        x.cry(2, 8);
        for (int what = 0; what <= 13; what++) {
            int was = x.of(1, what);
            int other = x.of(0, what);
            DUE.is("too little", x.mend(1, what, least[what] - 1), -2000000000);
            DUE.is("too much", x.mend(1, what, most[what] + 1), -2000000000);
            DUE.is("no such number", x.mend(2, what, least[what]), -2000000000);
            DUE.is("no such number", x.mend(-1, what, least[what]), -2000000000);
            DUE.is("unchanged", x.of(1, what), was);
            DUE.is("mend to least", x.mend(1, what, least[what]), was);
            DUE.is("mend to most", x.mend(1, what, most[what]), least[what]);
            DUE.is("of mended", x.of(1, what), most[what]);
            DUE.is("the other stays", x.of(0, what), other);
        }
        DUE.is("no such what", x.mend(0, 14, 0), -2000000000);
        DUE.is("no such what", x.mend(0, -1, 0), -2000000000);
        DUE.is("no such what", x.mend(0, Integer.MAX_VALUE, 0), -2000000000);
    }

    private static void cells() {
        FellInField x = new FellInField();
        x.field(5 + 20 * 5, 302);
        x.field(6 + 20 * 5, 502);
        x.field(18 + 20 * 18, 2020);
        DUE.is("corner", x.at(5 + 20 * 5), 0);
        DUE.is("far corner", x.at(7 + 20 * 6), 0);
        DUE.is("below", x.at(7 + 20 * 7), -2);
        DUE.is("the least that has it", x.at(6 + 20 * 5), 0);
        DUE.is("the other", x.at(8 + 20 * 5), 1);
        DUE.is("its end", x.at(10 + 20 * 6), 1);
        DUE.is("behind it", x.at(11 + 20 * 6), -2);
        DUE.is("left of it", x.at(4 + 20 * 5), -2);
        DUE.is("last cell", x.at(399), 2);
        DUE.is("no wrap in X", x.at(20 * 19), -2);
        DUE.is("at(-1)", x.at(-1), -1);
        DUE.is("at(400)", x.at(400), -1);
        x.mend(0, 0, 6);
        DUE.is("moved", x.at(5 + 20 * 5), -2);
    }
}
