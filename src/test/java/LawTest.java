/** Promises 8 to 10: the tape, the law and how much a cry counts by it. */
public final class LawTest {
    private static final Due DUE = new Due("LawTest");

    public static void main(String[] args) {
        tape();
        withoutText();
        faults();
        values();
        lines();
        DUE.end();
    }

    private static void tape() {
        FellInField x = new FellInField();
        DUE.is("feed(-1)", x.feed(-1), -1);
        DUE.is("feed(256)", x.feed(256), -1);
        for (int i = 1; i <= 120; i++) {
            DUE.is("feed", x.feed(i == 1 ? '1' : i % 2 == 0 ? '+' : 'l'), i);
        }
        DUE.is("FULL", x.feed('1'), -3);
        DUE.is("BAD ahead of FULL", x.feed(256), -1);
        DUE.is("bytes", x.count(3), 120);
        DUE.is("ends too early at 120", x.law(), -220);
        DUE.is("empty then", x.count(3), 0);
        DUE.is("empty text", x.law(), -100);
        DUE.is("feed(0)", x.feed(0), 1);
        DUE.is("feed(255)", x.feed(255), 2);
        DUE.is("no such byte in a text", x.law(), -100);
        longText("1" + "+1".repeat(59), 60);
        longText("10" + "+1".repeat(59), 69);
        longText("-1" + "+1".repeat(59), 58);
        longText("0?2;".repeat(29) + "!!!7", 0);
        longText("1<2;".repeat(29) + "9999", 1);
    }

    private static void longText(String text, int counted) {
        FellInField x = new FellInField();
        x.fall(0, 0);
        x.cry(0, 0);
        DUE.is("law of " + text, Due.tell(x, text), 1);
        DUE.is("counted by " + text, x.counts(0), counted);
    }

    private static void withoutText() {
        FellInField x = new FellInField();
        DUE.is("no such fall, cry", x.counts(0), -2000000000);
        x.fall(0, 500);
        DUE.is("no such cry", x.counts(0), -2000000000);
        x.cry(0, 497);
        x.cry(1, 999);
        DUE.is("no such fall", x.counts(100), -2000000000);
        DUE.is("no such cry", x.counts(2), -2000000000);
        DUE.is("below 0", x.counts(-1), -2000000000);
        DUE.is("below 0", x.counts(-100), -2000000000);
        DUE.is("10 and l less d, and 3", x.counts(0), 15);
        DUE.is("0 or below", x.counts(1), 18 - 499);
        x.mend(0, 12, 1);
        DUE.is("w is not k", x.counts(0), 12);
        x.mend(0, 9, 1);
        DUE.is("w is k", x.counts(0), 15);
        x.field(0, 101);
        DUE.is("nobody's", x.counts(0), 15);
        x.mend(0, 4, 0);
        DUE.is("h", x.counts(0), 0);
        DUE.is("another's h", x.counts(1), 15 - 499);
        x.mend(0, 0, 1);
        DUE.is("in none", x.counts(0), 15);
    }

    private static void faults() {
        Object[][] due = {
            {"", 0}, {";", 0}, {"1;", 2}, {"1;;", 2}, {"?", 0}, {"1?", 2}, {"1?2?3", 3}, {"1?2;3?", 6}, {" 1", 0}, {"1 ", 1},
            {"12345", 4}, {"1234d", 4}, {"dd", 1}, {"d1", 1}, {"1d", 1}, {"x", 0}, {"D", 0}, {"1<2<3", 3}, {"1<2=3", 3},
            {"(1<2)<3<4", 7}, {"1<2&3<4|5=6>7", 11}, {"()", 1}, {"(1", 2}, {"(1))", 3}, {"(1;2)", 2}, {"(1?2)", 2},
            {"!", 1}, {"-", 1}, {"!)", 1}, {"1-", 2}, {"1--", 3}, {"1++1", 2}, {"1+-+1", 3}, {"*1", 0}, {"1**1", 2},
            {"1!", 1}, {"1(", 1}, {"d(1)", 1}, {"(1)1", 3}, {"(1)d", 3}, {"1&&1", 2}, {"|1", 0}, {"1||1", 2}, {"1<", 2},
            {"1<=2", 2}, {"((((((1", 7}, {"(((((((1)))))))", 6}, {"!!!!!!!1", 6}, {"-------1", 6}, {"!-(!-(!1))", 6},
            {"((((((1))))))+(((((((1", 20}, {"1--------1", 8}, {"((((((-1", 6}, {"1.0", 1}, {"1,2", 1}, {"1\0", 1},
        };
        for (Object[] d : due) {
            FellInField x = new FellInField();
            x.fall(0, 0);
            x.cry(0, 0);
            DUE.is("law of " + d[0], Due.tell(x, (String) d[0]), -100 - (Integer) d[1]);
            DUE.is("empty then", x.count(3), 0);
            DUE.is("no law yet", x.counts(0), 18);
            Due.tell(x, "7");
            Due.tell(x, (String) d[0]);
            DUE.is("the former law stays", x.counts(0), 7);
        }
    }

    private static void values() {
        // d 3, w 2, k 1, l 9, h 1, s 0
        Object[][] due = {
            {"d", 3}, {"w", 2}, {"k", 1}, {"l", 9}, {"h", 1}, {"s", 0}, {"0009", 9}, {"9999", 9999}, {"1+2*3", 7}, {"(1+2)*3", 9},
            {"9-3-2", 4}, {"8/2/2", 2}, {"7/2", 3}, {"-7/2", -3}, {"7/-2", -3}, {"-7%3", -1}, {"7%-3", 1}, {"1/0", 0}, {"7%0", 0},
            {"1/(l-9)+5", 5}, {"!0", 1}, {"!5", 0}, {"!!5", 1}, {"--5", 5}, {"-!0", -1}, {"!-1", 0}, {"-2*3", -6}, {"2*-3", -6},
            {"!0+1", 2}, {"!0*5", 5}, {"5&7", 1}, {"5&0", 0}, {"0|0", 0}, {"0|9", 1}, {"1|0&0", 1}, {"(1|0)&0", 0}, {"2=1+1", 1},
            {"1<2", 1}, {"2<2", 0}, {"2>1", 1}, {"2>2", 0}, {"3=3&2=2", 1}, {"1+1<1+2", 1}, {"1|1+1", 1}, {"2-(3<4)", 1},
            {"9999*9999*9999", 9999 * 9999 * 9999}, {"9999*9999*22", 9999 * 9999 * 22},
            {"8*8*8*8*8*8*8*8*8*8*2+0", -2147483648}, {"(8*8*8*8*8*8*8*8*8*8*2)/-1", -2147483648},
            {"(8*8*8*8*8*8*8*8*8*8*2)%-1", 0}, {"-(8*8*8*8*8*8*8*8*8*8*2)", -2147483648}, {"8*8*8*8*8*8*8*8*8*8*2-1", 2147483647},
            {"!-!-!-0", 1}, {"((((((d))))))", 3}, {"1-!!!!!!1", 0}, {"10+l-d+3*(w=k)-h", 15}, {"-d", -3}, {"0-9999*9999", -99980001},
        };
        for (Object[] d : due) {
            FellInField x = new FellInField();
            x.field(0, 101);
            x.mend(0, 4, 4);
            x.fall(0, 10);
            x.mend(0, 9, 2);
            x.cry(4, 13);
            x.mend(0, 12, 1);
            x.mend(0, 13, 9);
            DUE.is("law of " + d[0], Due.tell(x, (String) d[0]), 1);
            DUE.is(d[0].toString(), x.counts(0), (Integer) d[1]);
        }
        FellInField x = new FellInField();
        x.fall(0, 10);
        x.cry(0, 9);
        x.cry(0, 10);
        x.cry(0, 11);
        Due.tell(x, "10*d+s");
        DUE.is("ahead", x.counts(0), 11);
        DUE.is("in the same minute", x.counts(1), 0);
        DUE.is("behind", x.counts(2), 10);
    }

    private static void lines() {
        Object[][] due = {
            {"0?1", 0}, {"1?7", 7}, {"-1?7", 7}, {"0?1;5", 5}, {"0?1;0?2;3", 3}, {"0?1;1?2;3", 2}, {"5;6", 5}, {"0;6", 0},
            {"d?l;9", 9}, {"d=0?l;9", 5}, {"0?1;0?2", 0}, {"1?0;6", 0}, {"1&1?1|0;3", 1}, {"-3;4", -3},
            {"!!!!!!1?((((((4))))));5", 4}, {"!!!!!1?1;0?1;!!!!!!5", 1},
        };
        for (Object[] d : due) {
            FellInField x = new FellInField();
            x.fall(0, 10);
            x.cry(0, 10);
            DUE.is("law of " + d[0], Due.tell(x, (String) d[0]), 1);
            DUE.is(d[0].toString(), x.counts(0), (Integer) d[1]);
        }
    }
}
