/** Promise 44: count. */
public final class CountTest {
    private static final Due DUE = new Due("CountTest");

    public static void main(String[] args) {
        FellInField x = new FellInField();
        x.field(0, 101);
        for (int i = 0; i < 2; i++) {
            x.fall(0, 0);
        }
        for (int i = 0; i < 3; i++) {
            x.cry(0, 0);
        }
        for (int i = 0; i < 4; i++) {
            x.feed('1');
        }
        for (int i = 1; i <= 5; i++) {
            x.mend(0, 5, i);
        }
        for (int i = 0; i < 6; i++) {
            x.body(7);
        }
        x.act(5, 3, 1);
        int[] due = {1, 2, 3, 4, 5, 6, 8};
        for (int what = 0; what < due.length; what++) {
            DUE.is("count(" + what + ")", x.count(what), due[what]);
        }
        for (int what : new int[] {-1, 7, Integer.MAX_VALUE, Integer.MIN_VALUE}) {
            DUE.is("count(" + what + ")", x.count(what), -1);
        }
        x.undo();
        DUE.is("undone", x.count(4), 4);
        DUE.end();
    }
}
