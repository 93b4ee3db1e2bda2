import java.util.ArrayList;
import java.util.List;

/** Calls that together tell all that an object holds, in groups of at most 240: an object is used up by one group. */
final class Probes {
    static final List<List<Call>> GROUPS = List.of(plain(), elements(0), elements(3), held(), redone(), undone(), laidBack(), told());

    private Probes() {
    }

    private static List<Call> plain() {
        List<Call> calls = new ArrayList<>();
        for (int what = 0; what <= 6; what++) {
            calls.add(Call.of("count", what));
        }
        for (int i = 0; i <= 24; i++) {
            calls.add(Call.of("trace", i));
        }
        numbers(calls);
        led(calls);
        return calls;
    }

    private static void numbers(List<Call> calls) {
        for (int number = 0; number < 12; number++) {
            for (int what = number < 8 ? 0 : number < 10 ? 6 : 10; what <= 13; what++) {
                if (what < 6 || what > 9 || number < 10) {
                    calls.add(Call.of("of", number, what));
                }
            }
        }
    }

    private static void led(List<Call> calls) {
        for (int what = 0; what < 4; what++) {
            calls.add(Call.of("led", what));
        }
        for (int a = 0; a < 6; a++) {
            for (int b = 0; b < 6; b++) {
                calls.add(Call.of("led", 100 + 10 * a + b));
            }
        }
        for (int fall = 0; fall < 10; fall++) {
            calls.add(Call.of("of", fall, 14));
        }
    }

    private static List<Call> elements(int first) {
        List<Call> calls = new ArrayList<>();
        for (int shelf = first; shelf < first + 3; shelf++) {
            for (int i = 0; i < 60; i++) {
                calls.add(Call.of("element", shelf, i));
            }
        }
        return calls;
    }

    /** What shelves hold, of which sort and how long, and which kinds the bodies are of. */
    private static List<Call> held() {
        List<Call> calls = new ArrayList<>();
        for (int shelf = 0; shelf < 6; shelf++) {
            for (int k = 0; k < 8; k++) {
                calls.add(Call.of("taken", shelf, k));
            }
            for (int other = 0; other < 6; other++) {
                calls.add(Call.of("shift", shelf, 0, other, 0, 0));
            }
            calls.add(Call.of("put", shelf, 0, 0x0123456789abcdefL));
            calls.add(Call.of("element", shelf, 0));
        }
        for (int n = 0; n < 50; n++) {
            calls.add(Call.of("act", n, 0, 5));
            calls.add(Call.of("act", n, 3, 5));
        }
        return calls;
    }

    private static List<Call> redone() {
        List<Call> calls = new ArrayList<>();
        for (int i = 0; i <= 40; i++) {
            calls.add(Call.of("redo()"));
        }
        numbers(calls);
        return calls;
    }

    private static List<Call> undone() {
        List<Call> calls = new ArrayList<>();
        for (int i = 0; i <= 40; i++) {
            calls.add(Call.of("undo()"));
        }
        numbers(calls);
        return calls;
    }

    private static List<Call> laidBack() {
        List<Call> calls = new ArrayList<>();
        calls.add(Call.of("back()"));
        led(calls);
        for (int field = 0; field < 8; field++) {
            calls.add(Call.of("of", field, 4));
        }
        counted(calls);
        return calls;
    }

    /** By the law as it is, and by what is on the tape. */
    private static List<Call> told() {
        List<Call> calls = new ArrayList<>();
        counted(calls);
        calls.add(Call.of("law()"));
        counted(calls);
        return calls;
    }

    private static void counted(List<Call> calls) {
        for (int fall = 0; fall < 10; fall++) {
            for (int cry = 0; cry < 12; cry++) {
                calls.add(Call.of("counts", 100 * fall + cry));
            }
        }
    }
}
