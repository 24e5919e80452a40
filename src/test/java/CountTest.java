/** Promise 36: count. */
public final class CountTest {
    public static void main(String[] args) {
        all();
        variety();
        merit();
        Check.finish();
    }

    private static void all() {
        PassagePicker picker = Samples.picker();
        picker.choose(2);
        picker.write(10);
        int[] due = {65, 65, 15, 4, 4, 6, 200, 3, 60, 4, 12, 131, 16, 15, 96};
        for (int what = 0; what < due.length; what++) {
            Check.equal("count(" + what + ")", picker.count(what), due[what]);
        }
        for (int what : new int[] {-1, 15, 100, Integer.MIN_VALUE, Integer.MAX_VALUE}) {
            Check.equal("count(" + what + ")", picker.count(what), -1);
        }
        PassagePicker pairs = new PassagePicker();
        Check.page(pairs, "\u00c3\u00a9 \u00c3\u00a9");
        Check.equal("bytes", pairs.count(0), 5);
        Check.equal("signs", pairs.count(1), 3);
        Check.equal("unlike words", pairs.count(10), 1);
    }

    private static void variety() {
        PassagePicker picker = Samples.picker();
        int[][] due = {{28, 15}, {27, 13}, {14, 13}, {13, 14}, {0, 14}, {100, 15}};
        for (int[] row : due) {
            picker.tell(2, row[0]);
            Check.equal("VARIETY by " + row[0], picker.count(13), row[1]);
        }
        picker.tell(0, 20);
        picker.tell(1, 1);
        Check.equal("BUDGET and MOST aside", picker.count(13), 15);
        PassagePicker late = Check.picker("aa bb. aa cc. bb dd. cc dd.", "");
        late.tell(2, 0);
        Check.equal("the least bits, found later", late.count(13), 6);
        Check.equal("one of like ones", Check.picker("aa. aa! aa?", "").count(13), 1);
        Check.equal("fourteen", Check.picker("1. 2. 3. 4. 5. 6. 7. 8. 9. 1. 2. 3. 4. 5. 6.", "").count(13), 16383);
    }

    private static void merit() {
        PassagePicker picker = Samples.picker();
        picker.tell(1, 2);
        Check.equal("greedy is best", picker.count(14), 100);
        Check.query(picker, "");
        Check.equal("nothing sought", picker.count(14), 100);
        // Step by step aa comes first as the shortest, though the other two are worth more together.
        PassagePicker less = Check.picker("aa. bb 12345. cc 12345.", "item 8 aa; item 9 bb; item 9 cc;");
        less.tell(1, 2);
        Check.equal("170 by 180", less.count(14), 94);
    }
}
