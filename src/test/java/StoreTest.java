/** Promises 26 to 32: the store and its houses. */
public final class StoreTest {
    private static final long FAR = Long.MAX_VALUE;

    public static void main(String[] args) {
        housesAreMade();
        likeBytesAreKeptOnce();
        keepPutsInPlace();
        keepRefuses();
        keepHasTwelveEntries();
        keepHasThirtyBodies();
        bodiesAreAsTheyWere();
        findAndDrop();
        listIsInOrder();
        takeGivesBack();
        usesCounts();
        Check.finish();
    }

    private static void housesAreMade() {
        PackDesk x = new PackDesk();
        for (int h = 0; h < 6; h++) Check.due("house", x.house(), h);
        Check.refuses(x, "house 7", () -> x.house(), PackDesk.FULL);
        Check.refuses(x, "find in house 7", () -> x.find(6, 0), PackDesk.UNKNOWN);
        Check.due("count(4)", x.count(4), 6);
    }

    private static void likeBytesAreKeptOnce() {
        PackDesk x = new PackDesk();
        x.house();
        x.house();
        int a = Check.ended(x, 1, 2, 3), b = Check.ended(x, 1, 2, 3), c = Check.ended(x, 1, 2), empty = Check.ended(x);
        int other = Check.ended(x, 1, 2, 4);
        Check.due("keep", x.keep(0, 5, a), 0);
        Check.due("keep of like bytes", x.keep(0, 6, b), 0);
        Check.due("keep of like bytes in another house", x.keep(1, 5, b), 0);
        Check.due("keep of fewer bytes", x.keep(1, 7, c), 1);
        Check.due("keep of no bytes", x.keep(1, 8, empty), 2);
        Check.due("keep of other bytes", x.keep(1, 9, other), 3);
        Check.due("uses", x.uses(0), 3);
        Check.due("bodies at hand", x.count(2), 4);
        Check.due("bodies ever", x.count(3), 4);
        x.seek(b, 2);
        Check.due("the place is not looked at", x.keep(0, 1, b), 0);
    }

    private static void keepPutsInPlace() {
        PackDesk x = new PackDesk();
        x.house();
        int a = Check.ended(x, 1), b = Check.ended(x, 2);
        Check.due("keep", x.keep(0, 5, a), 0);
        Check.due("keep the same", x.keep(0, 5, a), 0);
        Check.due("uses", x.uses(0), 1);
        Check.due("keep another", x.keep(0, 5, b), 1);
        Check.due("the one before is gone", x.uses(0), 0);
        Check.due("find", x.find(0, 5), 1);
        Check.due("bodies at hand", x.count(2), 1);
        Check.due("no number twice", x.keep(0, 5, a), 2);
        Check.due("bodies ever", x.count(3), 3);
        Check.due("entries", x.list(0, 0), 1);
        x.keep(0, 6, a);
        Check.due("keep", x.keep(0, 5, b), 3);
        Check.due("the one before has another user", x.uses(2), 1);
        Check.due("bodies at hand", x.count(2), 2);
    }

    private static void keepRefuses() {
        PackDesk x = new PackDesk();
        x.house();
        int open = Check.stream(x, 1), ended = Check.ended(x, 1);
        Check.refuses(x, "keep in none", () -> x.keep(1, -1, open), PackDesk.UNKNOWN);
        Check.refuses(x, "keep in none", () -> x.keep(-1, 0, ended), PackDesk.UNKNOWN);
        Check.refuses(x, "keep of none", () -> x.keep(0, -1, 2), PackDesk.UNKNOWN);
        Check.refuses(x, "keep of none", () -> x.keep(0, 0, -1), PackDesk.UNKNOWN);
        Check.refuses(x, "keep by -1", () -> x.keep(0, -1, open), PackDesk.OUTSIDE);
        Check.refuses(x, "keep by MIN", () -> x.keep(0, Long.MIN_VALUE, ended), PackDesk.OUTSIDE);
        Check.refuses(x, "keep of an open one", () -> x.keep(0, 0, open), PackDesk.STATE);
        Check.due("keep by 0", x.keep(0, 0, ended), 0);
        Check.due("keep by MAX", x.keep(0, FAR, ended), 0);
    }

    private static void keepHasTwelveEntries() {
        PackDesk x = new PackDesk();
        x.house();
        int a = Check.ended(x, 1), b = Check.ended(x, 2), open = Check.stream(x);
        for (int path = 0; path < 12; path++) Check.due("keep", x.keep(0, path, a), 0);
        Check.refuses(x, "entry 13", () -> x.keep(0, 12, a), PackDesk.FULL);
        Check.refuses(x, "entry 13", () -> x.keep(0, 12, b), PackDesk.FULL);
        Check.refuses(x, "keep: STATE ahead of FULL", () -> x.keep(0, 12, open), PackDesk.STATE);
        Check.refuses(x, "keep: OUTSIDE ahead of FULL", () -> x.keep(0, -12, a), PackDesk.OUTSIDE);
        Check.due("in place of another", x.keep(0, 11, b), 1);
        Check.due("drop", x.drop(0, 3), 0);
        Check.due("there is room again", x.keep(0, 12, a), 0);
        Check.due("entries", x.list(0, 11), 12);
        Check.due("the last path", x.seen(), 12);
    }

    private static void keepHasThirtyBodies() {
        PackDesk x = new PackDesk();
        for (int h = 0; h < 6; h++) x.house();
        for (int s = 0; s < 24; s++) Check.ended(x, s);
        for (int n = 0; n < 24; n++) Check.due("keep", x.keep(n / 6, n, n), n);
        for (int n = 24; n < 30; n++) {
            x.harm(n - 24, 0, 128);
            Check.due("keep", x.keep(4, n, n - 24), n);
        }
        Check.due("bodies at hand", x.count(2), 30);
        x.harm(6, 0, 128);
        Check.refuses(x, "body 31", () -> x.keep(5, 0, 6), PackDesk.FULL);
        Check.refuses(x, "body 31 in place of the last user of another", () -> x.keep(0, 0, 6), PackDesk.FULL);
        Check.due("a body that is alike", x.keep(5, 0, 7), 7);
        Check.due("drop", x.drop(1, 7), 7);
        Check.due("bodies at hand", x.count(2), 30);
        Check.due("drop", x.drop(0, 2), 2);
        Check.due("bodies at hand", x.count(2), 29);
        Check.due("there is room again", x.keep(0, 0, 6), 30);
        Check.due("the one before is gone", x.uses(0), 0);
        Check.due("bodies at hand", x.count(2), 29);
        Check.due("bodies ever", x.count(3), 31);
    }

    private static void bodiesAreAsTheyWere() {
        PackDesk x = new PackDesk();
        x.house();
        int a = Check.ended(x, 1, 2, 3);
        x.keep(0, 1, a);
        x.harm(a, 1, 255);
        int b = x.take(0, 1);
        Check.dueBytes("the body stays as it was", Check.bytes(x, b), 1, 2, 3);
        Check.due("the harmed one is another", x.keep(0, 2, a), 1);
        x.harm(b, 0, 255);
        Check.dueBytes("what was taken is a copy", Check.bytes(x, x.take(0, 1)), 1, 2, 3);
        x.drop(0, 1);
        Check.due("a body anew", x.keep(0, 3, Check.ended(x, 7)), 2);
        Check.dueBytes("it has fewer bytes than the one before", Check.bytes(x, x.take(0, 3)), 7);
        Check.due("what went is not alike", x.keep(0, 4, Check.ended(x, 1, 2, 3)), 3);
    }

    private static void findAndDrop() {
        PackDesk x = new PackDesk();
        x.house();
        x.house();
        int a = Check.ended(x, 1), b = Check.ended(x, 2);
        x.keep(0, 5, a);
        x.keep(0, 6, b);
        x.keep(0, 7, a);
        Check.due("find", x.find(0, 5), 0);
        Check.due("find", x.find(0, 6), 1);
        Check.due("find nothing", x.find(0, 4), PackDesk.NONE);
        Check.due("find nothing in another house", x.find(1, 5), PackDesk.NONE);
        Check.due("drop nothing", x.drop(0, 4), PackDesk.NONE);
        Check.due("drop", x.drop(0, 5), 0);
        Check.due("find it no more", x.find(0, 5), PackDesk.NONE);
        Check.due("the others stay", x.find(0, 6), 1);
        Check.due("the others stay", x.find(0, 7), 0);
        Check.due("it has a user", x.uses(0), 1);
        Check.due("drop its last user", x.drop(0, 7), 0);
        Check.due("it is gone", x.uses(0), 0);
        Check.due("bodies at hand", x.count(2), 1);
        Check.due("drop it again", x.drop(0, 7), PackDesk.NONE);
        x.keep(0, 0, b);
        Check.due("find by 0", x.find(0, 0), 1);
        Check.due("take by 0", x.take(0, 0), 2);
        Check.due("drop by 0", x.drop(0, 0), 1);
        Check.due("find by 0 no more", x.find(0, 0), PackDesk.NONE);
        Check.refuses(x, "find in none", () -> x.find(2, -1), PackDesk.UNKNOWN);
        Check.refuses(x, "find by -1", () -> x.find(0, -1), PackDesk.OUTSIDE);
        Check.refuses(x, "drop in none", () -> x.drop(-1, -1), PackDesk.UNKNOWN);
        Check.refuses(x, "drop by -1", () -> x.drop(0, -1), PackDesk.OUTSIDE);
    }

    private static void listIsInOrder() {
        PackDesk x = new PackDesk();
        x.house();
        int a = Check.ended(x, 1);
        long[] kept = {50, FAR, 0, 7, 1L << 40, 8};
        long[] order = {0, 7, 8, 50, 1L << 40, FAR};
        for (long path : kept) x.keep(0, path, a);
        for (int i = 0; i < 6; i++) {
            Check.due("list", x.list(0, i), 6);
            Check.due("path " + i, x.seen(), order[i]);
        }
        for (int i : new int[] {-1, 6, 12, Integer.MAX_VALUE, Integer.MIN_VALUE}) {
            Check.refuses(x, "list " + i, () -> x.list(0, i), Check.INDEX);
            Check.refuses(x, "list of none", () -> x.list(1, i), PackDesk.UNKNOWN);
        }
        x.drop(0, 7);
        Check.due("list", x.list(0, 1), 5);
        Check.due("path 1", x.seen(), 8);
        x.house();
        Check.refuses(x, "list of an empty house", () -> x.list(1, 0), Check.INDEX);
    }

    private static void takeGivesBack() {
        PackDesk x = new PackDesk();
        x.house();
        int a = Check.ended(x, 9, 8, 7);
        x.seek(a, 2);
        x.keep(0, 5, a);
        int b = x.take(0, 5);
        Check.due("take", b, 1);
        Check.dueBytes("its bytes", Check.bytes(x, b), 9, 8, 7);
        Check.due("it is ended", x.about(b, 2), 1);
        Check.due("its place", x.about(b, 1), 0);
        Check.due("the entry stays", x.find(0, 5), 0);
        Check.refuses(x, "take in none", () -> x.take(1, -1), PackDesk.UNKNOWN);
        Check.refuses(x, "take by -1", () -> x.take(0, -1), PackDesk.OUTSIDE);
        Check.refuses(x, "take what is not there", () -> x.take(0, 4), PackDesk.STATE);
        for (int s = 2; s < 24; s++) Check.due("take", x.take(0, 5), s);
        Check.refuses(x, "take: STATE ahead of FULL", () -> x.take(0, 4), PackDesk.STATE);
        Check.refuses(x, "stream 25", () -> x.take(0, 5), PackDesk.FULL);
    }

    private static void usesCounts() {
        PackDesk x = new PackDesk();
        x.house();
        x.house();
        int a = Check.ended(x, 1);
        for (int n = 0; n < 5; n++) {
            Check.due("uses", x.uses(0), n);
            x.keep(n % 2, n, a);
        }
        Check.due("uses", x.uses(0), 5);
        for (int body : new int[] {-1, 1, 29, 30, Integer.MAX_VALUE, Integer.MIN_VALUE}) {
            Check.refuses(x, "uses of none", () -> x.uses(body), 0);
        }
    }
}
