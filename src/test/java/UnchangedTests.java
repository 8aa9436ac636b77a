import java.util.function.Supplier;
import java.util.function.ToLongFunction;

/** "What is answered so changes nothing; what is asked changes nothing", call by call. */
public final class UnchangedTests {
    private static final long NO = NoGraveEnemy.NO;
    private static final int TOP = Integer.MAX_VALUE;
    private static final int LOW = Integer.MIN_VALUE;

    private Supplier<NoGraveEnemy> scene;
    private String now;
    private String beneath;

    private UnchangedTests(Supplier<NoGraveEnemy> scene) {
        this.scene = scene;
        this.now = Sight.now(scene.get());
        this.beneath = Sight.beneath(scene.get());
    }

    public static void main(String[] args) {
        sightTellsApart();
        UnchangedTests some = new UnchangedTests(Scenes::some);
        some.refusedOfPeople();
        some.refusedBetween();
        some.refusedTexts();
        some.refusedDays();
        some.refusedSeen();
        some.refusedPlans();
        some.refusedTapes();
        some.asked();
        some.askedTwo();
        full();
        lastDay();
        nothingThere();
        Due.end();
    }

    /** Else the rest of these tests would tell nothing. */
    private static void sightTellsApart() {
        Due.due("scenes alike", Sight.now(Scenes.some()).equals(Sight.now(Scenes.some())) ? 1 : 0, 1);
        String before = Sight.now(Scenes.some());
        NoGraveEnemy x = Scenes.some();
        x.hate(3, 0, 1);
        Due.due("HATE is seen", Sight.now(x).equals(before) ? 1 : 0, 0);
        NoGraveEnemy y = Scenes.some();
        y.feed('0');
        y.image();
        String beneath = Sight.beneath(Scenes.some());
        Due.due("THE IMAGE is seen", Sight.beneath(y).equals(beneath) ? 1 : 0, 0);
    }

    /** The call is answered so, and behind it all is as without it. */
    private void same(String call, long want, ToLongFunction<NoGraveEnemy> what) {
        NoGraveEnemy x = scene.get();
        Due.due(call, what.applyAsLong(x), want);
        stays(call, Sight.now(x), now);
        NoGraveEnemy y = scene.get();
        what.applyAsLong(y);
        stays(call + ", beneath", Sight.beneath(y), beneath);
    }

    private static void stays(String call, String got, String want) {
        Due.due(call + " changes nothing", got.equals(want) ? 1 : 0, 1);
    }

    private void refusedOfPeople() {
        same("one: kind -1", -1, x -> x.one(-1, 0));
        same("one: kind 7", -1, x -> x.one(7, 0));
        same("one: kind ahead of v", -1, x -> x.one(7, 10));
        same("one: v -1", -2, x -> x.one(0, -1));
        same("one: v 10", -2, x -> x.one(6, 10));
        same("of: person 4 of 4", -1, x -> x.of(4, 0));
        same("of: person -1", -1, x -> x.of(-1, 0));
        same("of: what -1", -1, x -> x.of(0, -1));
        same("of: what 7", -1, x -> x.of(0, 7));
        same("die: person 4 of 4", -1, x -> x.die(4, true));
        same("die: person -1", -1, x -> x.die(-1, true));
        same("die: person 4 of 4, not", -1, x -> x.die(4, false));
        same("die: person -1, not", -1, x -> x.die(-1, false));
        same("die: person 32", -1, x -> x.die(32, true));
        same("row: person 4 of 4", -1, x -> x.row(4, 0, 0));
        same("row: person -1", -1, x -> x.row(-1, 0, 0));
        same("row: part 4", -1, x -> x.row(0, 4, 0));
        same("row: part -1", -1, x -> x.row(0, -1, 0));
        same("row: person ahead of n", -1, x -> x.row(4, 0, 10));
        same("row: part ahead of n", -1, x -> x.row(0, 4, 10));
        same("row: part ahead of KIND", -1, x -> x.row(1, 4, 0));
        same("row: n -1", -2, x -> x.row(0, 0, -1));
        same("row: n 10", -2, x -> x.row(0, 0, 10));
        same("row: n ahead of KIND", -2, x -> x.row(1, 0, 10));
        same("row: KIND 5", -3, x -> x.row(1, 0, 9));
        same("row: KIND 4", -3, x -> x.row(2, 0, 9));
        same("row: KIND 1", -3, x -> x.row(3, 3, 9));
    }

    private void refusedBetween() {
        same("hate: one 4 of 4", -1, x -> x.hate(4, 0, 5));
        same("hate: other 4 of 4", -1, x -> x.hate(0, 4, 5));
        same("hate: one -1", -1, x -> x.hate(-1, 0, 5));
        same("hate: other -1", -1, x -> x.hate(0, -1, 5));
        same("hate: other 6", -1, x -> x.hate(0, 6, 5));
        same("hate: NONE ahead of one is both", -1, x -> x.hate(4, 4, 5));
        same("hate: NONE ahead of n", -1, x -> x.hate(0, 4, 100));
        same("hate: one is both", -2, x -> x.hate(3, 3, 5));
        same("hate: n -1", -2, x -> x.hate(0, 1, -1));
        same("hate: n 100", -2, x -> x.hate(0, 1, 100));
        same("between: one 4 of 4", -10001, x -> x.between(4, 0, 0));
        same("between: other 4 of 4", -10001, x -> x.between(0, 4, 0));
        same("between: one -1", -10001, x -> x.between(-1, 0, 0));
        same("between: other -1", -10001, x -> x.between(0, -1, 0));
        same("between: what -1", -10001, x -> x.between(0, 1, -1));
        same("between: what 4", -10001, x -> x.between(0, 1, 4));
        same("between: NONE ahead of BAD", -10001, x -> x.between(4, 4, 0));
        same("between: what ahead of BAD", -10001, x -> x.between(1, 1, 4));
        same("between: one is both", -10002, x -> x.between(0, 0, 0));
        same("between: one is both, 3", -10002, x -> x.between(3, 3, 3));
    }

    private void refusedTexts() {
        same("feed: -1", -2, x -> x.feed(-1));
        same("feed: 128", -2, x -> x.feed(128));
        same("feed: 256 and a letter", -2, x -> x.feed(256 + 'a'));
        same("told: -1", -1, x -> x.told(-1));
        same("told: 8", -1, x -> x.told(8));
        same("trace: -1", -1, x -> x.trace(-1));
        same("trace: how many ran", -1, x -> x.trace(x.count(6)));
        same("trace: 20", -1, x -> x.trace(20));
        same("taken: k -1", -2, x -> x.taken(0, -1));
        same("taken: k 7", -2, x -> x.taken(0, 7));
        same("taken: k ahead of nobody", -2, x -> x.taken(4, 7));
        same("taken: person 4 of 4", -11, x -> x.taken(4, 0));
        same("taken: person -1", -11, x -> x.taken(-1, 0));
        same("taken: another KIND", -12, x -> x.taken(0, 1));
        same("count: -1", -2, x -> x.count(-1));
        same("count: 7", -2, x -> x.count(7));
    }

    private void refusedDays() {
        same("pass: -1", -2, x -> x.pass(-1));
        same("pass: 61", -2, x -> x.pass(61));
        same("pass: wild", -2, x -> x.pass(TOP));
        same("on: n -1", -2, x -> x.on(-1, 0));
        same("on: n 31", -2, x -> x.on(31, 0));
        for (int what : new int[] {-1, 1, 9, 14, 16, 19, 24, 25, 30, 44, 56, 62, TOP, LOW}) {
            same("on: what " + what, -1, x -> x.on(0, what));
            same("on: what ahead of n, " + what, -1, x -> x.on(31, what));
        }
        for (int what : new int[] {-1, 1, 9, 14, 15, 16, TOP, LOW}) {
            same("handful: what " + what, -1, x -> x.handful(what));
        }
        same("orders: -1", -2, x -> x.orders(-1));
        same("orders: 7", -2, x -> x.orders(7));
    }

    private void refusedSeen() {
        same("see: one 4 of 4", -1, x -> x.see(4, 0, 0, true));
        same("see: one -2", -1, x -> x.see(-2, 0, 0, true));
        same("see: other 4 of 4", -1, x -> x.see(0, 4, 0, true));
        same("see: other -1", -1, x -> x.see(0, -1, 0, true));
        same("see: NONE ahead of one is both", -1, x -> x.see(4, 4, 0, true));
        same("see: NONE ahead of n", -1, x -> x.see(0, 4, 21, true));
        same("see: one is both", -2, x -> x.see(0, 0, 0, true));
        same("see: n -1", -2, x -> x.see(0, 1, -1, true));
        same("see: n 21", -2, x -> x.see(0, 1, 21, true));
        for (int what = 0; what <= 1; what++) {
            int asked = what;
            same("hates: one 4 of 4", -1, x -> x.hates(4, 0, asked));
            same("hates: one -1", -1, x -> x.hates(-1, 0, asked));
            same("hates: other 4 of 4", -1, x -> x.hates(0, 4, asked));
            same("hates: other -1", -1, x -> x.hates(0, -1, asked));
            same("hates: NONE ahead of BAD", -1, x -> x.hates(4, 4, asked));
            same("hates: one is both", -2, x -> x.hates(2, 2, asked));
            same("can: person 4 of 4", -1, x -> x.can(4, asked));
            same("can: person -1", -1, x -> x.can(-1, asked));
            same("odds: person 4 of 4", NO, x -> x.odds(4, asked));
            same("odds: person -1", NO, x -> x.odds(-1, asked));
        }
        for (int what : new int[] {-1, 2}) {
            same("hates: what " + what, -1, x -> x.hates(0, 1, what));
            same("hates: what ahead of BAD, " + what, -1, x -> x.hates(0, 0, what));
            same("can: what " + what, -1, x -> x.can(0, what));
            same("odds: part " + what, NO, x -> x.odds(0, what));
            same("mean: part " + what, NO, x -> x.mean(what));
            same("ends: what " + what, -1, x -> x.ends(what));
        }
    }

    private void refusedPlans() {
        same("plan: what -2", -1, x -> x.plan(-2, 0));
        same("plan: what 4", -1, x -> x.plan(4, 0));
        for (int goes = 1; goes <= 3; goes++) {
            int what = goes;
            same("plan: person 4 of 4 by " + what, -1, x -> x.plan(what, 4));
            same("plan: person -1 by " + what, -1, x -> x.plan(what, -1));
        }
        same("book: one 4 of 4", -1, x -> x.book(4, 0, 0));
        same("book: one -2", -1, x -> x.book(-2, 0, 0));
        same("book: other 4 of 4", -1, x -> x.book(0, 4, 0));
        same("book: other -1", -1, x -> x.book(0, -1, 0));
        same("book: NONE ahead of one is both", -1, x -> x.book(4, 4, 0));
        same("book: NONE ahead of hate", -1, x -> x.book(0, 4, 100));
        same("book: one is both", -2, x -> x.book(1, 1, 0));
        same("book: hate -1", -2, x -> x.book(0, 1, -1));
        same("book: hate 100", -2, x -> x.book(0, 1, 100));
    }

    private void refusedTapes() {
        same("judge: tape 6", -1, x -> x.judge(6, 0));
        same("judge: tape -1", -1, x -> x.judge(-1, 0));
        same("judge: ints", -12, x -> x.judge(2, 0));
        same("judge: CAST ahead of the place", -12, x -> x.judge(2, -1));
        same("judge: below 0", 100, x -> x.judge(4, -1));
        same("judge: nothing there", 100, x -> x.judge(5, 0));
        same("tape: 6", -1, x -> x.tape(6, 0, 1));
        same("tape: -1", -1, x -> x.tape(-1, 0, 1));
        same("tape: NONE ahead of sort", -1, x -> x.tape(6, 5, 1));
        same("tape: NONE ahead of nothing", -1, x -> x.tape(6, -1, 1));
        same("tape: sort -2", -2, x -> x.tape(0, -2, 1));
        same("tape: sort 5", -2, x -> x.tape(0, 5, 1));
        same("tape: sort ahead of SIZE", -2, x -> x.tape(0, 5, -1));
        same("tape: n 61", -2, x -> x.tape(0, 0, 61));
        same("tape: n -1", -14, x -> x.tape(0, 0, -1));
        same("tape: n far below", -14, x -> x.tape(4, 4, LOW));
        same("item: tape 6", -1, x -> x.item(6, 0, 1));
        same("item: tape -1", -1, x -> x.item(-1, 0, 1));
        same("item: nothing there", -11, x -> x.item(5, 0, 1));
        same("item: NOTHING ahead of PLACE", -11, x -> x.item(5, -1, 1));
        same("item: place 4 of 4", -13, x -> x.item(0, 4, 1));
        same("item: place -1", -13, x -> x.item(0, -1, 1));
        same("read: tape 6", NO, x -> x.read(6, 0));
        same("read: tape -1", NO, x -> x.read(-1, 0));
        same("read: nothing there", NO, x -> x.read(5, 0));
        same("read: place 4 of 4", NO, x -> x.read(0, 4));
        same("read: place -1", NO, x -> x.read(0, -1));
        same("shift: tape 6", -1, x -> x.shift(6, 0, 0, 0, 1));
        same("shift: other -1", -1, x -> x.shift(0, 0, -1, 0, 1));
        same("shift: NONE ahead of NOTHING", -1, x -> x.shift(5, 0, 6, 0, 1));
        same("shift: nothing there", -11, x -> x.shift(5, 0, 0, 0, 1));
        same("shift: nothing at the other", -11, x -> x.shift(0, 0, 5, 0, 1));
        same("shift: NOTHING ahead of PLACE", -11, x -> x.shift(0, 0, 5, 0, -1));
        same("shift: unlike sorts", -12, x -> x.shift(0, 0, 1, 0, 1));
        same("shift: CAST ahead of PLACE", -12, x -> x.shift(0, -1, 1, 0, 1));
        same("shift: n -1", -13, x -> x.shift(0, 1, 0, 2, -1));
        same("shift: i -1", -13, x -> x.shift(0, -1, 0, 0, 2));
        same("shift: j -1", -13, x -> x.shift(0, 0, 0, -1, 2));
        same("shift: beyond i's end", -13, x -> x.shift(0, 1, 0, 0, 4));
        same("shift: beyond j's end", -13, x -> x.shift(0, 0, 0, 1, 4));
    }

    private void alike(String call, ToLongFunction<NoGraveEnemy> what) {
        same(call, what.applyAsLong(scene.get()), what);
    }

    /** Each call that asks, with all that it takes. */
    private void asked() {
        for (int told = 0; told <= 7; told++) {
            int what = told;
            alike("told " + what, x -> x.told(what));
        }
        for (int count = 0; count <= 6; count++) {
            int what = count;
            alike("count " + what, x -> x.count(what));
            alike("orders " + what, x -> x.orders(what));
        }
        for (int part = 0; part <= 1; part++) {
            int what = part;
            alike("mean " + what, x -> x.mean(what));
            alike("ends " + what, x -> x.ends(what));
        }
        alike("looked", x -> x.looked());
        alike("trace", x -> x.trace(0));
        for (int n : new int[] {0, 1, 30}) {
            alike("on " + n + ": BURIED", x -> x.on(n, 0));
        }
        alike("handful", x -> x.handful(0));
        for (int tape = 0; tape <= 4; tape++) {
            int from = tape;
            alike("read " + tape, x -> x.read(from, 0));
            alike("shift of none " + tape, x -> x.shift(from, 4, from, 0, 0));
        }
        alike("judge", x -> x.judge(4, 0));
    }

    private void askedTwo() {
        for (int p = 0; p < 4; p++) {
            int one = p;
            for (int of = 0; of <= 6; of++) {
                int what = of;
                alike("of " + one + " " + what, x -> x.of(one, what));
                alike("taken " + one + " " + what, x -> x.taken(one, what));
            }
            for (int part = 0; part <= 1; part++) {
                int what = part;
                alike("can " + one, x -> x.can(one, what));
                alike("odds " + one, x -> x.odds(one, what));
            }
            alike("handful " + one, x -> x.handful(10 + one));
            alike("on THROWN " + one, x -> x.on(30, 10 + one));
            for (int q = 0; q < 4; q++) {
                int other = q;
                alike("on HATE " + one + " " + other, x -> x.on(30, 20 + 6 * one + other));
                for (int what = 0; what <= 3 && one != other; what++) {
                    int told = what;
                    alike("between " + one + " " + other + " " + what, x -> x.between(one, other, told));
                    alike("hates " + one + " " + other, x -> x.hates(one, other, told % 2));
                }
            }
        }
    }

    /** "FULL", wherever a call's words name it. */
    private static void full() {
        UnchangedTests full = new UnchangedTests(Scenes::full);
        full.same("one: a seventh", -4, x -> x.one(0, 0));
        full.same("one: NONE ahead of FULL", -1, x -> x.one(7, 0));
        full.same("one: BAD ahead of FULL", -2, x -> x.one(0, 10));
        full.same("of: person 6 of 6", -1, x -> x.of(6, 0));
        full.same("die: person 6 of 6", -1, x -> x.die(6, true));
        full.same("feed: byte 101", -4, x -> x.feed('x'));
        full.same("feed: BAD ahead of FULL", -2, x -> x.feed(128));
        full.same("see: a sixth", -4, x -> x.see(1, 0, 0, false));
        full.same("see: NONE ahead of FULL", -1, x -> x.see(6, 0, 0, true));
        full.same("see: BAD ahead of FULL", -2, x -> x.see(0, 1, 21, true));
        full.same("plan: an eleventh", -4, x -> x.plan(3, 0));
        full.same("plan: an eleventh, a DAY", -4, x -> x.plan(0, 0));
        full.same("plan: NONE ahead of FULL", -1, x -> x.plan(1, 6));
        full.same("plan: no such row ahead of FULL", -1, x -> x.plan(4, 0));
        full.same("book: a ninth", -4, x -> x.book(0, 1, x.between(0, 1, 0)));
        full.same("book: NONE ahead of FULL", -1, x -> x.book(0, 6, 1));
        full.same("book: BAD ahead of FULL", -2, x -> x.book(0, 1, 100));
        full.same("hate: one 6 of 6", -1, x -> x.hate(6, 0, 5));
        full.same("hate: other 6 of 6", -1, x -> x.hate(5, 6, 5));
        UnchangedTests six = new UnchangedTests(Scenes::sixParishes);
        six.same("parish: FULL ahead of a FAULT", -4, x -> x.parish());
        UnchangedTests told = new UnchangedTests(() -> {
            NoGraveEnemy x = Scenes.sixParishes();
            Due.feed(x, "need 1");
            return x;
        });
        told.same("parish: a seventh", -4, x -> x.parish());
    }

    private static void lastDay() {
        UnchangedTests last = new UnchangedTests(Scenes::lastDay);
        last.same("pass: 1 beyond 9999", -3, x -> x.pass(1));
        last.same("pass: 60 beyond 9999", -3, x -> x.pass(60));
        last.same("pass: BAD ahead of STATE", -2, x -> x.pass(61));
        last.same("pass: none on the last DAY", 9999, x -> x.pass(0));
        last.same("on: 30 beyond 9999", 2, x -> x.on(30, 0));
        last.same("of: LIES beyond 9999", 1, x -> x.of(1, 6));
        last.same("between: FOR HOW LONG beyond 9999", 30, x -> x.between(0, 1, 3));
        last.same("orders beyond 9999", 0, x -> x.orders(6));
    }

    private static void nothingThere() {
        UnchangedTests none = new UnchangedTests(NoGraveEnemy::new);
        none.same("undo: no IMAGE", -3, x -> x.undo());
        none.same("of nobody", -1, x -> x.of(0, 0));
        none.same("hate of nobody", -1, x -> x.hate(0, 0, 0));
        none.same("between nobody", -10001, x -> x.between(0, 0, 0));
        none.same("nobody dies", -1, x -> x.die(0, true));
        none.same("row of nobody", -1, x -> x.row(0, 0, 0));
        none.same("on of nobody", -1, x -> x.on(0, 10));
        none.same("on of nobody for nobody", -1, x -> x.on(0, 20));
        none.same("on: who is BURIED", 0, x -> x.on(30, 0));
        none.same("handful for nobody", -1, x -> x.handful(10));
        none.same("see of nobody", -1, x -> x.see(0, 0, 21, true));
        none.same("hates of nobody", -1, x -> x.hates(0, 0, 0));
        none.same("can of nobody", -1, x -> x.can(0, 0));
        none.same("odds of nobody", NO, x -> x.odds(0, 0));
        none.same("mean of nobody", NO, x -> x.mean(0));
        none.same("mean of nobody, below", NO, x -> x.mean(1));
        none.same("plan of nobody", -1, x -> x.plan(1, 0));
        none.same("ends of nothing", 0, x -> x.ends(0));
        none.same("ends of nothing, HATE", 0, x -> x.ends(1));
        none.same("book of nobody", -1, x -> x.book(0, 0, 100));
        none.same("looked at nothing", -5, x -> x.looked());
        none.same("judged nobody", -5, x -> x.judge(0, 0));
        none.same("judged nobody, below 0", -5, x -> x.judge(5, LOW));
        none.same("act of nobody", 0, x -> x.act(0, 0, 1));
        none.same("trace of nothing", -1, x -> x.trace(0));
        none.same("taken nobody", -11, x -> x.taken(0, 0));
        none.same("parish of nothing", -10, x -> x.parish());
        none.same("see nothing", 0, x -> x.see(-1, TOP, LOW, true));
        none.same("plan nothing", 0, x -> x.plan(-1, TOP));
        none.same("book nothing", 0, x -> x.book(-1, TOP, LOW));
        none.same("tape of nothing", 1, x -> x.tape(0, -1, 61));
        none.same("no DAY", 0, x -> x.pass(0));
    }
}
