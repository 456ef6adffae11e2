import java.util.ArrayList;
import java.util.List;
import java.util.function.Consumer;
import java.util.function.Supplier;

/** All that a desk tells of itself, so that two desks can be compared. */
final class Seen {
    private Seen() {
    }

    /** All but status and causes, in some 400 calls. */
    static List<Long> of(MooringDesk desk) {
        List<Long> all = new ArrayList<>();
        for (int what = 0; what <= 4; what++) {
            all.add((long) desk.count(what));
            all.add((long) desk.rule(what));
        }
        for (int rope = 0; rope < desk.count(0); rope++) {
            for (int what = 0; what <= 8; what++) {
                all.add((long) desk.rope(rope, what));
            }
            all.add(desk.pull(rope, 0));
            all.add(desk.pull(rope, 1));
        }
        for (int axis = 0; axis <= 2; axis++) {
            all.add(desk.shift(axis, 0));
            all.add(desk.shift(axis, 1));
        }
        for (int what = 0; what <= 8; what++) {
            all.add((long) desk.most(what));
        }
        for (int i = 0; i < desk.count(3); i++) {
            for (int what = 0; what <= 2; what++) {
                all.add((long) desk.log(i, what));
            }
        }
        for (int script = 0; script < desk.count(1); script++) {
            for (int i = 0; desk.step(script, i, 0) != MooringDesk.HIDDEN; i++) {
                for (int what = 0; what <= 3; what++) {
                    all.add((long) desk.step(script, i, what));
                }
            }
        }
        all.add((long) desk.fault(0));
        all.add((long) desk.fault(1));
        return all;
    }

    static List<Long> refusals(MooringDesk desk) {
        List<Long> all = new ArrayList<>();
        for (int i = 0; i <= 4; i++) {
            all.add((long) desk.status(i));
            all.add((long) desk.cause(i));
        }
        return all;
    }

    /** Nothing but status and causes differs behind the call: not at once, nor behind an undo, nor behind a back. */
    static void sameBehind(String what, Supplier<MooringDesk> made, Consumer<MooringDesk> call) {
        for (int behind = 0; behind <= 2; behind++) {
            MooringDesk one = made.get();
            MooringDesk other = made.get();
            call.accept(other);
            for (MooringDesk desk : new MooringDesk[] {one, other}) {
                if (behind == 1) {
                    desk.undo();
                } else if (behind == 2) {
                    desk.back();
                }
            }
            Doc.due(what + " changes nothing, " + behind, of(other).equals(of(one)), true);
        }
    }

    /** Not even status and causes differ. */
    static void allSameBehind(String what, Supplier<MooringDesk> made, Consumer<MooringDesk> call) {
        sameBehind(what, made, call);
        MooringDesk one = made.get();
        MooringDesk other = made.get();
        call.accept(other);
        Doc.due(what + " is not refused", refusals(other).equals(refusals(one)), true);
    }
}
