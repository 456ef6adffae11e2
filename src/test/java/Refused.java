import java.util.function.IntSupplier;

/** What a refusal is to leave behind. */
final class Refused {
    private Refused() {
    }

    /** The call answers NONE, is one more of the last cause's status and of no other, and has just these causes. */
    static void due(String what, MooringDesk desk, IntSupplier call, int... causes) {
        int reason = causes[causes.length - 1];
        int[] ahead = new int[5];
        for (int i = 0; i < 5; i++) {
            ahead[i] = desk.status(i);
        }
        Doc.due(what, call.getAsInt(), -1);
        for (int i = 0; i < 5; i++) {
            Doc.due(what + ", status " + i, desk.status(i), ahead[i] + (i == reason ? 1 : 0));
        }
        causes(what, desk, causes);
    }

    static void causes(String what, MooringDesk desk, int... causes) {
        for (int i = 0; i < causes.length; i++) {
            Doc.due(what + ", cause " + i, desk.cause(i), causes[i]);
        }
        Doc.due(what + ", no more causes", desk.cause(causes.length), -1);
    }
}
