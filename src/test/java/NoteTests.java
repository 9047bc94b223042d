/** Promises 32 to 37: notes, strikes, and what they leave open. */
public final class NoteTests {
    private static final Checks C = new Checks();
    private static final String TEXT = "lamp a;lamp b;lamp c;pull p 1 a b;pull q 1 b;pull r 1 a;lit a;law stick 1;";

    public static void main(String[] args) {
        note();
        strike();
        known();
        fits();
        rang();
        ask();
        C.end("NoteTests");
    }

    private static void note() {
        BellPulls x = Checks.of(TEXT);
        C.due("lamp 3", x.note(0, 3, true), -1);
        C.due("lamp -1", x.note(0, -1, true), -1);
        C.due("pull 3", x.note(1, 3, true), -1);
        C.due("pull -1", x.note(1, -1, false), -1);
        C.due("what 2", x.note(2, 0, true), -1);
        C.due("what -1", x.note(-1, 0, true), -1);
        C.due("none yet", x.count(12), 0);
        for (int i = 0; i < 24; i++) {
            C.due("note", i % 3 == 0 && i > 0 ? x.strike(i - 1) : x.note(i % 2, i % 3, true), i);
        }
        C.due("24 in all", x.note(0, 0, true), -1);
        C.due("24 in all", x.strike(0), -1);
        C.due("24", x.count(12), 24);
    }

    private static void strike() {
        BellPulls x = Checks.of(TEXT);
        C.due("no note", x.strike(0), -1);
        x.note(1, 0, true);
        C.due("not itself", x.strike(1), -1);
        C.due("-1", x.strike(-1), -1);
        C.due("a strike", x.strike(0), 1);
        C.due("struck", x.fits(), 8);
        C.due("the strike is struck", x.strike(1), 2);
        C.due("known again", x.fits(), 4);
        C.due("that one, too", x.strike(2), 3);
        C.due("struck", x.fits(), 8);
        C.due("once more", x.strike(0), 4);
        C.due("struck by both", x.fits(), 8);
        C.due("one of both", x.strike(1), 5);
        C.due("struck by the other one", x.fits(), 8);
        C.due("the other one", x.strike(4), 6);
        C.due("known", x.fits(), 4);
    }

    private static void known() {
        BellPulls x = Checks.of(TEXT);
        C.due("by none", x.known(0), true);
        C.due("-2", x.known(-2), false);
        C.due("1", x.known(1), false);
        x.note(1, 0, true);
        C.due("by none", x.count(13), 0);
        C.due("by none", x.fits(), 8);
        C.due("by one", x.known(1), true);
        x.note(1, 1, true);
        C.due("by the first", x.fits(), 4);
        x.strike(0);
        C.due("the strike isn't one of these", x.fits(), 4);
        C.due("by all", x.known(3), true);
        C.due("struck", x.fits(), 4);
        C.due("the second", x.rang(1), 1);
        C.due("the first is struck", x.rang(0), 2);
        C.due("by two", x.known(2), true);
        C.due("both", x.fits(), 2);
        C.due("beyond", x.known(4), false);
        C.due("stays", x.count(13), 2);
        C.due("by all to come", x.known(-1), true);
        x.note(1, 2, true);
        C.due("four", x.count(13), 4);
        C.due("the last one, too", x.fits(), 2);
    }

    private static void fits() {
        BellPulls x = Checks.of(TEXT);
        C.due("all", x.fits(), 8);
        x.note(0, 0, false);
        C.due("p or r", x.fits(), 4);
        x.note(0, 1, false);
        C.due("p and q, or r", x.fits(), 2);
        x.note(1, 2, false);
        C.due("p and q", x.fits(), 1);
        // Neither what is stuck nor what is tied or on now is looked at.
        x.ring(0);
        x.tie(1, 0);
        x.ring(2);
        C.due("p and q", x.fits(), 1);
        C.due("p", x.rang(0), 1);
        x.note(0, 2, true);
        C.due("c is never on", x.fits(), 0);
        C.due("no lamps, no pulls", new BellPulls().fits(), 1);
    }

    private static void rang() {
        BellPulls x = Checks.of(TEXT);
        C.due("some", x.rang(0), 2);
        x.note(0, 1, true);
        x.note(1, 0, false);
        C.due("none", x.rang(0), 0);
        C.due("all", x.rang(1), 1);
        C.due("some", x.rang(2), 2);
        C.due("pull 3", x.rang(3), -1);
        C.due("pull -1", x.rang(-1), -1);
        x.note(1, 1, false);
        C.due("none fits", x.rang(0), -2);
        C.due("pull 3", x.rang(3), -1);
    }

    private static void ask() {
        BellPulls x = Checks.of(TEXT);
        C.due("a", x.ask(), 0);
        x.note(0, 0, true);
        C.due("b", x.ask(), 1);
        x.note(0, 1, true);
        C.due("none", x.ask(), -2);
        x.note(0, 2, true);
        C.due("none fits", x.ask(), -2);
        C.due("no lamps", new BellPulls().ask(), -2);
    }
}
