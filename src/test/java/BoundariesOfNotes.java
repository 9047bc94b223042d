/** Boundary cases of NOTES (in the third part of 'Terms') and of promises 32 to 37. */
final class BoundariesOfNotes {
    private static final int LOWEST = Integer.MIN_VALUE;
    private static final int HIGHEST = Integer.MAX_VALUE;
    /** Three pulls; c is turned over by none, and OFF. */
    private static final String TEXT = "lamp a;lamp b;lamp c;pull p 1 a b;pull q 1 b;pull r 1 a;lit a;law stick 1;ring r 0;";
    private static final String TEN = "lamp a;lamp b;lamp c;lamp d;lamp e;lamp f;lamp g;lamp h;lamp i;lamp j;lamp k;lamp l;"
            + "lamp m;lamp n;pull a 1 a;pull b 1 b;pull c 1 c;pull d 1 d;pull e 1 e;pull f 1 f;pull g 1 g;pull h 1 h;pull i 1 i;"
            + "pull j 1 n;";

    private final Boundaries b;

    BoundariesOfNotes(Boundaries b) {
        this.b = b;
    }

    void all() {
        whatIsNoted();
        whatIsStruck();
        note();
        strike();
        known();
        fits();
        rang();
        ask();
    }

    private void whatIsNoted() {
        b.at("Terms 3", "NOTES (note), at most 24, numbered from 0 on", () -> {
            BellPulls x = Checks.of(TEXT);
            for (int i = 0; i < 24; i++) {
                b.due("note", x.note(i % 2, i % 3, i % 5 == 0), i);
            }
            b.due("one more", x.note(0, 0, true), -1);
            b.due("24", x.count(12), 24);
        });
        b.at("Terms 3", "in an EVENING that comes of the TEXT's first one by the TEXT's PULLS, TIED as told, each rung once or not", () -> {
            BellPulls x = Checks.of(TEXT);
            x.note(0, 0, false);
            b.due("p or r, not both, and q or not", x.fits(), 4);
            x.note(0, 1, true);
            b.due("p, or q and r", x.fits(), 2);
            x.note(1, 1, false);
            b.due("p", x.fits(), 1);
            // Ringing by call and by minutes, burning out and mending change nothing of it.
            x.go(1);
            x.ring(0);
            x.ring(1);
            x.go(5);
            x.mend();
            b.due("p still", x.fits(), 1);
            b.due("p still", x.rang(0), 1);
        });
        b.at("Terms 3", "what is STUCK, TIED now isn't looked at", () -> {
            BellPulls x = Checks.of(TEXT);
            x.note(0, 1, true);
            b.due("p or q", x.fits(), 4);
            x.ring(0);
            x.ring(1);
            x.ring(2);
            b.due("all are stuck", x.count(8), 3);
            b.due("p or q", x.fits(), 4);
            for (int pull = 0; pull < 3; pull++) {
                for (int lamp = 0; lamp < 3; lamp++) {
                    x.tie(pull, lamp);
                }
            }
            b.due("p or q", x.fits(), 4);
            b.due("a is asked for", x.ask(), 0);
        });
        b.at("Terms 3", "a LAMP is ON, or isn't (0); or a PULL was rung, or wasn't (1)", () -> {
            int[][] due = {{4, 4}, {4, 4}, {0, 8}};
            for (int lamp = 0; lamp < 3; lamp++) {
                for (int is = 0; is < 2; is++) {
                    BellPulls x = Checks.of(TEXT);
                    x.note(0, lamp, is == 0);
                    b.due("lamp " + lamp + (is == 0 ? " is on" : " isn't"), x.fits(), due[lamp][is]);
                }
            }
            for (int pull = 0; pull < 3; pull++) {
                BellPulls x = Checks.of(TEXT);
                x.note(1, pull, true);
                b.due("pull " + pull, x.rang(pull), 1);
                x.note(1, pull, true);
                b.due("noted twice", x.fits(), 4);
                x.note(1, pull, false);
                b.due("that it wasn't, too", x.fits(), 0);
            }
            // Said twice, it is so still.
            int[] twice = {4, 4, 4, 4};
            for (int i = 0; i < 4; i++) {
                BellPulls x = Checks.of(TEXT);
                x.note(i / 2, 1, i % 2 == 0);
                x.note(i / 2, 1, i % 2 == 0);
                b.due("twice: " + i, x.fits(), twice[i]);
                b.due("fits only that", x.note(i / 2, 1, i % 2 != 0), 2);
                b.due("and the contrary: " + i, x.fits(), 0);
            }
        });
    }

    private void whatIsStruck() {
        b.at("Terms 3", "One may be STRUCK by a STRIKE, numbered on with them.", () -> {
            BellPulls x = Checks.of(TEXT);
            b.due("a note", x.note(1, 0, true), 0);
            b.due("a strike", x.strike(0), 1);
            b.due("a note", x.note(1, 1, true), 2);
            b.due("a strike", x.strike(2), 3);
            b.due("all are struck", x.fits(), 8);
        });
        b.at("Terms 3", "the first n that aren't STRUCK by one of these", () -> {
            BellPulls x = Checks.of(TEXT);
            x.note(1, 0, true);
            x.note(1, 1, true);
            x.strike(0);
            x.note(1, 2, true);
            int[] due = {8, 4, 2, 4, 2};
            for (int n = 0; n <= 4; n++) {
                x.known(n);
                b.due("fits by " + n, x.fits(), due[n]);
            }
            x.known(2);
            b.due("the strike isn't one of two", x.rang(0), 1);
            x.known(3);
            b.due("it is one of three", x.rang(0), 2);
        });
        b.at("Terms 3", "(a STRIKE may be STRUCK: then it doesn't count; asked from the last one on)", () -> {
            BellPulls x = Checks.of(TEXT);
            x.note(1, 0, true);
            // 1 strikes 0, 2 strikes 1, 3 strikes 2 and so on: the note counts by every other one.
            for (int i = 0; i < 23; i++) {
                x.strike(i);
                b.due("by strike " + (i + 1), x.fits(), i % 2 == 0 ? 8 : 4);
            }
            for (int n = 1; n <= 24; n++) {
                x.known(n);
                b.due("by the first " + n, x.fits(), n % 2 == 0 ? 8 : 4);
            }
            // A strike that is struck no more strikes; one that is struck twice still doesn't.
            BellPulls y = Checks.of(TEXT);
            y.note(1, 0, true);
            y.strike(0);
            y.strike(1);
            y.strike(1);
            b.due("struck twice", y.fits(), 4);
            y.strike(2);
            b.due("by one of both still", y.fits(), 4);
            y.strike(3);
            b.due("by none", y.fits(), 8);
        });
    }

    private void note() {
        b.at("Promise 32", "A NOTE of a LAMP (what 0), a PULL (1): its number", () -> {
            BellPulls x = Checks.of(TEN);
            b.due("the last lamp", x.note(0, 13, true), 0);
            b.due("by the last pull", x.rang(9), 1);
            b.due("the last pull", x.note(1, 9, false), 1);
            b.due("not both", x.fits(), 0);
        });
        b.at("Promise 32", "NONE: no such ones", () -> {
            BellPulls x = Checks.of("lamp a;lamp b;lamp c;pull p 1;");
            b.each("lamp", lamp -> x.note(0, lamp, true), -1, 3, 4, 14, 32, -1, LOWEST, HIGHEST);
            b.each("pull", pull -> x.note(1, pull, true), -1, 1, 2, 10, 32, -1, LOWEST, HIGHEST);
            b.each("what", what -> x.note(what, 0, true), -1, 2, 3, -1, LOWEST, HIGHEST);
            b.due("none was taken", x.count(12), 0);
            b.due("all fit", x.fits(), 2);
            b.due("nothing told", new BellPulls().note(0, 0, true), -1);
            b.due("nothing told", new BellPulls().note(1, 0, true), -1);
        });
        b.at("Promise 32", "or there are 24 in all", () -> {
            BellPulls x = Checks.of(TEXT);
            x.note(0, 0, true);
            for (int i = 1; i < 23; i++) {
                x.strike(0);
            }
            b.due("the last", x.note(0, 2, true), 23);
            b.due("one more", x.note(0, 0, false), -1);
            b.due("one more", x.note(1, 0, false), -1);
            b.due("24", x.count(12), 24);
            b.due("the last one counts", x.fits(), 0);
        });
    }

    private void strike() {
        b.at("Promise 33", "A STRIKE: its number", () -> {
            BellPulls x = Checks.of(TEXT);
            x.note(0, 0, true);
            b.due("of the first", x.strike(0), 1);
            b.due("of the same", x.strike(0), 2);
            b.due("of a strike", x.strike(2), 3);
        });
        b.at("Promise 33", "NONE: no such NOTE or STRIKE", () -> {
            BellPulls x = Checks.of(TEXT);
            b.each("there is none", x::strike, -1, 0, 1, -1, LOWEST, HIGHEST);
            x.note(0, 0, true);
            b.each("there is one", x::strike, -1, 1, 2, 23, 24, 32, -1, LOWEST, HIGHEST);
            b.due("none was taken", x.count(12), 1);
        });
        b.at("Promise 33", "or there are 24 in all", () -> {
            BellPulls x = Checks.of(TEXT);
            for (int i = 0; i < 23; i++) {
                x.note(1, 0, true);
            }
            b.due("the last", x.strike(22), 23);
            b.due("one more", x.strike(23), -1);
            b.due("one more", x.strike(0), -1);
            b.due("24", x.count(12), 24);
            b.due("the others aren't struck", x.fits(), 4);
        });
    }

    private void known() {
        b.at("Terms 3", "KNOWN by n (all at first)", () -> {
            BellPulls x = Checks.of(TEXT);
            b.due("by none yet", x.count(13), 0);
            for (int i = 1; i <= 24; i++) {
                x.note(1, 0, true);
                b.due("by all", x.count(13), i);
            }
        });
        b.at("Promise 34", "KNOWN by n from now on (-1: by all, also those to come): true", () -> {
            BellPulls x = Checks.of(TEXT);
            x.note(1, 0, true);
            b.due("by none", x.known(0), true);
            b.due("by none", x.fits(), 8);
            b.due("by none", x.count(13), 0);
            for (int i = 0; i < 4; i++) {
                BellPulls y = Checks.of(TEXT);
                y.note(i / 2, 0, i % 2 == 0);
                b.due("by one", y.fits(), 4);
                y.known(0);
                b.due("by none any more", y.fits(), 8);
                y.known(-1);
                b.due("by one again", y.fits(), 4);
            }
            b.due("by all that are there", x.known(1), true);
            x.note(1, 1, true);
            b.due("not by those to come", x.count(13), 1);
            b.due("not by those to come", x.fits(), 4);
            b.due("by all", x.known(-1), true);
            b.due("by both", x.fits(), 2);
            x.note(1, 2, true);
            b.due("by those to come", x.count(13), 3);
            b.due("by those to come", x.fits(), 1);
            for (int i = 3; i < 24; i++) {
                x.strike(2);
            }
            b.due("by 24", x.known(24), true);
            b.due("by 24", x.count(13), 24);
            b.due("the third is struck", x.fits(), 2);
        });
        b.at("Promise 34", "false: no such n", () -> {
            BellPulls x = Checks.of(TEXT);
            for (int n : new int[] {1, 2, 24, -2, LOWEST, HIGHEST}) {
                b.due("there is none: " + n, x.known(n), false);
            }
            x.note(1, 0, true);
            x.note(1, 1, true);
            x.known(1);
            for (int n : new int[] {3, 4, 24, 25, -2, -3, LOWEST, HIGHEST}) {
                b.due("there are two: " + n, x.known(n), false);
            }
            b.due("it stays", x.count(13), 1);
            b.due("it stays", x.fits(), 4);
        });
    }

    private void fits() {
        b.at("Terms 3", "FITS: how many sets of PULLS there are by which all KNOWN ones are so.", () -> {
            BellPulls x = Checks.of(TEXT);
            b.due("by none", x.fits(), 8);
            x.note(0, 0, false);
            b.due("p or r, not both", x.fits(), 4);
            x.note(1, 2, true);
            b.due("r, not p", x.fits(), 2);
            x.note(0, 1, true);
            b.due("r and q", x.fits(), 1);
            x.note(1, 1, false);
            b.due("never", x.fits(), 0);
            x.known(3);
            b.due("all KNOWN ones alone", x.fits(), 1);
        });
        b.at("Promise 35", "FITS", () -> {
            b.due("nothing told", new BellPulls().fits(), 1);
            b.due("no pull", Checks.of("lamp a;lit a;").fits(), 1);
            BellPulls x = Checks.of("lamp a;lit a;");
            x.note(0, 0, false);
            b.due("none", x.fits(), 0);
            BellPulls ten = Checks.of(TEN);
            b.due("the most", ten.fits(), 1024);
            for (int pull = 0; pull < 10; pull++) {
                ten.note(1, pull, pull % 2 == 0);
                b.due("half of it", ten.fits(), 512 >> pull);
            }
        });
    }

    private void rang() {
        b.at("Terms 3", "RANG of a PULL: in all of these (1), none (0), some (2).", () -> {
            BellPulls x = Checks.of(TEXT);
            b.due("some", x.rang(0), 2);
            x.note(0, 1, true);
            x.note(1, 0, false);
            b.due("none", x.rang(0), 0);
            b.due("all", x.rang(1), 1);
            b.due("some", x.rang(2), 2);
        });
        b.at("Promise 36", "-2: none fits", () -> {
            BellPulls x = Checks.of(TEXT);
            x.note(0, 2, true);
            for (int pull = 0; pull < 3; pull++) {
                b.due("rang " + pull, x.rang(pull), -2);
            }
        });
        b.at("Promise 36", "NONE: no such PULL", () -> {
            BellPulls x = Checks.of(TEXT);
            b.each("three", x::rang, -1, 3, 4, 10, 31, 32, -1, LOWEST, HIGHEST);
            x.note(0, 2, true);
            b.each("none fits", x::rang, -1, 3, -1);
            b.each("ten", Checks.of(TEN)::rang, -1, 10, -1);
            b.due("the last of ten", Checks.of(TEN).rang(9), 2);
            b.due("nothing told", new BellPulls().rang(0), -1);
        });
    }

    private void ask() {
        b.at("Terms 3", "ASK: the first LAMP that is ON by some of these, not by all.", () -> {
            BellPulls x = Checks.of(TEXT);
            b.due("the first", x.ask(), 0);
            x.note(0, 0, false);
            b.due("the next", x.ask(), 1);
            x.known(0);
            b.due("by what is known", x.ask(), 0);
            BellPulls ten = Checks.of(TEN);
            for (int lamp = 0; lamp < 9; lamp++) {
                ten.note(0, lamp, lamp % 2 == 0);
            }
            b.due("the last, though four are ahead of it that stay", ten.ask(), 13);
        });
        b.at("Promise 37", "-2: there is none", () -> {
            BellPulls x = Checks.of(TEXT);
            x.note(0, 0, true);
            x.note(0, 1, true);
            b.due("two fit, but all lamps are alike", x.fits(), 2);
            b.due("none is open", x.ask(), -2);
            x.note(0, 2, true);
            b.due("none fits", x.ask(), -2);
            b.due("no pull", Checks.of("lamp a;lit a;").ask(), -2);
            b.due("no lamp", Checks.of("pull p 1;").ask(), -2);
            b.due("nothing told", new BellPulls().ask(), -2);
        });
    }
}
