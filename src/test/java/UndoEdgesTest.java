/** The edges that promises 25 to 27 name, and the 512 calls of an object, a method for each. */
public final class UndoEdgesTest {
    private static void nothingToUndo() {
        Due due = new Due("promise 25, NOT_POSSIBLE if there is none");
        TokenNets x = new TokenNets();
        due.is("undo() of a new object", x.undo(), -5);
        x.place(1);
        due.is("undo()", x.undo(), 0);
        due.is("undo() of none", x.undo(), -5);
        due.is("undo() of none again", x.undo(), -5);
        due.is("count(6)", x.count(6), 0);
        due.is("place(2)", x.place(2), 0);
        due.is("count(6)", x.count(6), 1);
    }

    private static void atMost6States() {
        Due due = new Due("promise 25, at most 6 states, the oldest one is dropped");
        for (int changes = 1; changes <= 20; changes++) {
            TokenNets x = new TokenNets();
            x.place(0);
            for (int i = 1; i < changes; i++) {
                x.tokens(0, i);
            }
            int kept = Math.min(changes, 6);
            due.is("count(6) after " + changes, x.count(6), kept);
            for (int i = kept - 1; i >= 0; i--) {
                due.is("undo() after " + changes, x.undo(), i);
                int left = changes - kept + i;
                due.is("ofPlace(0, 0) after " + left, x.ofPlace(0, 0), left == 0 ? -1 : left - 1);
            }
            due.is("undo() of all", x.undo(), -5);
        }
    }

    private static void eachChangeIsRecorded() {
        Due due = new Due("promise 25, each method that is a change");
        TokenNets x = new TokenNets();
        x.place(3);
        due.is("count(6) after place", x.count(6), 1);
        x.move();
        due.is("count(6) after move", x.count(6), 2);
        x.arc(0, 0, 1, 0);
        due.is("count(6) after arc", x.count(6), 3);
        x.tokens(0, 9);
        due.is("count(6) after tokens", x.count(6), 4);
        x.make(0);
        due.is("count(6) after make", x.count(6), 5);
        x.run(3, 2);
        due.is("count(6) after run", x.count(6), 6);
        x.undo();
        x.undo();
        Due.write(x, "!0");
        x.carryOut();
        due.is("count(6) after carryOut", x.count(6), 5);
        x.save(0);
        x.restore(0);
        due.is("count(6) after restore", x.count(6), 6);
    }

    private static void whatIsNoChange() {
        Due due = new Due("promise 25, what is no change records nothing");
        TokenNets x = Due.net("p3;m<0");
        x.save(0);
        x.save(1);
        x.put('p');
        x.fault();
        x.wipe();
        Answers.all(x);
        due.is("count(6)", x.count(6), 1);
        due.is("undo()", x.undo(), 0);
        due.is("undo(), which itself is not undone", x.undo(), -5);
    }

    /** Also changes by which nothing is different: each pushes an older state out. */
    private static void evenIfNothingIsDifferent() {
        Due due = new Due("promise 25, also if nothing is different then");
        TokenNets x = Due.net("p3;m;m<0*9");
        x.tokens(0, 3);
        due.is("count(6) after tokens", x.count(6), 2);
        x.arc(0, 0, 0, 0);
        due.is("count(6) after arc", x.count(6), 3);
        x.save(0);
        x.restore(0);
        due.is("count(6) after restore", x.count(6), 4);
        Due.write(x, "!1");
        x.carryOut();
        due.is("count(6) after carryOut", x.count(6), 5);
        TokenNets y = Due.net("p3;m<0*9");
        due.is("run(1, 1)", y.run(1, 1), 0);
        due.is("count(6) after run", y.count(6), 2);
        for (int i = 0; i < 6; i++) {
            y.tokens(0, 3);
        }
        for (int i = 0; i < 6; i++) {
            y.undo();
        }
        due.is("count(0), that of the text is dropped", y.count(0), 1);
        due.is("undo()", y.undo(), -5);
    }

    /** With a full history, no error may drop the oldest state. */
    private static void errorsDropNothing() {
        Due due = new Due("promise 25, an error records nothing");
        TokenNets x = new TokenNets();
        for (int i = 0; i < 7; i++) {
            x.place(i);
        }
        x.place(1000);
        x.tokens(7, 0);
        x.tokens(0, 1000);
        x.arc(0, 0, 0, 0);
        x.make(0);
        x.run(0, 0);
        x.run(-1, 1);
        x.carryOut();
        x.restore(0);
        x.restore(2);
        due.is("count(6)", x.count(6), 6);
        for (int i = 5; i >= 0; i--) {
            due.is("undo()", x.undo(), i);
            due.is("count(0)", x.count(0), i + 1);
        }
        due.is("undo()", x.undo(), -5);
    }

    private static void changesAfterUndo() {
        Due due = new Due("promise 25, changes after undo");
        TokenNets x = new TokenNets();
        x.place(0);
        for (int i = 1; i < 8; i++) {
            x.tokens(0, i);
        }
        // Of the states 1 to 6, those of 4 to 6 are gone then.
        x.undo();
        x.undo();
        x.undo();
        due.is("ofPlace(0, 0)", x.ofPlace(0, 0), 4);
        x.tokens(0, 50);
        x.tokens(0, 60);
        due.is("count(6)", x.count(6), 5);
        due.is("undo()", x.undo(), 4);
        due.is("ofPlace(0, 0)", x.ofPlace(0, 0), 50);
        due.is("undo()", x.undo(), 3);
        due.is("ofPlace(0, 0)", x.ofPlace(0, 0), 4);
        due.is("undo()", x.undo(), 2);
        due.is("ofPlace(0, 0)", x.ofPlace(0, 0), 3);
        due.is("undo()", x.undo(), 1);
        due.is("undo()", x.undo(), 0);
        due.is("ofPlace(0, 0)", x.ofPlace(0, 0), 1);
        due.is("undo()", x.undo(), -5);
    }

    private static void aTextIsOneState() {
        Due due = new Due("promise 25, an order of a text records nothing by itself");
        TokenNets x = Due.net("p1;m");
        for (int i = 2; i < 7; i++) {
            x.tokens(0, i);
        }
        Due.write(x, "=0:7;=0:8;=0:9;p1;m;!0;!1;=0:1");
        due.is("carryOut()", x.carryOut(), 8);
        due.is("count(6)", x.count(6), 6);
        due.is("undo()", x.undo(), 5);
        due.is("ofPlace(0, 0)", x.ofPlace(0, 0), 6);
        due.is("count(4)", x.count(4), 0);
        for (int i = 4; i >= 0; i--) {
            due.is("undo()", x.undo(), i);
            due.is("ofPlace(0, 0)", x.ofPlace(0, 0), i + 1);
        }
    }

    private static void exceptThePad() {
        Due due = new Due("promises 25 to 27, except the pad");
        TokenNets x = Due.net("p1");
        Due.write(x, "p2;");
        x.save(0);
        x.tokens(0, 2);
        Due.write(x, "p3");
        due.is("undo()", x.undo(), 1);
        due.is("count(5) after undo", x.count(5), 5);
        due.is("fault() after undo", x.fault(), -6);
        due.is("restore(0)", x.restore(0), 1);
        due.is("count(5) after restore", x.count(5), 5);
        due.is("carryOut()", x.carryOut(), 2);
        due.is("undo()", x.undo(), 2);
        due.is("count(5), it stays empty", x.count(5), 0);
        due.is("restore(0)", x.restore(0), 1);
        due.is("count(5), it stays empty", x.count(5), 0);
    }

    private static void exceptTheSlots() {
        Due due = new Due("promise 25, except the slots");
        TokenNets x = new TokenNets();
        x.place(4);
        due.is("save(0)", x.save(0), 4);
        due.is("undo()", x.undo(), 0);
        due.is("restore(0), saved after what is undone", x.restore(0), 4);
        due.is("count(6)", x.count(6), 1);
        due.is("undo()", x.undo(), 0);
        due.is("count(0)", x.count(0), 0);
    }

    private static void exceptTheHistory() {
        Due due = new Due("promises 26 and 27, except the history");
        TokenNets x = new TokenNets();
        x.place(1);
        x.save(0);
        x.tokens(0, 2);
        x.tokens(0, 3);
        due.is("restore(0)", x.restore(0), 1);
        due.is("count(6), of all so far", x.count(6), 4);
        due.is("undo()", x.undo(), 3);
        due.is("ofPlace(0, 0)", x.ofPlace(0, 0), 3);
        due.is("undo()", x.undo(), 2);
        due.is("ofPlace(0, 0)", x.ofPlace(0, 0), 2);
    }

    private static void slots0And1() {
        Due due = new Due("promises 26 and 27, slot 0 or 1");
        TokenNets x = Due.net("p5");
        for (int slot : new int[] {-1, 2, 3, Integer.MIN_VALUE, Integer.MAX_VALUE}) {
            due.is("save(" + slot + ")", x.save(slot), -2);
            due.is("restore(" + slot + ")", x.restore(slot), -2);
        }
        due.is("restore(0)", x.restore(0), -5);
        due.is("restore(1)", x.restore(1), -5);
        due.is("save(1)", x.save(1), 5);
        due.is("restore(0), only the other one is saved", x.restore(0), -5);
        due.is("restore(1)", x.restore(1), 5);
        x.tokens(0, 6);
        due.is("save(0)", x.save(0), 6);
        due.is("restore(1)", x.restore(1), 5);
        due.is("restore(0)", x.restore(0), 6);
    }

    private static void overwritesWhatWasSaved() {
        Due due = new Due("promise 26, overwrites what was saved there");
        TokenNets x = Due.net("p5;p6;m<0");
        x.make(0);
        due.is("save(0)", x.save(0), 10);
        TokenNets empty = new TokenNets();
        due.is("save(0) of nothing", empty.save(0), 0);
        for (int i = 0; i < 3; i++) {
            x.undo();
        }
        due.is("save(0) of nothing over something", x.save(0), 0);
        x.place(9);
        due.is("restore(0)", x.restore(0), 0);
        due.is("count(0)", x.count(0), 0);
        due.is("count(1)", x.count(1), 0);
        due.is("place(0)", x.place(0), 0);
        due.is("ofPlace(0, 1)", x.ofPlace(0, 1), 0);
    }

    private static void everythingIsSaved() {
        Due due = new Due("promises 25 to 27, everything except the pad, the slots and the history");
        TokenNets x = Due.net("p1;p2;p3;p4;p5;p6;p7;p8;m<0>7*9;m<1>6;m;m;m;m;m;m<7*3>0*2");
        TokenNets y = Due.net("p1;p2;p3;p4;p5;p6;p7;p8;m<0>7*9;m<1>6;m;m;m;m;m;m<7*3>0*2");
        for (TokenNets z : new TokenNets[] {x, y}) {
            z.run(77, 40);
            z.tokens(3, 2);
        }
        x.save(1);
        x.undo();
        x.undo();
        x.undo();
        Due.write(x, "m;m;p9;p9;!0;!1");
        x.carryOut();
        x.restore(1);
        // As many changes as the other one has seen.
        y.undo();
        y.tokens(3, 2);
        String told = Answers.all(x).replaceAll("counts.*", "");
        due.is("all after restore", told.equals(Answers.all(y).replaceAll("counts.*", "")) ? 0 : 1, 0);
    }

    private static void theSlotKeepsIt() {
        Due due = new Due("promise 27, the slot keeps it");
        TokenNets x = Due.net("p5;m>0");
        x.save(0);
        for (int i = 0; i < 3; i++) {
            x.make(0);
            x.arc(0, 0, 0, 9);
            due.is("restore(0)", x.restore(0), 5);
            due.is("ofArc(0, 0, 1)", x.ofArc(0, 0, 1), 1);
            due.is("ofMove(0, 1)", x.ofMove(0, 1), 0);
            due.is("ofPlace(0, 3)", x.ofPlace(0, 3), 5);
        }
        x.undo();
        due.is("ofArc(0, 0, 1), that of before restore", x.ofArc(0, 0, 1), 9);
        due.is("ofMove(0, 1), that of before restore", x.ofMove(0, 1), 1);
    }

    private static void the512thCall() {
        Due due = new Due("an object is used for at most 512 calls");
        TokenNets x = new TokenNets();
        x.place(0);
        x.move();
        x.arc(0, 0, 0, 9);
        for (int call = 4; call <= 511; call++) {
            due.is("run(0, 99), the call " + call, x.run(0, 99), call <= 115 ? 99 : call == 116 ? 23 : 0);
        }
        due.is("count(4), the call 512", x.count(4), 11111);
        TokenNets y = new TokenNets();
        for (int call = 1; call <= 511; call++) {
            due.is("move() and undo(), the call " + call, call % 2 == 1 ? y.move() : y.undo(), 0);
        }
        due.is("undo(), the call 512", y.undo(), 0);
        TokenNets z = new TokenNets();
        z.place(0);
        for (int call = 2; call <= 512; call++) {
            due.is("tokens(), the call " + call, z.tokens(0, call), call == 2 ? 0 : call - 1);
        }
    }

    public static void main(String[] args) {
        nothingToUndo();
        atMost6States();
        eachChangeIsRecorded();
        whatIsNoChange();
        evenIfNothingIsDifferent();
        errorsDropNothing();
        changesAfterUndo();
        aTextIsOneState();
        exceptThePad();
        exceptTheSlots();
        exceptTheHistory();
        slots0And1();
        overwritesWhatWasSaved();
        everythingIsSaved();
        theSlotKeepsIt();
        the512thCall();
        Due.end();
    }
}
