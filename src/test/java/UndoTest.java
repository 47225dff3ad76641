/** Promises 25 to 27: undo and saving. */
public final class UndoTest {
    private static void undo() {
        Due due = new Due("promise 25");
        TokenNets x = new TokenNets();
        for (int i = 0; i < 8; i++) {
            x.place(i);
            due.is("count(6)", x.count(6), Math.min(i + 1, 6));
        }
        for (int i = 5; i >= 0; i--) {
            due.is("undo()", x.undo(), i);
            due.is("count(0)", x.count(0), i + 2);
        }
        due.is("undo()", x.undo(), -5);
        due.is("count(0)", x.count(0), 2);
        due.is("count(6)", x.count(6), 0);
        // Each kind of change comes back whole: tokens, the most of them, arcs, what was made.
        TokenNets y = Due.net("p5;p0;m<0>1;m");
        y.make(0);
        y.tokens(1, 9);
        y.arc(0, 0, 9, 9);
        y.run(1, 50);
        due.is("undo() of run", y.undo(), 4);
        due.is("count(4)", y.count(4), 1);
        due.is("undo() of arc", y.undo(), 3);
        due.is("ofArc(0, 0, 0)", y.ofArc(0, 0, 0), 1);
        due.is("ofArc(0, 0, 1)", y.ofArc(0, 0, 1), 0);
        due.is("undo() of tokens", y.undo(), 2);
        due.is("ofPlace(1, 0)", y.ofPlace(1, 0), 1);
        due.is("ofPlace(1, 3)", y.ofPlace(1, 3), 1);
        due.is("undo() of make", y.undo(), 1);
        due.is("ofPlace(0, 0)", y.ofPlace(0, 0), 5);
        due.is("ofPlace(1, 3)", y.ofPlace(1, 3), 0);
        due.is("ofMove(0, 1)", y.ofMove(0, 1), 0);
        due.is("undo() of carryOut", y.undo(), 0);
        due.is("count(0)", y.count(0), 0);
        due.is("count(1)", y.count(1), 0);
        // The pad and the slots are left out, and a change by which nothing differs counts.
        TokenNets z = Due.net("p5;m");
        Due.write(z, "p1");
        z.tokens(0, 5);
        z.arc(0, 0, 0, 0);
        due.is("count(6)", z.count(6), 3);
        due.is("save(0)", z.save(0), 5);
        due.is("save(1)", z.save(1), 5);
        due.is("count(6), saving is no change", z.count(6), 3);
        due.is("undo()", z.undo(), 2);
        due.is("undo()", z.undo(), 1);
        due.is("undo()", z.undo(), 0);
        due.is("count(5)", z.count(5), 2);
        due.is("restore(0)", z.restore(0), 5);
        due.is("count(1)", z.count(1), 1);
        due.is("carryOut()", z.carryOut(), 1);
        due.is("undo()", z.undo(), 1);
        due.is("count(5), the pad stays empty", z.count(5), 0);
        due.is("undo() of restore", z.undo(), 0);
        due.is("count(0)", z.count(0), 0);
        due.is("undo()", z.undo(), -5);
    }

    private static void errorsRecordNothing() {
        Due due = new Due("promise 25, errors");
        TokenNets x = Due.net("p5;m<0*9");
        x.place(-1);
        x.arc(1, 0, 0, 0);
        x.arc(0, 0, 10, 0);
        x.tokens(1, 0);
        x.tokens(0, -1);
        x.make(0);
        x.make(1);
        x.run(-1, 1);
        x.carryOut();
        x.restore(0);
        x.restore(2);
        x.save(2);
        x.undo();
        due.is("count(6)", x.count(6), 0);
        due.is("count(0)", x.count(0), 0);
        // A full history keeps its oldest state through errors.
        TokenNets y = new TokenNets();
        for (int i = 0; i < 7; i++) {
            y.place(i);
        }
        y.place(-1);
        y.make(0);
        y.run(0, 0);
        y.restore(1);
        for (int i = 5; i >= 0; i--) {
            due.is("undo()", y.undo(), i);
            due.is("count(0)", y.count(0), i + 1);
        }
    }

    private static void save() {
        Due due = new Due("promise 26");
        TokenNets x = Due.net("p5;p3;m<0>1");
        due.is("save(-1)", x.save(-1), -2);
        due.is("save(2)", x.save(2), -2);
        due.is("save(0)", x.save(0), 8);
        x.make(0);
        x.arc(0, 1, 0, 9);
        due.is("save(1)", x.save(1), 8);
        due.is("make(0)", x.make(0), 1);
        due.is("restore(0)", x.restore(0), 8);
        due.is("ofPlace(0, 0)", x.ofPlace(0, 0), 5);
        due.is("ofArc(0, 1, 1)", x.ofArc(0, 1, 1), 1);
        due.is("count(4)", x.count(4), 0);
        due.is("restore(1)", x.restore(1), 8);
        due.is("ofPlace(0, 0)", x.ofPlace(0, 0), 4);
        due.is("ofArc(0, 1, 1)", x.ofArc(0, 1, 1), 9);
        due.is("count(4)", x.count(4), 1);
        due.is("tokens(0, 100)", x.tokens(0, 100), 4);
        due.is("save(0) once more", x.save(0), 104);
        x.tokens(0, 0);
        due.is("restore(0)", x.restore(0), 104);
        due.is("ofPlace(0, 3)", x.ofPlace(0, 3), 100);
    }

    private static void restore() {
        Due due = new Due("promise 27");
        TokenNets x = Due.net("p5;p3;m<0>1*2");
        due.is("restore(0)", x.restore(0), -5);
        due.is("restore(1)", x.restore(1), -5);
        due.is("restore(2)", x.restore(2), -2);
        due.is("restore(-1)", x.restore(-1), -2);
        due.is("save(1)", x.save(1), 8);
        due.is("restore(0)", x.restore(0), -5);
        due.is("count(6)", x.count(6), 1);
        Due.write(x, "p1;p");
        x.make(0);
        due.is("restore(1)", x.restore(1), 8);
        due.is("count(6)", x.count(6), 3);
        due.is("count(5), the pad stays", x.count(5), 4);
        due.is("ofPlace(1, 3)", x.ofPlace(1, 3), 3);
        // What comes after is not written into the slot.
        x.make(0);
        x.tokens(1, 77);
        due.is("restore(1) once more", x.restore(1), 8);
        due.is("ofPlace(1, 0)", x.ofPlace(1, 0), 3);
        due.is("undo()", x.undo(), 5);
        due.is("ofPlace(1, 0)", x.ofPlace(1, 0), 77);
        due.is("count(4)", x.count(4), 1);
        // An empty net can be saved, too.
        TokenNets y = new TokenNets();
        due.is("save(0) of nothing", y.save(0), 0);
        y.place(4);
        due.is("restore(0)", y.restore(0), 0);
        due.is("count(0)", y.count(0), 0);
        due.is("count(6)", y.count(6), 2);
    }

    public static void main(String[] args) {
        undo();
        errorsRecordNothing();
        save();
        restore();
        Due.end();
    }
}
