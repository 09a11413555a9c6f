/**
 * Each promise's own sentence: every number that a call takes, at the last that is allowed and at the first that is not,
 * what is refused in which order, and the answers where there is nothing, or all there is room for.
 */
public final class PromisesBoundsTest {
    /**
     * A parish of two stones and one of each sort in its year 3, all bumped at both stones; images 0, 1; the rows 0 and 7
     * of ints; a trace; bytes on the tape; a finding in status().
     */
    private static final String RICH = "tell:w9,3;s50;s10;h20,70;b30,60;d10,90;t40,80;n5,99;=5 walk(0,31,5) walk(1,31,6) "
        + "bribe(1,7) years(2) image(0) move(0,60) image(1) years(1) ask(1,0) row(0,2,5) set(0,1,50) row(7,2,6) feed(119) "
        + "feed(49) set(3,0,0)=NULL ";
    /** Six stones and six witnesses. */
    private static final String WHOLE = "tell:w9,1;s1;s2;s3;s4;s5;s6;h0,99;b0,99;d0,99;t0,99;n0,99;b0,99;=6 ";
    private static final String ONE = "tell:w1,1;s0;h0,1;=1 ";

    private static final Due due = new Due("PromisesBoundsTest");
    private static final Script script = new Script(due);

    public static void main(String[] args) {
        newObject();
        rowsMade();
        rowsChanged();
        told();
        undone();
        done();
        seen();
        sworn();
        foretold();
        settled();
        imagesKept();
        asked();
        counted();
        statuses();
        script.covers('P', 1, 36);
        due.end();
    }

    /** One number of a call, in the rich parish. */
    private static void edges(int promise, String sentence, String call, int first, int last, String... refusals) {
        script.edges("P" + promise, sentence, RICH, call, first, last, refusals);
    }

    private static void run(int promise, String sentence, String... steps) {
        script.run("P" + promise, sentence, steps);
    }

    // ---- promise 1

    private static void newObject() {
        String none = "`BeatBounds()`: No PARISH.";
        run(1, none, "count(0)=0 count(1)=0 count(2)=0 count(3)=0 count(4)=0 count(5)=0 count(6)=0 status()=0",
            "fault()=0");
        run(1, none, "years(1)=STATE stood(0,0,0)=STATE agree(1)=STATE drawn(0,1,0)=STATE image(0)=STATE",
            "restore(0)=STATE undo()=STATE");
        run(1, none, "stone(0)=BAD witness(0,0)=BAD kind(0)=BAD trace(0)=NONE parish()=FAULT0 fault()=1");
    }

    // ---- promises 2 to 5

    private static void rowsMade() {
        String bad = "BAD: ROW, LANE, n above 40; SIZE.";
        edges(2, bad, "row(?,0,1)", 0, 7);
        edges(2, bad, "row(2,?,1)", 0, 2);
        edges(2, bad, "row(2,0,?)", 0, 40, "SIZE", "BAD");
        run(2, bad, RICH, "row(-1,0,-1)=BAD row(8,0,-1)=BAD row(0,-1,-1)=BAD row(0,3,-1)=BAD row(0,3,41)=BAD");
        String place = "A ROW of a LANE with n ITEMS, in place of what is there: n.";
        run(2, place, ONE, "row(3,2,2)=2 set(3,1,50) row(3,0,5)=5 stood(3,1,0)=4 set(3,4,300)=44 set(3,5,0)=PLACE",
            "row(3,1,0)=0",
            "set(3,0,0)=PLACE count(0)=1 row(3,2,40)=40 drop(3)=40");
        run(2, place, "row(0,0,1) row(1,0,1) row(2,0,1) row(3,0,1) row(4,0,1) row(5,0,1) row(6,0,1) row(7,0,1)",
            "count(0)=8 row(8,0,1)=BAD");
    }

    private static void rowsChanged() {
        String set = "ITEM i becomes v, its lowest bits, as many as the LANE has: what it is then. BAD: ROW; NULL; PLACE.";
        edges(3, set, "set(?,0,1)", 0, 7);
        edges(3, set, "set(0,?,1)", 0, 4, "PLACE");
        edges(3, set, "set(7,?,1)", 0, 5, "PLACE");
        run(3, set, RICH, "set(1,0,1)=NULL set(1,-1,1)=NULL set(8,-1,1)=BAD set(6,0,1)=NULL");
        run(3, set, "row(0,0,1) set(0,0,128)=-128 set(0,0,-129)=127 row(0,1,1) set(0,0,32768)=-32768",
            "set(0,0,-32769)=32767 row(0,2,1)",
            "set(0,0,MAX)=MAX set(0,0,MIN)=MIN");
        run(3, set, ONE, "row(0,0,3) set(0,1,44)=44 stood(0,0,1)=0 stood(0,1,1)=41 stood(0,2,1)=0 set(0,1,300)=44",
            "stood(0,1,1)=41");
        String copy = "BAD: ROWS; NULL; STORE; PLACE (i, j, n below 0, or beyond an end).";
        edges(4, copy, "copy(?,0,7,0,1)", 0, 7);
        edges(4, copy, "copy(0,0,?,0,1)", 0, 7);
        edges(4, copy, "copy(0,?,7,0,1)", 0, 4, "PLACE");
        edges(4, copy, "copy(0,?,7,0,0)", 0, 5, "PLACE");
        edges(4, copy, "copy(0,0,7,?,1)", 0, 5, "PLACE");
        edges(4, copy, "copy(0,0,7,?,0)", 0, 6, "PLACE");
        edges(4, copy, "copy(0,0,7,0,?)", 0, 5, "PLACE");
        edges(4, copy, "copy(7,0,0,0,?)", 0, 5, "PLACE");
        edges(4, copy, "copy(7,2,0,0,?)", 0, 4, "PLACE");
        edges(4, copy, "copy(7,0,0,2,?)", 0, 3, "PLACE");
        run(4, copy, RICH, "row(2,1,3) copy(8,-1,2,0,1)=BAD copy(0,0,-1,0,1)=BAD copy(1,-1,2,0,1)=NULL",
            "copy(2,-1,1,0,1)=NULL",
            "copy(0,-1,2,0,1)=STORE copy(2,0,7,0,4)=STORE copy(0,MAX,7,MAX,MAX)=PLACE copy(0,1,7,1,MAX)=PLACE",
            "copy(0,MIN,7,0,MIN)=PLACE");
        run(4, copy, "row(0,2,0) row(1,2,0) copy(0,0,1,0,0)=0 copy(0,0,1,0,1)=PLACE copy(0,1,1,0,0)=PLACE",
            "copy(0,0,1,1,0)=PLACE");
        String ahead = "n ITEMS of a from i on come to b from j on, as they were ahead: n.";
        String items = ONE + "row(0,2,5) set(0,0,10) set(0,1,20) set(0,2,30) set(0,3,40) set(0,4,50) ";
        run(4, ahead, items, "copy(0,0,0,1,4)=4", items(0, 10, 10, 20, 30, 40));
        run(4, ahead, items, "copy(0,1,0,0,4)=4", items(0, 20, 30, 40, 50, 50));
        run(4, ahead, items, "copy(0,0,0,0,5)=5", items(0, 10, 20, 30, 40, 50));
        run(4, ahead, items, "row(1,2,5) copy(0,1,1,2,3)=3", items(1, 0, 0, 20, 30, 40), items(0, 10, 20, 30, 40, 50));
        run(4, ahead, items, "row(1,2,5) copy(0,5,1,5,0)=0 copy(0,0,1,0,0)=0", items(1, 0, 0, 0, 0, 0));
        run(4, ahead, "row(0,0,40) row(1,0,40) copy(0,0,1,0,40)=40 copy(0,0,1,0,41)=PLACE copy(0,40,1,40,0)=0");
        String drop = "A ROW is missing from now on: how many ITEMS it had. BAD; NULL.";
        edges(5, drop, "drop(?)", 0, 7);
        run(5, drop, RICH, "drop(1)=NULL drop(0)=5 drop(0)=NULL set(0,0,1)=NULL drop(7)=6 count(0)=0 row(0,0,0)=0",
            "drop(0)=0 row(0,0,40) drop(0)=40");
    }

    /** What a row's items are, as one honest witness tells them; 0 or 3 to 99. */
    private static String items(int row, int... items) {
        StringBuilder steps = new StringBuilder();
        for (int i = 0; i < items.length; i++) {
            String stood = "stood(" + row + "," + i + ",";
            steps.append(stood).append("0)=").append(items[i] == 0 ? 4 : 7).append(' ');
            steps.append(stood).append("1)=").append(items[i] == 0 ? 0 : items[i] - 3).append(' ');
        }
        return steps.toString();
    }

    // ---- promises 6 to 9

    private static void told() {
        String feed = "A byte (0 to 255) comes behind the tape: how many it has. BAD; FULL.";
        edges(6, feed, "feed(?)", 0, 255);
        run(6, feed, "feed(0)=1 feed(255)=2 117*feed(119) feed(119)=120 feed(119)=FULL feed(0)=FULL feed(255)=FULL",
            "feed(-1)=BAD feed(256)=BAD",
            "count(6)=120 parish()=FAULT0 feed(119)=1");
        String parish = "The tape, empty then, is read: how many WITNESSES there are.";
        run(7, parish, "parish()=FAULT0 fault()=1 count(6)=0", ONE, "count(6)=0 parish()=FAULT0 count(2)=1");
        run(7, parish, WHOLE, "count(2)=6 count(6)=0 feed(119)=1");
        run(7, parish, "feed(119) feed(49) parish()=FAULT2 count(6)=0 feed(119)=1 feed(49)=2 count(6)=2");
        String stays = "-1000100 less the place of a FAULT: all stays.";
        run(7, stays, RICH, "parish()=FAULT2 fault()=1 status()=1");
        run(7, stays, RICH, "feed(44) feed(48) parish()=FAULT3 fault()=2 count(6)=0 trace(0)=12 count(5)=7 count(3)=3");
        run(7, stays, "tell:w1,1;s1;s2;s3;s4;s5;s6;s7;=FAULT23 fault()=3 count(1)=0 years(1)=STATE");
        run(7, stays, WHOLE, "walk(0,63,9) bribe(1,3) bribe(5,-3) years(2) tell:w1,1;s0;h0,1;b0,1;x=FAULT18",
            "count(2)=6 count(5)=5 witness(5,3)=-3");
        String fault = "The number of the latest FAULT; 0 before one.";
        run(8, fault, "fault()=0", ONE, "fault()=0 tell:w0=FAULT1 fault()=2 tell:w=FAULT1 fault()=1", ONE, "fault()=1",
            "tell:w1,1;s0;s0;s0;s0;s0;s0;s0;=FAULT23 fault()=3 fault()=3");
    }

    private static void undone() {
        String undo = "The latest ACT is undone: how many can be undone yet. STATE: none.";
        run(9, undo, "undo()=STATE", ONE, "undo()=STATE move(0,9)=0 undo()=0 stone(0)=0 undo()=STATE");
        run(9, undo, ONE, "years(24) count(5)=24 undo()=23 count(3)=23 22*undo() undo()=0 count(3)=0 undo()=STATE",
            "count(5)=0");
        run(9, undo, ONE, "move(0,9) 24*years(1) count(5)=24 23*undo() undo()=0 count(3)=0 stone(0)=9 undo()=STATE");
        run(9, undo, ONE, "years(24) undo()=23 move(0,5) count(5)=24 move(0,6) count(5)=24 undo()=23 stone(0)=5",
            "undo()=22 stone(0)=0 undo()=21",
            "count(3)=22");
        run(9, undo, RICH, "undo()=6 count(3)=2 undo()=5 stone(0)=50 undo()=4 undo()=3 undo()=2 witness(1,3)=0",
            "undo()=1 memory(0,1,0)=NONE",
            "memory(0,0,0)=50 undo()=0 memory(0,0,0)=NONE undo()=STATE");
    }

    // ---- promises 10 to 16

    private static void done() {
        String walk = "A walk to a STONE with PAIN (1 to 9) of told witnesses (bits): how many are bumped. BAD.";
        edges(10, walk, "walk(?,1,1)", 0, 1);
        edges(10, walk, "walk(0,?,1)", 0, 31);
        edges(10, walk, "walk(0,1,?)", 1, 9);
        run(10, walk, WHOLE, "walk(5,63,9)=6 walk(5,64,9)=BAD walk(6,63,9)=BAD walk(5,32,1)=1 memory(5,5,1)=1",
            "walk(0,0,1)=0 count(5)=3");
        run(10, walk, ONE, "walk(0,1,1)=1 walk(0,2,1)=BAD walk(0,3,1)=BAD years(1) walk(0,1,1)=0 count(5)=3 undo()=2");
        String move = "A STONE is moved (YARD 0 to 99): where it was. BAD.";
        edges(11, move, "move(?,1)", 0, 1);
        edges(11, move, "move(0,?)", 0, 99);
        run(11, move, WHOLE, "move(5,99)=6 stone(5)=99 move(5,0)=99 stone(5)=0 move(6,0)=BAD stone(4)=5 move(5,0)=0",
            "count(5)=3");
        String bribe = "BRIBE (-20 to 20): what it was. BAD; STATE: it is no bribed one.";
        script.edges("P12", bribe, "tell:w1,1;s0;b0,9;h0,9;b0,9;=3 years(1) ", "bribe(2,?)", -20, 20);
        script.edges("P12", bribe, "tell:w1,1;s0;b0,9;h0,9;b0,9;=3 years(1) ", "bribe(?,5)", 0, 2);
        run(12, bribe, RICH, "bribe(0,1)=STATE bribe(2,1)=STATE bribe(3,1)=STATE bribe(4,1)=STATE bribe(5,1)=BAD",
            "bribe(0,21)=BAD bribe(0,-21)=BAD",
            "bribe(1,-20)=7 bribe(1,20)=-20 bribe(1,0)=20");
        run(12, bribe, "tell:w1,1;s0;b0,1;=1 years(1)=0 bribe(0,3)=0 witness(0,3)=3");
        years();
    }

    private static void years() {
        String years = "n YEARS (1 to 24), an ACT each: how many are alive.";
        edges(13, years, "years(?)", 1, 24);
        run(13, years, WHOLE, "years(24)=6 count(5)=24 years(1)=6 count(5)=24 count(3)=25");
        run(13, years, "tell:w1,1;s0;h0,24;h0,25;h0,1;=3 years(24)=1 years(1)=0 years(1)=0");
        String full = "BAD; STATE: no PARISH (ahead of BAD); FULL: YEAR would be above 999.";
        run(13, full, "years(0)=STATE years(25)=STATE years(1)=STATE years(MIN)=STATE");
        run(13, full, ONE, "41*years(24) years(16)=FULL years(24)=FULL years(25)=BAD years(0)=BAD count(3)=984",
            "years(15)=0 count(3)=999 years(1)=FULL",
            "undo()=23 years(2)=FULL years(1)=0 count(3)=999 witness(0,0)=999");
        run(13, full, ONE, "40*years(24) image(0) years(24) years(14) years(2)=FULL years(1)=0 restore(0)=1",
            "count(3)=960 years(24)=0",
            "tell:w1,1;s0;h0,99;=1 count(3)=0 years(24)=1");
    }

    private static void seen() {
        String witness = "Of a witness: 0 AGE, 1 ENDS, 2 whether alive (1, 0), 3 BRIBE, 4 STONES to which it SWEARS (bits). BAD.";
        edges(14, witness, "witness(?,0)", 0, 4);
        edges(14, witness, "witness(0,?)", 0, 4);
        run(14, witness, WHOLE, "witness(5,0)=0 witness(5,1)=99 witness(5,2)=1 witness(5,3)=0 witness(5,4)=0",
            "walk(0,63,4) walk(5,63,5)",
            "witness(0,4)=33 witness(3,4)=32 witness(5,4)=33 witness(6,4)=BAD bribe(5,-20) witness(5,3)=-20",
            "witness(0,3)=0");
        run(14, witness, "tell:w9,1;s0;h0,1;n0,1;=2 walk(0,3,9) years(1) witness(0,0)=1 witness(0,1)=1 witness(0,2)=0",
            "witness(0,4)=0 witness(1,2)=0",
            "witness(1,4)=1");
        String memory = "Of a witness, a STONE: 0 the YARD at which it was bumped last, 1 with what PAIN, 2 in which YEAR (also if it remembers it "
            + "no more), 3 to which YARD it SWEARS; NONE: it was never bumped there (0 to 2), does not SWEAR (3). BAD.";
        edges(15, memory, "memory(?,0,0)", 0, 4);
        edges(15, memory, "memory(0,?,0)", 0, 1);
        edges(15, memory, "memory(0,0,?)", 0, 3);
        run(15, memory, ONE, "memory(0,0,0)=NONE memory(0,0,1)=NONE memory(0,0,2)=NONE memory(0,0,3)=NONE walk(0,1,1)",
            "memory(0,0,0)=0 memory(0,0,1)=1",
            "memory(0,0,2)=0 memory(0,0,3)=0 years(1) memory(0,0,0)=0 memory(0,0,1)=1 memory(0,0,2)=0",
            "memory(0,0,3)=NONE");
        run(15, memory, WHOLE, "years(24) years(24) years(12) walk(5,32,9)=1 memory(5,5,2)=60 memory(5,5,0)=6",
            "memory(5,4,0)=NONE memory(4,5,0)=NONE",
            "memory(5,6,0)=BAD memory(6,5,0)=BAD");
        String stone = "YARD of a STONE. BAD.";
        edges(16, stone, "stone(?)", 0, 1);
        run(16, stone, WHOLE, "stone(0)=1 stone(5)=6 stone(6)=BAD");
    }

    // ---- promises 17 to 19

    private static void sworn() {
        String sworn = "SWORN: 0 how many, 1 who, 2 the least, 3 the greatest, 4 MIDDLE, 5 what the OLDEST says (2 to 5: NONE: nobody). BAD.";
        edges(17, sworn, "sworn(?,0)", 0, 1);
        edges(17, sworn, "sworn(0,?)", 0, 5);
        run(17, sworn, ONE, "sworn(0,0)=0 sworn(0,1)=0 sworn(0,2)=NONE sworn(0,3)=NONE sworn(0,4)=NONE",
            "sworn(0,5)=NONE walk(0,1,1) sworn(0,0)=1",
            "sworn(0,1)=1 sworn(0,2)=0 sworn(0,3)=0 sworn(0,4)=0 sworn(0,5)=0");
        run(17, sworn, WHOLE, "walk(5,63,5) sworn(5,0)=6 sworn(5,1)=63 sworn(6,0)=BAD bribe(5,20) sworn(5,3)=26",
            "bribe(1,-20) sworn(5,2)=0 sworn(5,4)=6");
        String belief = "BELIEF: above (what = 0), below (1). BAD; STATE: nobody SWEARS.";
        edges(18, belief, "belief(?,50,0)", 0, 1);
        edges(18, belief, "belief(0,?,0)", 0, 99);
        edges(18, belief, "belief(0,50,?)", 0, 1);
        run(18, belief, ONE, "belief(0,0,0)=STATE belief(0,99,1)=STATE belief(0,100,0)=BAD belief(0,-1,0)=BAD",
            "belief(0,0,2)=BAD belief(1,0,0)=BAD",
            "walk(0,1,1) belief(0,0,0)=1 belief(0,0,1)=1 belief(0,1,0)=0 belief(0,1,1)=1 years(1) belief(0,0,0)=STATE");
        String likeliest = "LIKELIEST; NONE: nobody. BAD.";
        edges(19, likeliest, "likeliest(?)", 0, 1);
        run(19, likeliest, ONE, "likeliest(0)=NONE likeliest(1)=BAD walk(0,1,1) likeliest(0)=0 years(1)",
            "likeliest(0)=NONE");
        run(19, likeliest, WHOLE, "likeliest(5)=NONE walk(5,63,9) likeliest(5)=6 likeliest(6)=BAD");
    }

    // ---- promises 20 to 23

    private static void foretold() {
        String till = "TILL; NONE. BAD.";
        edges(20, till, "till(?,1)", 0, 1);
        edges(20, till, "till(0,?)", 1, 6);
        run(20, till, ONE, "till(0,1)=0 till(0,6)=0 walk(0,1,1) till(0,1)=1 till(0,2)=0");
        run(20, till, "tell:w30,1;s0;n0,99;h0,99;=2 walk(0,3,9) till(0,1)=NONE till(0,2)=99 till(0,3)=0");
        String take = "TAKE (n 1 to 6): how many (what = 0), which (1); NONE. BAD.";
        edges(21, take, "take(?,1,1,1,0)", 0, 1);
        edges(21, take, "take(0,?,1,1,0)", 1, 9);
        edges(21, take, "take(0,1,?,1,0)", 1, 60);
        edges(21, take, "take(0,1,1,?,0)", 1, 6);
        edges(21, take, "take(0,1,1,1,?)", 0, 1);
        run(21, take, WHOLE, "take(5,9,60,6,0)=6 take(5,9,60,6,1)=63 take(5,4,1,6,0)=NONE take(5,4,1,5,1)=55",
            "take(5,1,9,1,1)=NONE take(6,1,1,1,0)=BAD");
        String pain = "PAIN; NONE. BAD.";
        edges(22, pain, "pain(?,1,1)", 0, 1);
        edges(22, pain, "pain(0,?,1)", 1, 60);
        edges(22, pain, "pain(0,1,?)", 1, 6);
        run(22, pain, WHOLE, "pain(5,60,6)=7 pain(5,1,6)=5 pain(5,1,5)=1 pain(6,1,1)=BAD walk(5,63,9) pain(5,60,1)=7");
        run(22, pain, ONE, "pain(0,1,1)=NONE years(1) pain(0,1,1)=NONE");
        String order = "ORDER: in how many (k = -1), the k-th (0 on); NONE: no such one. BAD: k not -1 to 5, too.";
        edges(23, order, "order(?,-1)", 0, 1);
        edges(23, order, "order(0,?)", -1, 5);
        run(23, order, ONE, "order(0,-1)=1 order(0,0)=NONE order(0,5)=NONE walk(0,1,1) order(0,-1)=1 order(0,0)=0",
            "order(0,1)=NONE order(0,5)=NONE");
        run(23, order, WHOLE, "walk(5,63,9) order(5,-1)=720 order(5,5)=5 order(5,6)=BAD order(5,-2)=BAD",
            "order(6,-1)=BAD bribe(1,3) order(5,-1)=0 order(5,0)=NONE");
    }

    // ---- promises 24 to 28

    private static void settled() {
        String stood = "STOOD, as many ITEMS as WITNESSES, of a ROW from i on: how many (what = 0), the least (1; NONE). BAD: ROW, what; "
            + "STATE: no PARISH (ahead of BAD); NULL; PLACE.";
        edges(24, stood, "stood(?,0,0)", 0, 7);
        edges(24, stood, "stood(0,?,0)", 0, 0, "PLACE");
        edges(24, stood, "stood(7,?,0)", 0, 1, "PLACE");
        edges(24, stood, "stood(0,0,?)", 0, 1);
        run(24, stood, "stood(0,0,0)=STATE stood(8,0,0)=STATE stood(0,0,2)=STATE row(0,0,1) stood(0,0,0)=STATE",
            "stood(0,1,0)=STATE");
        run(24, stood, RICH, "stood(1,0,0)=NULL stood(1,-1,0)=NULL stood(1,0,2)=BAD stood(8,-1,0)=BAD",
            "stood(0,1,0)=PLACE status()=2 stood(0,0,0)=0",
            "status()=0 stood(0,0,1)=NONE status()=0");
        run(24, stood, WHOLE, "row(0,2,6) stood(0,0,0)=4 stood(0,1,0)=PLACE row(0,2,5) stood(0,0,0)=PLACE row(0,2,0)",
            "stood(0,0,0)=PLACE row(0,2,40)",
            "stood(0,34,0)=4 stood(0,35,0)=PLACE");
        String shift = "SHIFT; NONE. BAD.";
        edges(25, shift, "shift(?,0)", 0, 1);
        edges(25, shift, "shift(0,?)", 0, 6);
        run(25, shift, WHOLE, "shift(5,0)=NONE shift(5,6)=NONE walk(5,34,9) shift(5,0)=0 shift(5,1)=93 shift(5,6)=93",
            "shift(6,0)=BAD");
        String map = "MAP. BAD.";
        edges(26, map, "map(?,0)", 0, 1);
        edges(26, map, "map(0,?)", 0, 99);
        run(26, map, WHOLE, "map(5,6)=0 walk(5,63,9) map(5,6)=0 map(5,0)=6 map(5,99)=6 map(6,0)=BAD");
        String agree = "AGREE (n 1 to 6). BAD; STATE: no PARISH (ahead of BAD).";
        edges(27, agree, "agree(?)", 1, 6);
        run(27, agree, "agree(1)=STATE agree(0)=STATE agree(7)=STATE", ONE, "agree(1)=0 walk(0,1,1) agree(1)=1",
            "agree(2)=0 agree(6)=0");
        run(27, agree, WHOLE, "walk(5,63,9) walk(0,31,9) agree(6)=32 agree(5)=33 agree(1)=33");
        String drawn = "YEARS by a SEED (1 to 999999): STONES (what = 0), YARDS (1). BAD; STATE: no PARISH (ahead of BAD).";
        edges(28, drawn, "drawn(?,1,0)", 0, 60);
        edges(28, drawn, "drawn(1,?,0)", 1, 999999);
        edges(28, drawn, "drawn(1,1,?)", 0, 1);
        run(28, drawn, "drawn(1,1,0)=STATE drawn(-1,0,2)=STATE drawn(61,1,0)=STATE drawn(1,1000000,0)=STATE");
        run(28, drawn, WHOLE, "drawn(0,1,0)=0 drawn(0,1,1)=0 walk(5,63,9) drawn(0,999999,0)=32 drawn(0,1,1)=36");
        run(28, drawn, ONE, "41*years(24) years(15) drawn(60,1,0)=0 drawn(60,1,1)=0 count(3)=999");
    }

    // ---- promises 29, 30

    private static void imagesKept() {
        String image = "An IMAGE (0, 1) is kept of the PARISH: 1. BAD; STATE: no PARISH.";
        edges(29, image, "image(?)", 0, 1);
        run(29, image, "image(0)=STATE image(1)=STATE image(2)=BAD image(-1)=BAD restore(0)=STATE", ONE, "image(0)=1",
            "restore(1)=STATE image(1)=1 restore(1)=1");
        run(29, image, ONE, "image(0) move(0,7) count(5)=1 image(0)=1 count(5)=1 move(0,8) restore(0)=1 stone(0)=7");
        run(29, image, ONE, "move(0,7) image(0)=1 undo()=0 stone(0)=0 restore(0)=1 stone(0)=7");
        String restore = "The PARISH is as an IMAGE kept it (no ACT can be undone then): 1. BAD; STATE: none was kept.";
        edges(30, restore, "restore(?)", 0, 1);
        run(30, restore, "restore(0)=STATE restore(1)=STATE restore(2)=BAD restore(-1)=BAD", ONE, "restore(0)=STATE",
            "restore(1)=STATE restore(2)=BAD");
        run(30, restore, RICH, "restore(0)=1 count(3)=2 stone(0)=50 count(5)=0 undo()=STATE count(0)=2 count(6)=2",
            "status()=1 trace(0)=12 restore(1)=1",
            "count(3)=2 stone(0)=60 witness(1,3)=7 memory(4,1,1)=6 undo()=STATE move(0,1)=60 undo()=0 stone(0)=60",
            "undo()=STATE");
        run(30, restore, RICH, "parish()=FAULT2", ONE, "fault()=1 restore(0)=1 count(1)=2 count(2)=5 count(3)=2",
            "fault()=1 memory(0,0,0)=50 memory(0,0,3)=50",
            "walk(0,1,1) move(0,3) bribe(1,1) years(3) restore(0)=1 memory(0,0,1)=5 stone(0)=50 witness(1,3)=7",
            "count(3)=2 undo()=STATE");
        run(30, restore, WHOLE, "years(3) walk(5,63,9) walk(0,9,8) years(1) image(0)", ONE, "years(9) restore(0)=1",
            "count(3)=4 memory(0,0,2)=3",
            "memory(3,0,2)=3 memory(3,0,1)=8 memory(5,5,2)=3 memory(5,5,1)=9 memory(2,5,3)=7 witness(5,0)=4",
            "memory(1,0,0)=NONE");
        run(30, restore, WHOLE, "walk(5,63,9) image(1)", ONE, "restore(1)=1 count(2)=6 sworn(5,0)=6 memory(2,5,3)=6",
            "years(9) memory(2,5,3)=15");
    }

    // ---- promises 31 to 34

    private static void asked() {
        String kind = "The KIND of a WITNESS, as told (1 to 5). BAD.";
        edges(31, kind, "kind(?)", 0, 4);
        run(31, kind, WHOLE, "kind(0)=1 kind(1)=2 kind(2)=3 kind(3)=4 kind(4)=5 kind(5)=2 kind(6)=BAD as(1,1)=1",
            "kind(1)=2");
        String as = "A WITNESS is taken as one of a KIND (0 .. 5): its number. BAD; KIND: it is no such one.";
        edges(32, as, "as(?,0)", 0, 4);
        edges(32, as, "as(4,?)", 0, 5);
        run(32, as, WHOLE, "as(5,2)=5 as(5,3)=KIND as(6,2)=BAD as(5,6)=BAD as(5,-1)=BAD as(0,2)=KIND as(3,5)=KIND",
            "as(4,4)=4 as(4,1)=KIND");
        String ask = "An ASK (0, 1) of a WITNESS. BAD. THE TRACE is empty ahead of it.";
        edges(33, ask, "ask(?,0)", 0, 4);
        edges(33, ask, "ask(0,?)", 0, 1);
        run(33, ask, WHOLE, "ask(5,0)=-10 trace(5)=20 trace(6)=NONE ask(3,0)=-100 trace(0)=13 trace(1)=10",
            "trace(2)=NONE ask(6,0)=BAD ask(0,2)=BAD trace(0)=13");
        String trace = "Number i of THE TRACE; NONE.";
        run(34, trace, "trace(0)=NONE trace(-1)=NONE trace(15)=NONE", ONE, "trace(0)=NONE ask(0,1)=0 trace(0)=21",
            "trace(1)=20 trace(2)=NONE trace(-1)=NONE",
            "trace(15)=NONE trace(16)=NONE trace(MIN)=NONE trace(MAX)=NONE years(1) image(0) restore(0) trace(0)=21",
            ONE, "trace(0)=21");
        run(34, trace, WHOLE, "ask(1,0)=-2 trace(0)=12 trace(1)=11 trace(2)=10 trace(3)=24 trace(4)=21 trace(5)=20",
            "trace(6)=NONE");
    }

    // ---- promises 35, 36

    private static void counted() {
        String count = "How many: 0 ROWS, 1 STONES, 2 WITNESSES, 3 YEAR, 4 who are alive (bits), 5 ACTS that can be undone, 6 bytes on the tape. BAD.";
        edges(35, count, "count(?)", 0, 6);
        run(35, count, "count(0)=0 count(1)=0 count(2)=0 count(3)=0 count(4)=0 count(5)=0 count(6)=0 count(7)=BAD",
            "count(-1)=BAD");
        run(35, count, RICH, "count(0)=2 count(1)=2 count(2)=5 count(3)=3 count(4)=31 count(5)=7 count(6)=2");
        run(35, count, WHOLE, "row(0,0,0) row(1,0,0) row(2,0,0) row(3,0,0) row(4,0,0) row(5,0,0) row(6,0,0)",
            "row(7,0,0) count(0)=8 row(7,0,1) count(0)=8",
            "count(1)=6 count(2)=6 count(4)=63 years(24) count(5)=24 years(1) count(5)=24 120*feed(119) count(6)=120");
        run(35, count, WHOLE, "41*years(24) years(15) count(3)=999 count(4)=0");
        run(35, count, "tell:w1,1;s0;h0,2;h0,1;h0,3;=3 count(4)=7 years(1) count(4)=5 years(1) count(4)=4 years(1)",
            "count(4)=0 undo() count(4)=4");
    }

    private static void statuses() {
        String status = "Of the latest call with a ROW, or as(), that was not BAD, STATE, FULL: the number of its FINDING; 0: it had none, or there was none.";
        run(36, status, "status()=0 row(8,0,1)=BAD status()=0 stood(0,0,0)=STATE status()=0 drop(0)=NULL status()=1",
            "stood(0,0,0)=STATE status()=1",
            "drop(8)=BAD status()=1 120*feed(119) feed(119)=FULL status()=1 parish()=FAULT1 status()=1 row(0,0,1)",
            "status()=0");
        run(36, status, ONE, "set(0,0,1)=NULL status()=1 status()=1 count(0)=0 walk(0,1,1) years(1) undo() image(0)",
            "restore(0) ask(0,0) trace(0) status()=1",
            "as(0,1)=0 status()=0 as(0,2)=KIND status()=3 as(1,0)=BAD status()=3 row(0,0,-1)=SIZE status()=4",
            "row(0,0,41)=BAD status()=4 row(0,0,0)=0 status()=0");
        run(36, status, ONE, "row(0,0,2) row(1,1,2) copy(0,0,1,0,1)=STORE status()=5 copy(0,0,0,0,3)=PLACE status()=2",
            "copy(0,0,0,0,2)=2 status()=0",
            "copy(0,0,2,0,0)=NULL status()=1 set(0,0,1)=1 status()=0 set(0,2,1)=PLACE status()=2 drop(1)=2 status()=0",
            "stood(1,0,0)=NULL status()=1",
            "stood(0,0,0)=5 status()=0 stood(0,2,0)=PLACE status()=2 stood(0,0,2)=BAD status()=2 stood(0,1,1)=0",
            "status()=0");
    }
}
