/** Each sentence of the document's terms that names a boundary case, with a run of its own, worked out by hand. */
public final class TermsBoundsTest {
    /** One of each sort: 0 honest, 1 bribed, 2 drifting, 3 a twin, 4 with a note. */
    private static final String FIVE = "tell:w2,3;s50;s10;h20,70;b30,60;d10,90;t40,80;n5,8;=5";
    /** Six who say what they are bribed to. */
    private static final String SIX = "tell:w9,1;s50;b0,99;b0,99;b0,99;b0,99;b0,99;b0,99;=6";
    private static final String ONE = "tell:w1,1;s0;h0,1;=1";

    private static final Due due = new Due("TermsBoundsTest");
    private static final Script script = new Script(due);

    public static void main(String[] args) {
        numbers();
        refusals();
        findings();
        rows();
        tape();
        tokens();
        laws();
        stones();
        witnesses();
        faults();
        readAnew();
        memories();
        oaths();
        acts();
        walks();
        nothingChanges();
        sworn();
        beliefs();
        tills();
        takes();
        takesAnyway();
        pains();
        orders();
        stood();
        shifts();
        mapsAndAgreement();
        draws();
        kinds();
        asks();
        script.covers('T', 0, 4);
        due.end();
    }

    // ---- Terms, ahead of the parts

    private static void numbers() {
        String calls = "An object is used for at most 512 calls after it has been made";
        script.run("T0", calls, ONE, "497*move(0,7)", "stone(0)=7");
        script.run("T0", calls, "511*row(0,2,40)", "drop(0)=40");
        script.run("T0", calls, ONE, "20*years(24)", "477*move(0,5)", "count(3)=480");
        String first = "Numbers go from 0 on.";
        script.run("T0", first, "tell:w1,1;s7;h3,9;=1", "stone(0)=7 stone(-1)=BAD witness(0,0)=3 witness(-1,0)=BAD");
        script.run("T0", first, "row(0,0,1)=1 row(-1,0,1)=BAD set(0,0,5)=5 set(0,-1,5)=PLACE");
        script.run("T0", first, ONE, "image(0)=1 image(-1)=BAD restore(0)=1 restore(-1)=BAD ask(0,1)=0 trace(0)=21");
        String cut = "All that is divided is cut towards 0";
        script.run("T0", cut, "tell:w9,3;s50;d0,99;=1", "walk(0,1,9)=1 years(2) memory(0,0,3)=50 years(1)",
            "memory(0,0,3)=51 years(2) memory(0,0,3)=51 years(1) memory(0,0,3)=52");
        String lowest = "fractions, told as two numbers in lowest terms (0 is 0 by 1)";
        script.run("T0", lowest, SIX, "walk(0,63,9)=6", belief(1, 1), "bribe(0,1)", belief(5, 6), "bribe(1,2)",
            belief(2, 3), "bribe(2,3)", belief(1, 2), "bribe(3,4)", belief(1, 3), "bribe(4,5)", belief(1, 6),
            "bribe(5,6)", belief(0, 1));
        String bits = "Sets are bits.";
        script.run("T0", bits, SIX, "walk(0,1,9)=1 sworn(0,1)=1 walk(0,32,9)=1 sworn(0,1)=33 walk(0,42,9)=3",
            "sworn(0,1)=43");
    }

    private static String belief(int above, int below) {
        return "belief(0,50,0)=" + above + " belief(0,50,1)=" + below;
    }

    private static void refusals() {
        String first = "Refusals are answers, the first of these that fits, but as told";
        script.run("T0", first, FIVE, "bribe(0,21)=BAD bribe(0,20)=STATE belief(0,100,0)=BAD belief(0,0,2)=BAD",
            "belief(0,99,1)=STATE belief(2,0,0)=BAD");
        script.run("T0", first, "image(2)=BAD image(1)=STATE restore(2)=BAD restore(1)=STATE");
        script.run("T0", first, "120*feed(0)", "feed(256)=BAD feed(-1)=BAD feed(255)=FULL");
        script.run("T0", first, ONE, "41*years(24)", "years(25)=BAD years(0)=BAD years(16)=FULL years(24)=FULL");
        script.run("T0", first, "years(25)=STATE years(0)=STATE agree(0)=STATE agree(7)=STATE drawn(61,0,2)=STATE");
        script.run("T0", first, "stood(8,0,2)=STATE stood(0,0,0)=STATE stood(0,-1,1)=STATE");
        script.run("T0", first, "row(8,0,-1)=BAD row(0,3,-1)=BAD row(0,-1,-1)=BAD row(0,0,-1)=SIZE");
        script.run("T0", first, "set(8,-1,0)=BAD copy(8,-1,0,0,0)=BAD copy(0,-1,8,0,0)=BAD drop(8)=BAD");
        script.run("T0", first, FIVE, "stood(8,-1,0)=BAD stood(0,-1,2)=BAD stood(0,-1,1)=NULL as(0,6)=BAD",
            "as(0,5)=KIND");
        String missing = "BAD (a number is not as told; there is no such thing)";
        script.run("T0", missing, "stone(0)=BAD move(0,0)=BAD walk(0,0,1)=BAD bribe(0,0)=BAD witness(0,0)=BAD");
        script.run("T0", missing, "memory(0,0,0)=BAD sworn(0,0)=BAD belief(0,0,0)=BAD likeliest(0)=BAD till(0,1)=BAD");
        script.run("T0", missing, "take(0,1,1,1,0)=BAD pain(0,1,1)=BAD order(0,-1)=BAD shift(0,0)=BAD map(0,0)=BAD");
        script.run("T0", missing, "kind(0)=BAD as(0,0)=BAD ask(0,0)=BAD");
    }

    private static void findings() {
        String numbers = "-1000010 less 1 NULL (a ROW that is missing), 2 PLACE (no such place of a ROW), "
            + "3 KIND (a WITNESS that is not that), 4 SIZE (fewer than none), 5 STORE (ROWS of two LANES)";
        script.run("T0", numbers, ONE, "set(0,0,0)=-1000011 status()=1 row(0,0,1)=1 set(0,1,0)=-1000012 status()=2",
            "as(0,2)=-1000013 status()=3 row(1,0,-1)=-1000014 status()=4 row(1,1,1) copy(0,0,1,0,1)=-1000015",
            "status()=5");
        String several = "then FINDINGS, of several the first in time";
        script.run("T0", several, "row(0,0,1) row(1,1,1) copy(2,-1,1,0,1)=NULL copy(0,-1,2,0,1)=NULL",
            "copy(0,-1,1,0,1)=STORE copy(0,0,1,2,0)=STORE copy(0,-1,0,0,1)=PLACE");
        script.run("T0", several, ONE, "stood(0,-1,0)=NULL row(0,0,1) stood(0,-1,0)=PLACE set(1,-1,0)=NULL");
        String nothing = "What is refused, or found, changes nothing but status().";
        String ahead = FIVE + " walk(0,31,4) walk(1,31,5) bribe(1,7) years(2) image(0) move(0,60) years(1) ask(1,0) "
            + "row(0,2,3) set(0,1,50) row(1,0,2) feed(119) feed(49) set(2,0,0)=NULL ";
        String[] refused = {"row(8,0,1)=BAD", "row(0,0,-1)=SIZE", "set(0,3,1)=PLACE", "copy(0,0,1,0,1)=STORE",
            "copy(0,0,0,1,3)=PLACE", "drop(2)=NULL", "feed(256)=BAD", "walk(0,31,10)=BAD", "walk(0,32,9)=BAD",
            "move(0,100)=BAD", "bribe(1,21)=BAD", "bribe(0,1)=STATE", "years(25)=BAD", "witness(0,5)=BAD",
            "memory(0,0,4)=BAD", "stone(2)=BAD", "sworn(0,6)=BAD", "belief(0,100,0)=BAD", "likeliest(2)=BAD",
            "till(0,7)=BAD", "take(0,10,1,1,0)=BAD", "pain(0,61,1)=BAD", "order(0,6)=BAD", "stood(0,0,0)=PLACE",
            "stood(2,0,0)=NULL", "shift(0,7)=BAD", "map(0,100)=BAD", "agree(7)=BAD", "drawn(61,1,0)=BAD",
            "image(2)=BAD", "restore(1)=STATE", "kind(5)=BAD", "as(0,2)=KIND", "ask(0,2)=BAD", "count(7)=BAD"};
        for (String call : refused) {
            script.run("T0", nothing, ahead, call);
        }
    }

    // ---- Terms 1

    private static void rows() {
        String missing = "ROWS 0 .. 7 are missing (at first)";
        for (int row = 0; row < 8; row++) {
            script.run("T1", missing, "drop(" + row + ")=NULL set(" + row + ",0,0)=NULL count(0)=0 row(" + row
                + ",0,1)=1 count(0)=1 drop(" + row + ")=1 drop(" + row + ")=NULL");
        }
        script.run("T1", missing, "row(-1,0,1)=BAD row(8,0,1)=BAD set(-1,0,0)=BAD set(8,0,0)=BAD drop(-1)=BAD",
            "drop(8)=BAD");
        String lanes = "have a LANE (0 bytes, 1 shorts, 2 ints)";
        script.run("T1", lanes, "row(0,-1,1)=BAD row(0,0,1)=1 set(0,0,127)=127 set(0,0,128)=-128 set(0,0,-128)=-128",
            "set(0,0,-129)=127 set(0,0,255)=-1 set(0,0,256)=0 set(0,0,MIN)=0 set(0,0,MAX)=-1");
        script.run("T1", lanes, "row(0,1,1)=1 set(0,0,32767)=32767 set(0,0,32768)=-32768 set(0,0,-32768)=-32768",
            "set(0,0,-32769)=32767 set(0,0,65535)=-1 set(0,0,65536)=0 set(0,0,MIN)=0 set(0,0,MAX)=-1");
        script.run("T1", lanes, "row(0,2,1)=1 set(0,0,MIN)=MIN set(0,0,MAX)=MAX set(0,0,65536)=65536 row(0,3,1)=BAD");
        String items = "and 0 to 40 ITEMS, 0 at first.";
        script.run("T1", items, "row(0,0,-1)=SIZE row(0,0,0)=0 set(0,0,1)=PLACE drop(0)=0");
        script.run("T1", items, "row(0,2,40)=40 set(0,39,7)=7 set(0,40,7)=PLACE set(0,-1,7)=PLACE row(1,2,41)=BAD",
            "drop(0)=40");
        script.run("T1", items, ONE, "row(0,2,40)", "stood(0,0,0)=4 stood(0,39,0)=4 set(0,39,50) stood(0,39,0)=7",
            "stood(0,40,0)=PLACE row(0,2,1)=1 stood(0,1,0)=PLACE row(0,2,40)=40 stood(0,39,0)=4");
        script.run("T1", items, ONE, "row(0,2,2) set(0,0,50) set(0,1,50) stood(0,0,0)=7 row(0,2,2)=2 stood(0,0,0)=4",
            "stood(0,1,0)=4");
        script.run("T1", items, ONE, "row(0,2,2) set(0,0,50) set(0,1,50) drop(0)=2 row(0,2,2)=2 stood(0,0,0)=4",
            "stood(0,1,0)=4");
    }

    private static void tape() {
        String most = "THE TAPE has at most 120 bytes, that come one by one";
        script.run("T1", most, "count(6)=0 119*feed(120) feed(120)=120 count(6)=120 feed(120)=FULL count(6)=120",
            "parish()=FAULT0 count(6)=0 feed(119)=1");
        String longest = "w30,30;s99;s99;s99;s99;s99;s99;h60,99;h60,99;h60,99;h60,99;h60,99;h60,99;";
        script.run("T1", most, "tell:" + longest + "=6", "count(1)=6 count(6)=0");
        script.run("T1", most, "tell:" + longest + ";".repeat(120 - longest.length()) + "=FAULT" + longest.length(),
            "fault()=1 count(2)=0 feed(119)=1");
        String end = longest.substring(0, longest.length() - 1);
        script.run("T1", "the end: how many bytes there are", "tell:" + end + "=FAULT" + end.length(), "fault()=1");
    }

    /** The bytes one by one, so that there may be any among them. */
    private static String fed(String text) {
        StringBuilder steps = new StringBuilder();
        for (int i = 0; i < text.length(); i++) {
            steps.append("feed(").append((int) text.charAt(i)).append(") ");
        }
        return steps.append("parish()").toString();
    }

    private static void faulty(String sentence, String text, int place, int number) {
        script.run("T1", sentence, fed(text) + "=FAULT" + place, "fault()=" + number, "count(1)=0 count(2)=0",
            "count(6)=0");
    }

    private static void read(String sentence, String text, int witnesses, String... behind) {
        script.run("T1", sentence, fed(text) + "=" + witnesses, "fault()=0 count(6)=0", String.join(" ", behind));
    }

    private static void tokens() {
        String letters = "TOKENS: letters a to z (each by itself)";
        for (char c = 'a'; c <= 'z'; c++) {
            String text = "w1,1;s0;" + c + "0,1;";
            if ("hbdtn".indexOf(c) >= 0) {
                read(letters, text, 1, "kind(0)=" + ("hbdtn".indexOf(c) + 1));
            } else {
                faulty(letters, text, c == 's' ? 10 : 8, 1);
            }
            if (c != 'w') {
                faulty(letters, c + "1,1;s0;h0,1;", 0, 1);
            }
            if ("hbdtn".indexOf(c) < 0) {
                faulty(letters, "w1,1;s0;h0,1;" + c + "0,1;", 13, 1);
            }
        }
        faulty(letters, "ww1,1;s0;h0,1;", 1, 1);
        faulty(letters, "w1,1;ss0;h0,1;", 6, 1);
        faulty(letters, "w1,1;s0;hh0,1;", 9, 1);
        String none = "SIGNS , and ; nothing else";
        int[] odd = {0, 9, 10, 13, 32, 33, 43, 45, 46, 47, 58, 60, 64, 65, 72, 83, 87, 91, 96, 123, 127, 128, 172,
            176, 187, 232, 243, 247, 255};
        for (int b : odd) {
            faulty(none, (char) b + "w1,1;s0;h0,1;", 0, 1);
            faulty(none, "w" + (char) b + ",1;s0;h0,1;", 1, 1);
            faulty(none, "w1" + (char) b + "1;s0;h0,1;", 2, 1);
            faulty(none, "w1,1" + (char) b + "s0;h0,1;", 4, 1);
            faulty(none, "w1,1;" + (char) b + "0;h0,1;", 5, 1);
            faulty(none, "w1,1;s0;" + (char) b + "0,1;", 8, 1);
            faulty(none, "w1,1;s0;h0,1;" + (char) b, 13, 1);
        }
        String figures = "NUMBERS (figures, 2 at most)";
        read(figures, "w1,1;s0;h0,1;", 1, "stone(0)=0");
        read(figures, "w01,01;s09;h00,01;", 1, "stone(0)=9");
        read(figures, "w10,10;s90;h10,19;", 1, "stone(0)=90 witness(0,0)=10 witness(0,1)=19");
        faulty(figures, "w001,1;s0;h0,1;", 1, 1);
        faulty(figures, "w1,001;s0;h0,1;", 3, 1);
        faulty(figures, "w1,1;s000;h0,1;", 6, 1);
        faulty(figures, "w1,1;s0;h000,1;", 9, 1);
        faulty(figures, "w1,1;s0;h0,001;", 11, 1);
    }

    private static void laws() {
        String law = "law: w LASTS , DRIFT ; (1 to 30 YEARS; 1 to 30).";
        faulty(law, "w0,1;s0;h0,1;", 1, 2);
        faulty(law, "w00,1;s0;h0,1;", 1, 2);
        read(law, "w1,1;s0;h0,1;", 1);
        read(law, "w30,30;s0;h0,1;", 1);
        faulty(law, "w31,30;s0;h0,1;", 1, 2);
        faulty(law, "w99,30;s0;h0,1;", 1, 2);
        faulty(law, "w30,0;s0;h0,1;", 4, 2);
        faulty(law, "w30,31;s0;h0,1;", 4, 2);
        faulty(law, "w1,99;s0;h0,1;", 3, 2);
        faulty(law, "w,1;s0;h0,1;", 1, 1);
        faulty(law, "w1;s0;h0,1;", 2, 1);
        faulty(law, "w1,;s0;h0,1;", 3, 1);
        faulty(law, "w1,1,s0;h0,1;", 4, 1);
        faulty(law, "ws0;h0,1;", 1, 1);
        faulty(law, "w1s0;h0,1;", 2, 1);
        faulty(law, "w1,s0;h0,1;", 3, 1);
        faulty(law, "w1,1s0;h0,1;", 4, 1);
        String whole = "parish: law stone { stone } witness { witness }.";
        faulty(whole, "", 0, 1);
        faulty(whole, "s0;h0,1;", 0, 1);
        faulty(whole, "w1,1;", 5, 1);
        faulty(whole, "w1,1;h0,1;", 5, 1);
        faulty(whole, "w1,1;w1,1;s0;h0,1;", 5, 1);
        faulty(whole, "w1,1;s0;", 8, 1);
        faulty(whole, "w1,1;s0;w1,1;h0,1;", 8, 1);
        faulty(whole, "w1,1;s0;h0,1;s0;", 13, 1);
        faulty(whole, "w1,1;s0;h0,1;w1,1;", 13, 1);
        read(whole, "w1,1;s7;h0,1;", 1, "count(1)=1 count(2)=1");
        read(whole, "w1,1;s7;s8;h0,1;b0,1;", 2, "count(1)=2 count(2)=2 stone(0)=7 stone(1)=8 kind(0)=1 kind(1)=2");
    }

    private static void stones() {
        String stone = "stone: s YARD ; (0 to 99; STONES 0 .. 5, 6 at most).";
        read(stone, "w1,1;s0;s99;s00;h0,1;", 1, "stone(0)=0 stone(1)=99 stone(2)=0 stone(3)=BAD stone(-1)=BAD");
        faulty(stone, "w1,1;s100;h0,1;", 6, 1);
        faulty(stone, "w1,1;s;h0,1;", 6, 1);
        faulty(stone, "w1,1;s0,h0,1;", 7, 1);
        faulty(stone, "w1,1;sh0,1;", 6, 1);
        faulty(stone, "w1,1;s0h0,1;", 7, 1);
        faulty(stone, "w1,1;s0;sh0,1;", 9, 1);
        faulty(stone, "w1,1;s0s0;h0,1;", 7, 1);
        read(stone, "w1,1;s1;s2;s3;s4;s5;s6;h0,1;", 1, "count(1)=6 stone(5)=6 stone(6)=BAD");
        faulty(stone, "w1,1;s1;s2;s3;s4;s5;s6;s7;h0,1;", 23, 3);
        faulty(stone, "w1,1;s1;s2;s3;s4;s5;s6;s", 23, 3);
        faulty(stone, "w1,1;s1;s2;s3;s4;s5;s6;s100;", 23, 3);
        faulty(stone, "w1,1;s1;s2;s3;s4;s5;s6;", 23, 1);
        faulty(stone, "w1,1;s1;s2;s3;s4;s5;s6;a", 23, 1);
    }

    private static void witnesses() {
        String sorts = "SORT: h an honest one, b a bribed one, d a drifting one, t a twin, n one with a note";
        read(sorts, "w1,1;s0;h0,1;b0,1;d0,1;t0,1;n0,1;", 5, "kind(0)=1 kind(1)=2 kind(2)=3 kind(3)=4 kind(4)=5");
        String ages = "0 to 60; above AGE, 99 at most: the AGE at which it is dead; WITNESSES 0 .. 5, 6 at most";
        read(ages, "w1,1;s0;h0,1;h0,99;h60,61;h60,99;", 4, "witness(0,0)=0 witness(0,1)=1 witness(2,0)=60",
            "witness(2,1)=61",
            "witness(3,1)=99 count(4)=15");
        faulty(ages, "w1,1;s0;h61,99;", 9, 2);
        faulty(ages, "w1,1;s0;h99,99;", 9, 2);
        faulty(ages, "w1,1;s0;h0,0;", 11, 2);
        faulty(ages, "w1,1;s0;h5,4;", 11, 2);
        faulty(ages, "w1,1;s0;h5,5;", 11, 2);
        faulty(ages, "w1,1;s0;h60,60;", 12, 2);
        faulty(ages, "w1,1;s0;h60,100;", 12, 1);
        faulty(ages, "w1,1;s0;h,1;", 9, 1);
        faulty(ages, "w1,1;s0;h0;", 10, 1);
        faulty(ages, "w1,1;s0;h0,;", 11, 1);
        faulty(ages, "w1,1;s0;h0,1,", 12, 1);
        faulty(ages, "w1,1;s0;hb0,1;", 9, 1);
        faulty(ages, "w1,1;s0;h0b0,1;", 10, 1);
        faulty(ages, "w1,1;s0;h0,b0,1;", 11, 1);
        faulty(ages, "w1,1;s0;h0,1b0,1;", 12, 1);
        String six = "w1,1;s0;h0,1;b0,2;d0,3;t0,4;n0,5;h0,6;";
        read(ages, six, 6, "count(2)=6 witness(5,1)=6 witness(6,0)=BAD witness(-1,0)=BAD");
        faulty(ages, six + "h0,1;", 38, 3);
        faulty(ages, six + "n", 38, 3);
        faulty(ages, six + "t100,1;", 38, 3);
        faulty(ages, six + "s", 38, 1);
        faulty(ages, six + ";", 38, 1);
    }

    private static void faults() {
        String first = "FAULTS, the first TOKEN that has one (its first byte), of one TOKEN the least";
        faulty(first, "w31,31;s100;h61,0;", 1, 2);
        faulty(first, "w30,31;s100;", 4, 2);
        faulty(first, "w1,1;s12x", 8, 1);
        faulty(first, "w1,1;s0;h61x", 9, 2);
        faulty(first, "w100,0;", 1, 1);
        faulty(first, "w31", 1, 2);
        String none = "1 it cannot stand there, or is none (a run of three figures, at its first; the end: how many bytes there are)";
        faulty(none, "w999,1;", 1, 1);
        faulty(none, "w9999,1;", 1, 1);
        faulty(none, "w1,1;s0;h0,1;123", 13, 1);
        faulty(none, "w1,1;s0;h0,1;12", 13, 1);
        faulty(none, "w1,1;s0;h0,1;,", 13, 1);
        String whole = "w12,13;s14;h15,16;";
        int[] ends = {0, 1, 3, 4, 6, 7, 8, 10, 11, 12, 14, 15, 17};
        for (int end : ends) {
            faulty(none, whole.substring(0, end), end, 1);
        }
        faulty(none, "w1", 2, 1);
        faulty(none, "w1,1", 4, 1);
        read(none, whole, 1, "stone(0)=14 witness(0,0)=15 witness(0,1)=16");
        script.run("T1", "2 a NUMBER that is not as told", "tell:w0,1;=FAULT1 fault()=2 tell:w1,1;s0;h61,99;=FAULT9",
            "fault()=2");
        script.run("T1", "3 a stone, a witness more than there is room for (its letter).",
            "tell:w1,1;s0;s0;s0;s0;s0;s0;s0;h0,1;=FAULT23 fault()=3",
            "tell:w1,1;s0;h0,1;h0,1;h0,1;h0,1;h0,1;h0,1;h0,1;=FAULT38 fault()=3 count(1)=0 count(2)=0");
    }

    private static void readAnew() {
        String anew = "A PARISH that is read stands in place of the one before (none at first): YEAR 0; nobody remembers anything, "
            + "no BRIBE was paid; no ACT can be undone.";
        script.run("T1", anew, "count(1)=0 count(2)=0 count(3)=0 count(4)=0 count(5)=0 stone(0)=BAD kind(0)=BAD",
            "undo()=STATE");
        script.run("T1", anew, FIVE, "walk(0,31,9)=5 walk(1,31,9)=5 bribe(1,20)=0 move(0,9) years(8)=4 count(5)=12",
            "tell:w3,3;s60;s70;s80;b60,99;b1,2;=2", "count(1)=3 count(2)=2 count(3)=0 count(4)=3 count(5)=0",
            "undo()=STATE",
            "stone(0)=60 stone(2)=80 kind(0)=2 witness(0,0)=60 witness(0,3)=0 witness(1,3)=0 witness(2,0)=BAD",
            "memory(0,0,0)=NONE memory(1,1,1)=NONE memory(0,0,3)=NONE sworn(0,0)=0 sworn(1,0)=0");
        String six = "w9,9;s50;s60;b0,99;b0,99;b0,99;b0,99;b0,99;b0,99;";
        String bribes = "bribe(0,1) bribe(1,2) bribe(2,3) bribe(3,4) bribe(4,5) bribe(5,6) ";
        // what was foretold of the one before, or read of a faulty text, leaves nothing either
        String ahead = "tell:" + six + "=6 walk(0,63,9) walk(1,63,9) " + bribes + "years(3) ";
        script.run("T1", anew, ahead, "till(0,1)=78", "tell:" + six + "=6", nothingYet());
        script.run("T1", anew, ahead, "drawn(9,1,0)=3", "tell:" + six + "=6", nothingYet());
        script.run("T1", anew, ahead, "take(0,9,9,6,0)=0", "tell:" + six + "h=FAULT49", "tell:" + six + "=6",
            nothingYet());
        script.run("T1", anew, FIVE, "walk(0,31,9) years(1)", FIVE, "count(3)=0 count(5)=0 memory(0,0,0)=NONE",
            "sworn(0,0)=0");
    }

    /** Of six witnesses and two stones. */
    private static String nothingYet() {
        StringBuilder steps = new StringBuilder("count(3)=0 count(5)=0 ");
        for (int w = 0; w < 6; w++) {
            steps.append("witness(" + w + ",0)=0 witness(" + w + ",3)=0 ");
            steps.append("memory(" + w + ",0,0)=NONE memory(" + w + ",1,0)=NONE memory(" + w + ",1,3)=NONE ");
        }
        return steps.append("sworn(0,0)=0 sworn(1,0)=0").toString();
    }

    // ---- Terms 2

    private static void memories() {
        String alive = "A witness is alive at AGE below ENDS.";
        script.run("T2", alive, "tell:w9,1;s50;h0,2;h0,1;=2", "witness(0,2)=1 witness(1,2)=1 count(4)=3 years(1)=1",
            "witness(0,2)=1 witness(1,2)=0 count(4)=1 years(1)=0 witness(0,2)=0 count(4)=0");
        script.run("T2", alive, "tell:w9,1;s50;h60,61;h60,99;=2", "years(1)=1 witness(0,2)=0 years(24)=1 years(13)=1",
            "witness(1,0)=98 witness(1,2)=1 years(1)=0 witness(1,2)=0");
        String last = "the YARD at which that stood when it was bumped last there, in that YEAR, with so much PAIN (1 to 9)";
        script.run("T2", last, "tell:w2,1;s50;s20;h0,99;=1", "walk(0,1,0)=BAD walk(0,1,10)=BAD",
            "memory(0,0,0)=NONE memory(0,0,1)=NONE memory(0,0,2)=NONE walk(0,1,9)=1 memory(0,0,1)=9 years(3)",
            "move(0,60)=50 memory(0,0,0)=50 walk(0,1,1)=1 memory(0,0,0)=60 memory(0,0,1)=1 memory(0,0,2)=3",
            "memory(0,1,0)=NONE move(0,70) memory(0,0,0)=60 years(2) memory(0,0,3)=NONE memory(0,0,0)=60");
        String gone = "it does so as long as fewer than LASTS times PAIN YEARS are gone since";
        script.run("T2", gone, "tell:w1,1;s50;h0,99;=1", "walk(0,1,1) memory(0,0,3)=50 years(1) memory(0,0,3)=NONE");
        script.run("T2", gone, "tell:w1,1;s50;h0,99;=1", "walk(0,1,9) years(8) memory(0,0,3)=50 years(1)",
            "memory(0,0,3)=NONE");
        script.run("T2", gone, "tell:w2,1;s50;h0,99;=1", "walk(0,1,3) years(5) memory(0,0,3)=50 years(1)",
            "memory(0,0,3)=NONE");
        script.run("T2", gone, "tell:w30,1;s50;h0,99;=1", "walk(0,1,1) years(24) years(5) memory(0,0,3)=50 years(1)",
            "memory(0,0,3)=NONE");
        script.run("T2", gone, "tell:w30,1;s50;n0,1;=1", "walk(0,1,9) 11*years(24) years(5) memory(0,0,3)=50 years(1)",
            "memory(0,0,3)=NONE memory(0,0,0)=50 memory(0,0,1)=9 memory(0,0,2)=0");
        script.run("T2", gone, "tell:w2,1;s50;h0,99;=1", "years(7) walk(0,1,2) years(3) memory(0,0,3)=50 years(1)",
            "memory(0,0,3)=NONE memory(0,0,2)=7");
    }

    private static void oaths() {
        String dead = "It SWEARS to a STONE, if it remembers it, and is alive (one with a note: dead, too)";
        for (char sort : "hbdt".toCharArray()) {
            script.run("T2", dead, "tell:w9,30;s50;" + sort + "0,2;=1", "memory(0,0,3)=NONE walk(0,1,9) years(1)",
                "memory(0,0,3)=50",
                "years(1) memory(0,0,3)=NONE witness(0,4)=0 sworn(0,0)=0");
        }
        script.run("T2", dead, "tell:w9,30;s50;n0,1;=1", "memory(0,0,3)=NONE walk(0,1,9) years(1)=0 memory(0,0,3)=50",
            "witness(0,4)=1 sworn(0,0)=1 3*years(24) years(7) memory(0,0,3)=50 years(1) memory(0,0,3)=NONE",
            "sworn(0,0)=0");
        script.run("T2", "an honest one to that YARD", "tell:w30,1;s0;s99;h0,99;=1", "walk(0,1,1) walk(1,1,1)",
            "years(24)",
            "memory(0,0,3)=0 memory(0,1,3)=99");
        String bribed = "a bribed one to BRIBE more (0 at least, 99 at most)";
        String ahead = "tell:w9,1;s79;s80;s99;s20;s19;s0;b0,99;=1 walk(0,1,1) walk(1,1,1) walk(2,1,1) walk(3,1,1) walk(4,1,1) "
            + "walk(5,1,1) ";
        script.run("T2", bribed, ahead, says(79, 80, 99, 20, 19, 0));
        script.run("T2", bribed, ahead, "bribe(0,20)=0", says(99, 99, 99, 40, 39, 20));
        script.run("T2", bribed, ahead, "bribe(0,19)=0", says(98, 99, 99, 39, 38, 19));
        script.run("T2", bribed, ahead, "bribe(0,-20)=0", says(59, 60, 79, 0, 0, 0));
        script.run("T2", bribed, ahead, "bribe(0,-19)=0", says(60, 61, 80, 1, 0, 0));
        String drifting = "a drifting one to 1 more for each DRIFT YEARS since then (cut; 99 at most)";
        script.run("T2", drifting, "tell:w30,30;s50;d0,99;=1", "walk(0,1,9) years(24) years(5) memory(0,0,3)=50",
            "years(1)",
            "memory(0,0,3)=51 years(24) years(5) memory(0,0,3)=51 years(1) memory(0,0,3)=52");
        script.run("T2", drifting, "tell:w30,1;s97;s0;d0,99;=1", "walk(0,1,9) walk(1,1,9) memory(0,0,3)=97 years(1)",
            "memory(0,0,3)=98 years(1) memory(0,0,3)=99 years(1) memory(0,0,3)=99 memory(0,1,3)=3 years(24)",
            "memory(0,0,3)=99");
        script.run("T2", drifting, "tell:w30,2;s50;d0,99;=1", "years(3) walk(0,1,9) years(1) memory(0,0,3)=50 years(1)",
            "memory(0,0,3)=51");
        script.run("T2", "a twin to that YARD, but only with PAIN of 5 or more", "tell:w9,1;s50;t0,99;=1",
            "walk(0,1,4)=1 memory(0,0,3)=NONE memory(0,0,1)=4 walk(0,1,5) memory(0,0,3)=50 walk(0,1,9)",
            "memory(0,0,3)=50",
            "years(3) memory(0,0,3)=50 walk(0,1,1) memory(0,0,3)=NONE");
        script.run("T2", "one with a note to that YARD, with any PAIN", "tell:w9,1;s50;n0,99;=1",
            "walk(0,1,1)=1 memory(0,0,3)=50 walk(0,1,4) memory(0,0,3)=50 walk(0,1,9) years(3) memory(0,0,3)=50");
    }

    /** What witness 0 says to each stone. */
    private static String says(int... yards) {
        StringBuilder steps = new StringBuilder();
        for (int s = 0; s < yards.length; s++) {
            steps.append("memory(0,").append(s).append(",3)=").append(yards[s]).append(' ');
        }
        return steps.toString();
    }

    private static void acts() {
        String kept = "ACTS (24 at most are kept, of more the oldest is forgotten; each can be undone, the latest first)";
        StringBuilder moves = new StringBuilder(ONE).append(' ');
        for (int i = 1; i <= 24; i++) {
            moves.append("move(0,").append(i).append(")=").append(i - 1).append(' ');
        }
        script.run("T2", kept, moves.toString(), "count(5)=24", undone(24, 0), "undo()=STATE stone(0)=0");
        script.run("T2", kept, moves.toString(), "move(0,25)=24 count(5)=24", undone(24, 1), "undo()=STATE stone(0)=1");
        script.run("T2", kept, moves.toString(), "move(0,25) move(0,26) count(5)=24", undone(24, 2), "undo()=STATE",
            "count(5)=0");
        script.run("T2", kept, ONE, "undo()=STATE walk(0,1,9)=1 years(24)=0 count(5)=24 23*undo() undo()=0",
            "undo()=STATE",
            "count(3)=0 memory(0,0,1)=9");
        script.run("T2", kept, ONE, "walk(0,1,9)=1 23*years(1) count(5)=24 23*undo() memory(0,0,1)=9 undo()=0",
            "memory(0,0,1)=NONE undo()=STATE");
        script.run("T2", kept, "tell:w9,9;s50;b0,99;=1", "walk(0,1,3)=1 move(0,60)=50 bribe(0,7)=0 years(1)=1",
            "walk(0,1,4)=1",
            "bribe(0,-7)=7 move(0,70)=60 years(2)=1 count(5)=9 undo()=8 count(3)=2 undo()=7 count(3)=1 undo()=6",
            "stone(0)=60",
            "undo()=5 witness(0,3)=7 undo()=4 memory(0,0,0)=50 memory(0,0,1)=3 memory(0,0,2)=0 undo()=3 count(3)=0",
            "undo()=2 witness(0,3)=0 undo()=1 stone(0)=50 undo()=0 memory(0,0,0)=NONE undo()=STATE");
        script.run("T2", kept, "tell:w9,9;s50;s60;h0,99;h0,99;h0,99;=3", "years(3) walk(0,7,5)=3 years(2) move(0,55)",
            "walk(1,4,2)=1 walk(0,6,7)=2",
            "years(1) walk(0,7,8)=3 memory(0,0,2)=6 undo() memory(0,0,2)=3 memory(1,0,2)=5 memory(2,0,2)=5",
            "memory(2,0,1)=7 memory(1,0,0)=55",
            "undo() undo() memory(1,0,2)=3 memory(2,0,2)=3 memory(2,0,1)=5 memory(1,0,0)=50 memory(2,1,2)=5 undo()",
            "memory(2,1,2)=NONE count(5)=7");
        String years = "a YEAR: all are 1 older, dead or not";
        script.run("T2", years, "tell:w9,9;s50;h0,1;h5,99;n60,61;=3", "years(1)=1 witness(0,0)=1 witness(1,0)=6",
            "witness(2,0)=61",
            "years(24)=1 witness(0,0)=25 witness(1,0)=30 witness(2,0)=85 undo()=23 witness(0,0)=24 witness(2,0)=84");
    }

    /** So many acts undone, each a move to 1 more than ahead of it, the last of them to a yard that was at first. */
    private static String undone(int many, int yard) {
        StringBuilder steps = new StringBuilder();
        for (int left = many - 1; left >= 0; left--) {
            steps.append("undo()=").append(left).append(" stone(0)=").append(yard + left).append(' ');
        }
        return steps.toString();
    }

    private static void walks() {
        String bumped = "those of told witnesses who are alive, and 60 years old at most, are bumped there with so much PAIN";
        script.run("T2", bumped, "tell:w9,9;s50;h60,99;h59,99;h60,61;h59,60;=4", "walk(0,15,1)=4 years(1)=2",
            "walk(0,15,2)=1",
            "memory(0,0,1)=1 memory(1,0,1)=2 memory(2,0,1)=1 memory(3,0,1)=1 walk(0,2,3)=1 walk(0,13,3)=0 years(1)=2",
            "walk(0,15,4)=0 memory(1,0,1)=3");
        script.run("T2", bumped, "tell:w9,9;s50;s60;h0,99;h0,99;h0,99;=3", "walk(1,5,7)=2 memory(0,1,0)=60",
            "memory(1,1,0)=NONE",
            "memory(2,1,1)=7 memory(0,0,0)=NONE walk(0,0,1)=0 sworn(0,0)=0 count(5)=2");
        script.run("T2", bumped, "tell:w9,9;s50;n0,1;=1", "years(1)=0 walk(0,1,9)=0 memory(0,0,0)=NONE count(5)=2");
        script.run("T2", "a STONE is moved to a YARD", ONE, "move(0,99)=0 stone(0)=99 move(0,0)=99 stone(0)=0",
            "move(0,100)=BAD",
            "move(0,-1)=BAD stone(0)=0 move(0,0)=0 count(5)=3");
        script.run("T2", "BRIBE of a bribed one is so many yards (-20 to 20; 0 at first)", "tell:w1,1;s0;b0,1;h0,1;=2",
            "witness(0,3)=0 bribe(0,-21)=BAD bribe(0,-20)=0 bribe(0,20)=-20 bribe(0,21)=BAD witness(0,3)=20",
            "bribe(1,1)=STATE",
            "witness(1,3)=0 bribe(0,0)=20 count(5)=3");
    }

    // ---- Terms 3

    private static void nothingChanges() {
        String nothing = "FORETOLD (nothing changes).";
        String ahead = FIVE + " walk(0,31,4) walk(1,31,5) bribe(1,7) years(2) image(0) move(0,60) years(1) ask(1,0) "
            + "row(0,2,5) set(0,1,50) row(1,0,2) feed(119) feed(49) ";
        String[] calls = {"sworn(0,0)=4", "sworn(0,1)=23", "sworn(0,2)=50", "sworn(0,3)=57", "sworn(0,4)=51",
            "sworn(0,5)=57", "belief(0,50,0)=1", "belief(0,50,1)=2", "likeliest(0)=50", "till(0,1)=5", "till(1,6)=0",
            "take(0,9,9,4,0)=4", "take(0,9,9,4,1)=15", "take(0,9,9,5,1)=NONE", "take(0,1,60,1,1)=NONE",
            "pain(0,9,4)=5", "pain(0,9,6)=NONE", "order(0,-1)=0", "order(1,0)=NONE", "stood(0,0,0)=0", "stood(0,0,1)=NONE", "shift(0,0)=0", "shift(0,6)=0",
            "map(0,50)=2", "agree(1)=3", "agree(6)=0", "drawn(0,1,0)=3", "drawn(60,1,1)", "drawn(60,999999,0)"};
        for (String call : calls) {
            script.unchanged("T3", nothing, ahead, call);
        }
        String[] seen = {"fault()=0", "witness(0,4)=3", "memory(0,0,3)=50", "stone(0)=60", "kind(0)=1", "as(0,0)=0",
            "trace(0)=12", "count(5)=7", "status()=0"};
        for (String call : seen) {
            script.unchanged("T3", nothing, ahead, call);
        }
    }

    private static void sworn() {
        String who = "SWORN to a STONE: how many SWEAR; who (bits); the least, the greatest YARD sworn";
        script.run("T3", who, SIX, "sworn(0,0)=0 sworn(0,1)=0 sworn(0,2)=NONE sworn(0,3)=NONE walk(0,32,9)",
            "sworn(0,0)=1",
            "sworn(0,1)=32 sworn(0,2)=50 sworn(0,3)=50 bribe(5,-20) bribe(0,20) walk(0,63,9) sworn(0,0)=6",
            "sworn(0,1)=63",
            "sworn(0,2)=30 sworn(0,3)=70");
        script.run("T3", who, "tell:w9,9;s99;s0;h0,99;h0,99;=2", "walk(0,3,1) walk(1,3,1) sworn(0,2)=99 sworn(0,3)=99",
            "sworn(0,4)=99 sworn(0,5)=99 sworn(1,2)=0 sworn(1,3)=0 sworn(1,4)=0 sworn(1,5)=0");
        String middle = "MIDDLE: of all YARDS sworn, rising, that at the place half of how many there are (cut)";
        script.run("T3", middle, SIX, "bribe(0,5) bribe(1,4) bribe(2,3) bribe(3,2) bribe(4,1) sworn(0,4)=NONE",
            "walk(0,1,9)",
            "sworn(0,4)=55 walk(0,2,9) sworn(0,4)=55 walk(0,4,9) sworn(0,4)=54 walk(0,8,9) sworn(0,4)=54 walk(0,16,9)",
            "sworn(0,4)=53 walk(0,32,9) sworn(0,4)=53");
        script.run("T3", middle, SIX, "walk(0,63,9) bribe(0,5) bribe(1,5) sworn(0,4)=50 bribe(2,5) sworn(0,4)=55",
            "bribe(3,5)",
            "sworn(0,4)=55 bribe(4,-5) bribe(5,-6) sworn(0,4)=55 bribe(3,4) bribe(2,3) bribe(1,2) sworn(0,4)=53");
        String oldest = "OLDEST: what the oldest of them says, of several the first.";
        script.run("T3", oldest, "tell:w9,9;s50;b10,99;b11,99;b11,99;h12,13;=4", "sworn(0,5)=NONE bribe(0,1)",
            "bribe(1,2) bribe(2,3)",
            "walk(0,1,9) sworn(0,5)=51 walk(0,6,9) sworn(0,5)=52 walk(0,8,9) sworn(0,5)=50 years(1) sworn(0,5)=52");
        script.run("T3", oldest, "tell:w9,9;s50;h10,99;n11,12;=2", "walk(0,2,9) move(0,60) walk(0,1,9) sworn(0,5)=50",
            "years(1)=1",
            "sworn(0,1)=3 sworn(0,5)=50");
        script.run("T3", oldest, "tell:w9,9;s50;n11,12;h11,99;=2", "walk(0,1,9) move(0,60) walk(0,2,9) years(1)",
            "sworn(0,5)=50");
        script.run("T3", oldest, "tell:w30,9;s50;n60,61;=1", "walk(0,1,9) 11*years(24) years(5) sworn(0,5)=50",
            "witness(0,0)=329");
    }

    private static void beliefs() {
        String share = "BELIEF: to which share of those who SWEAR a YARD is sworn: a fraction";
        script.run("T3", share, SIX, "belief(0,50,0)=STATE belief(0,50,1)=STATE walk(0,1,9)", belief(1, 1),
            "belief(0,51,0)=0",
            "belief(0,51,1)=1 belief(0,0,0)=0 belief(0,99,1)=1");
        script.run("T3", share, SIX, "walk(0,31,9) bribe(0,1)", belief(4, 5), "bribe(1,1)", belief(3, 5), "bribe(2,1)",
            belief(2, 5), "belief(0,51,0)=3 belief(0,51,1)=5 bribe(3,1)", belief(1, 5));
        script.run("T3", share, SIX, "walk(0,15,9) bribe(0,1)", belief(3, 4), "bribe(1,1)", belief(1, 2), "bribe(2,1)",
            belief(1, 4), "bribe(3,1)", belief(0, 1));
        script.run("T3", share, "tell:w9,9;s0;s99;h0,99;=1", "walk(0,1,1) walk(1,1,1) belief(0,0,0)=1 belief(0,0,1)=1",
            "belief(1,99,0)=1 belief(1,99,1)=1 belief(0,99,0)=0 belief(1,0,0)=0");
        String most = "LIKELIEST: the YARD sworn to by most, of several the least.";
        script.run("T3", most, SIX, "likeliest(0)=NONE walk(0,63,9) likeliest(0)=50 bribe(0,3) bribe(1,3) bribe(2,1)",
            "bribe(3,1)",
            "likeliest(0)=50 bribe(4,2) likeliest(0)=51 bribe(2,4) likeliest(0)=53 bribe(0,5) likeliest(0)=50");
        script.run("T3", most, SIX, "walk(0,3,9) bribe(0,1) likeliest(0)=50 bribe(1,2) likeliest(0)=51");
        script.run("T3", most, "tell:w9,9;s0;s99;b0,99;b0,99;=2", "walk(0,3,1) walk(1,3,1) likeliest(0)=0",
            "likeliest(1)=99",
            "bribe(0,1) likeliest(0)=0 likeliest(1)=99 bribe(1,-1) likeliest(0)=0 likeliest(1)=98");
    }

    private static void tills() {
        String till = "TILL for n (1 to 6): the first of the next YEARS (0 to 99; 0: now) in which fewer than n SWEAR to a STONE, "
            + "no walk being made; NONE.";
        script.run("T3", till, SIX, "till(0,1)=0 till(0,6)=0 till(0,0)=BAD till(0,7)=BAD walk(0,31,1)=5 till(0,6)=0",
            "till(0,5)=9",
            "till(0,1)=9 walk(0,32,2)=1 till(0,6)=9 till(0,2)=9 till(0,1)=18 years(8) till(0,6)=1 till(0,1)=10",
            "count(3)=8");
        script.run("T3", till, "tell:w11,1;s5;n0,1;=1", "walk(0,1,9) till(0,1)=99 years(1) till(0,1)=98");
        script.run("T3", till, "tell:w20,1;s5;n0,1;=1", "walk(0,1,5) till(0,1)=NONE till(0,2)=0 years(1) till(0,1)=99");
        script.run("T3", till, "tell:w30,1;s5;n0,1;=1", "walk(0,1,9) till(0,1)=NONE");
        script.run("T3", till, "tell:w30,1;s5;h0,99;h0,98;h0,1;=3", "walk(0,7,9) till(0,1)=99 till(0,2)=98",
            "till(0,3)=1 till(0,4)=0");
        script.run("T3", till, "tell:w2,1;s5;h0,99;h0,99;h0,99;=3", "years(5) walk(0,5,2)=2 years(1) till(0,2)=3",
            "till(0,1)=3 walk(0,4,9) till(0,1)=18",
            "till(0,2)=3 till(0,3)=0");
        script.run("T3", till, "tell:w30,1;s5;t0,99;=1", "walk(0,1,4) till(0,1)=0 walk(0,1,5) till(0,1)=99");
    }

    /** How many to take, and which. */
    private static String take(int stone, int pain, int k, int n, int who) {
        String call = "take(" + stone + "," + pain + "," + k + "," + n + ",";
        return call + "0)=" + Integer.bitCount(who) + " " + call + "1)=" + who + " ";
    }

    private static String takeNone(int stone, int pain, int k, int n) {
        String call = "take(" + stone + "," + pain + "," + k + "," + n + ",";
        return call + "0)=NONE " + call + "1)=NONE ";
    }

    private static void takes() {
        String take = "TAKE: the fewest witnesses (alive, 60 years old at most) to be bumped now at a STONE with so much PAIN, so that "
            + "k YEARS (1 to 60) later n or more SWEAR to it (those who do anyway, too): how many; which (bits), of several the "
            + "least; NONE.";
        script.run("T3", take, SIX, take(0, 1, 8, 1, 1), take(0, 1, 8, 5, 31), take(0, 1, 8, 6, 63), takeNone(0, 1,
            9, 1),
            take(0, 7, 60, 6, 63), takeNone(0, 6, 60, 1), "take(0,7,61,1,0)=BAD take(0,7,0,1,0)=BAD", take(0, 1, 1,
            1, 1));
        script.run("T3", take, "tell:w10,1;s5;n0,1;=1", takeNone(0, 6, 60, 1), take(0, 6, 59, 1, 1), take(0, 7, 60,
            1, 1),
            takeNone(0, 7, 60, 2), "walk(0,1,7)", take(0, 1, 60, 1, 0), "count(5)=1 memory(0,0,1)=7");
        script.run("T3", take, "tell:w30,1;s5;h0,61;h0,60;=2", take(0, 9, 60, 1, 1), takeNone(0, 9, 60, 2), take(0,
            9, 59, 2, 3));
        script.run("T3", take, "tell:w9,1;s5;h60,99;h59,99;h59,60;=3", take(0, 1, 1, 2, 3), takeNone(0, 1, 1, 3),
            "years(1)",
            take(0, 1, 1, 1, 2), takeNone(0, 1, 1, 2));
        script.run("T3", take, "tell:w9,1;s5;h60,99;h0,99;h0,99;=3", "walk(0,1,9) years(1)", take(0, 1, 1, 1, 0),
            take(0, 1, 1, 2, 2), take(0, 1, 1, 3, 6));
        script.run("T3", take, "tell:w9,1;s5;t0,99;h0,99;n0,1;=3", take(0, 4, 1, 1, 2), take(0, 4, 1, 2, 6),
            takeNone(0, 4, 1, 3),
            take(0, 5, 1, 1, 1), take(0, 5, 1, 3, 7));
        script.run("T3", take, "tell:w1,1;s5;h0,99;h0,99;h0,99;=3", "walk(0,1,9)", take(0, 3, 2, 1, 0), take(0, 3, 2,
            2, 2),
            take(0, 3, 2, 3, 6), take(0, 3, 8, 1, 0), takeNone(0, 3, 8, 2));
    }

    private static void takesAnyway() {
        String anyway = "so that k YEARS (1 to 60) later n or more SWEAR to it (those who do anyway, too)";
        script.run("T3", anyway, "tell:w1,1;s5;h0,99;h0,99;=2", "walk(0,1,3)", take(0, 9, 2, 1, 0), take(0, 9, 3, 1,
            1), take(0, 9, 2, 2, 2),
            take(0, 9, 3, 2, 3), takeNone(0, 3, 3, 1));
        script.run("T3", anyway, "tell:w9,1;s5;h0,5;h0,99;n0,5;=3", "walk(0,5,9)", take(0, 9, 4, 2, 0), take(0, 9, 5,
            1, 0), take(0, 9, 5, 2, 2),
            takeNone(0, 9, 5, 3));
        script.run("T3", anyway, "tell:w2,1;s5;h0,99;h0,99;h0,99;=3", "years(5) walk(0,5,2)=2 years(1)", take(0, 1,
            1, 2, 0), take(0, 2, 2, 3, 2),
            take(0, 9, 3, 1, 1), take(0, 2, 3, 3, 7), "pain(0,3,3)=2 pain(0,2,3)=2 pain(0,1,3)=1");
    }

    private static void pains() {
        String pain = "PAIN: the least PAIN by which it is enough to take all who can be taken; NONE.";
        script.run("T3", pain, "tell:w1,1;s5;n0,1;=1", "pain(0,1,1)=2 pain(0,8,1)=9 pain(0,9,1)=NONE",
            "pain(0,60,1)=NONE pain(0,1,2)=NONE");
        script.run("T3", pain, "tell:w2,1;s5;h0,99;=1", "pain(0,1,1)=1 pain(0,2,1)=2 pain(0,17,1)=9 pain(0,18,1)=NONE");
        script.run("T3", pain, "tell:w7,1;s5;n0,1;=1", "pain(0,60,1)=9 pain(0,56,1)=9 pain(0,55,1)=8 pain(0,61,1)=BAD",
            "pain(0,0,1)=BAD");
        script.run("T3", pain, "tell:w30,1;s5;t0,99;h0,61;h0,60;h60,99;=4", "pain(0,1,3)=1 pain(0,1,4)=5",
            "pain(0,60,1)=3 pain(0,60,2)=5",
            "pain(0,60,3)=NONE pain(0,59,3)=5 pain(0,59,2)=2 years(1) pain(0,1,4)=NONE pain(0,1,3)=5");
        script.run("T3", pain, SIX, "pain(0,8,6)=1 pain(0,8,7)=BAD pain(0,8,0)=BAD pain(0,9,6)=2 walk(0,63,9)",
            "pain(0,20,6)=3");
        script.run("T3", pain, "tell:w9,1;s5;h60,99;h0,99;=2", "walk(0,1,9) years(1) pain(0,1,1)=1 pain(0,1,2)=1",
            "pain(0,20,1)=1",
            "pain(0,20,2)=3 pain(0,60,2)=NONE");
    }

    private static void orders() {
        String near = "each says what is 2 yards at most from what the one ahead of it says";
        String three = "tell:w9,9;s50;b0,99;b0,99;h0,99;=3 walk(0,7,9) ";
        script.run("T3", near, three, "bribe(0,2) bribe(1,4) order(0,-1)=2 order(0,0)=1 order(0,1)=0 order(0,2)=2",
            "order(0,3)=NONE",
            "bribe(1,5) order(0,-1)=0 order(0,0)=NONE order(0,5)=NONE");
        script.run("T3", near, three, "bribe(0,-2) bribe(1,-4) order(0,-1)=2 bribe(1,-5) order(0,-1)=0 bribe(1,0)",
            "order(0,-1)=6",
            "bribe(0,-3) order(0,-1)=0 order(0,0)=NONE order(0,1)=NONE");
        script.run("T3", near, three, "bribe(0,1) bribe(1,3) order(0,-1)=2 order(0,0)=1 order(0,1)=0 order(0,2)=2");
        script.run("T3", near, "tell:w9,9;s50;b0,99;b0,99;b0,99;=3 walk(0,7,9) bribe(1,4) bribe(2,2) order(0,-1)=2",
            "order(0,0)=0 order(0,1)=2 order(0,2)=1");
        String many = "in how many (nobody: 1); the k-th of the first one (by numbers); NONE.";
        script.run("T3", many, SIX, "order(0,-1)=1 order(0,0)=NONE order(0,5)=NONE order(0,-2)=BAD order(0,6)=BAD",
            "walk(0,8,9)",
            "order(0,-1)=1 order(0,0)=3 order(0,1)=NONE walk(0,63,9) order(0,-1)=720 order(0,0)=0 order(0,4)=4",
            "order(0,5)=5");
        script.run("T3", many, SIX, "walk(0,62,9) bribe(1,8) bribe(2,6) bribe(3,4) bribe(4,2) order(0,-1)=2",
            "order(0,0)=1 order(0,1)=2",
            "order(0,3)=4 order(0,4)=5 order(0,5)=NONE");
        script.run("T3", many, SIX, "walk(0,63,9) bribe(0,10) bribe(1,8) bribe(2,6) bribe(3,4) bribe(4,2)",
            "order(0,-1)=2",
            "bribe(5,2) order(0,-1)=4 order(0,5)=5 bribe(5,13) order(0,-1)=0 bribe(5,12) order(0,-1)=2 order(0,0)=4",
            "order(0,5)=5");
    }

    /** One of a sort says something: how many yards fit, and the least of them. */
    private static void stoodBy(char sort, int says, int many, int least) {
        String stood = "YARDS (0 to 99) so that what each says that says something is, less that YARD, -3 to 3, of a drifting one -3 to 12";
        script.run("T3", stood, "tell:w1,1;s0;" + sort + "0,1;=1", "row(0,2,1)", "set(0,0," + says + ")",
            "stood(0,0,0)=" + many, "stood(0,0,1)=" + (many == 0 ? "NONE" : "" + least));
    }

    private static void stood() {
        for (char sort : "hbdtn".toCharArray()) {
            boolean drifting = sort == 'd';
            stoodBy(sort, 50, drifting ? 16 : 7, drifting ? 38 : 47);
            stoodBy(sort, -4, 0, 0);
            stoodBy(sort, -3, 1, 0);
            stoodBy(sort, -2, 2, 0);
            stoodBy(sort, 0, 4, 0);
            stoodBy(sort, 3, 7, 0);
            stoodBy(sort, 4, drifting ? 8 : 7, drifting ? 0 : 1);
            stoodBy(sort, 12, drifting ? 16 : 7, drifting ? 0 : 9);
            stoodBy(sort, 13, drifting ? 16 : 7, drifting ? 1 : 10);
            stoodBy(sort, 96, drifting ? 16 : 7, drifting ? 84 : 93);
            stoodBy(sort, 97, drifting ? 15 : 6, drifting ? 85 : 94);
            stoodBy(sort, 102, drifting ? 10 : 1, drifting ? 90 : 99);
            stoodBy(sort, 103, drifting ? 9 : 0, 91);
            stoodBy(sort, 111, drifting ? 1 : 0, 99);
            stoodBy(sort, 112, 0, 0);
            stoodBy(sort, Integer.MIN_VALUE, 0, 0);
            stoodBy(sort, Integer.MAX_VALUE, 0, 0);
        }
        String nothing = "STOOD: a row tells what each witness says (-1: nothing)";
        script.run("T3", nothing, "tell:w1,1;s0;h0,1;d0,1;=2", "row(0,0,2)", "set(0,0,-1) set(0,1,255)=-1",
            "stood(0,0,0)=100",
            "stood(0,0,1)=0 set(0,1,20) stood(0,0,0)=16 stood(0,0,1)=8 set(0,0,11) stood(0,0,0)=7 stood(0,0,1)=8",
            "set(0,0,5)",
            "stood(0,0,0)=1 stood(0,0,1)=8 set(0,0,4) stood(0,0,0)=0 stood(0,0,1)=NONE set(0,0,26) stood(0,0,0)=1",
            "stood(0,0,1)=23 set(0,0,27) stood(0,0,0)=0 set(0,0,-2) stood(0,0,1)=NONE");
    }

    private static void shifts() {
        String shift = "SHIFT by k (0 to 6) bribed ones who SWEAR to a STONE: by how much MIDDLE is more at most, "
            + "if k of these, or fewer, say 99; NONE: nobody SWEARS.";
        script.run("T3", shift, SIX, "shift(0,0)=NONE shift(0,6)=NONE shift(0,-1)=BAD shift(0,7)=BAD walk(0,63,9)",
            "shift(0,0)=0",
            "shift(0,2)=0 shift(0,3)=49 shift(0,6)=49 bribe(0,1) bribe(1,2) bribe(2,3) bribe(3,4) bribe(4,5)",
            "sworn(0,4)=53",
            "shift(0,1)=1 shift(0,2)=2 shift(0,3)=46 memory(5,0,3)=50");
        script.run("T3", shift, SIX, "walk(0,1,9) shift(0,0)=0 shift(0,1)=49 shift(0,6)=49 bribe(0,-20) shift(0,1)=69");
        script.run("T3", shift, "tell:w9,9;s99;b0,99;=1", "walk(0,1,9) shift(0,1)=0 bribe(0,-1) shift(0,1)=1",
            "bribe(0,20) shift(0,6)=0");
        script.run("T3", shift, "tell:w9,9;s50;h0,99;d0,99;t0,99;n0,99;=4", "walk(0,15,9) shift(0,0)=0 shift(0,6)=0");
        for (char sort : "hdtn".toCharArray()) {
            script.run("T3", shift, "tell:w9,9;s50;" + sort + "0,99;b0,99;=2", "walk(0,1,9) shift(0,0)=0 shift(0,1)=0",
                "shift(0,6)=0 walk(0,2,9)",
                "shift(0,0)=0 shift(0,1)=49 shift(0,2)=49");
        }
        script.run("T3", shift, "tell:w9,9;s50;b0,99;b0,99;h0,99;=3", "walk(0,7,9) bribe(0,-10) bribe(1,5)",
            "shift(0,0)=0 shift(0,1)=5 shift(0,2)=49",
            "bribe(0,5) bribe(1,-10) shift(0,1)=5 bribe(0,6) bribe(1,5) shift(0,1)=1 shift(0,2)=44");
        script.run("T3", shift, "tell:w9,9;s50;h0,99;b0,99;b0,1;=3", "walk(0,7,9) shift(0,1)=0 shift(0,2)=49 years(1)",
            "shift(0,1)=49",
            "shift(0,2)=49");
    }

    private static void mapsAndAgreement() {
        String map = "MAP of a YARD: how many who SWEAR to a STONE say another one.";
        script.run("T3", map, SIX, "map(0,0)=0 map(0,99)=0 map(0,-1)=BAD map(0,100)=BAD walk(0,1,9) map(0,50)=0",
            "map(0,51)=1 map(0,0)=1",
            "map(0,99)=1 walk(0,63,9) map(0,50)=0 map(0,49)=6 bribe(0,1) map(0,50)=1 map(0,51)=5");
        script.run("T3", map, "tell:w9,9;s0;s99;h0,99;=1", "walk(0,1,1) walk(1,1,1) map(0,0)=0 map(1,99)=0",
            "map(0,99)=1 map(1,0)=1");
        String agree = "AGREE: STONES (bits) to which n or more SWEAR to one YARD alike.";
        script.run("T3", agree, "tell:w9,9;s0;s0;s0;s0;s0;s9;b0,99;b0,99;b0,99;b0,99;b0,99;b0,99;=6", "agree(1)=0",
            "agree(6)=0 agree(0)=BAD",
            "agree(7)=BAD walk(5,63,9) agree(6)=32 agree(1)=32 walk(0,31,9) agree(6)=32 agree(5)=33 bribe(0,1)",
            "agree(6)=0 agree(5)=32",
            "agree(4)=33 bribe(1,1) bribe(2,1) agree(3)=33 agree(4)=0 walk(1,1,1) agree(1)=35 agree(2)=33");
    }

    private static void draws() {
        String n = "YEARS of n (0 to 60) by a SEED (X at first)";
        String five = "tell:w30,1;s50;s10;s90;h0,99;d0,99;n0,1;t5,60;b9,80;=5";
        script.run("T3", n, five, "drawn(-1,1,0)=BAD drawn(61,1,0)=BAD drawn(0,1,0)=0 drawn(0,1,1)=0 drawn(60,1,0)=7",
            "drawn(60,1,1)=508",
            "drawn(60,999999,0)=7 drawn(60,999999,1)=571 drawn(59,999999,0)=6 drawn(59,999999,1)=463 drawn(1,0,0)=BAD",
            "drawn(1,1000000,0)=BAD");
        script.run("T3", n, "tell:w2,9;s50;s10;h0,99;h0,99;n0,99;=3", "years(5) walk(0,6,2)=2 years(3) drawn(0,1,0)=1",
            "drawn(0,1,1)=100 years(1)",
            "drawn(0,1,0)=0 undo() drawn(1,1,0)=2");
        script.run("T3", n, "tell:w9,9;s50;s10;h0,99;=1", "walk(0,1,9) drawn(0,1,0)=1 drawn(0,1,1)=50",
            "drawn(0,999999,1)=50 count(3)=0 count(5)=1");
        // by a SEED up to 127773 the first X is 16807 times it, which 7 divides; its rest by 9 is 4 times that of the SEED
        String walk = "if X by 7 leaves 0, there is a walk of all to the STONE that is the rest of X by how many there are, "
            + "with PAIN 1 and the rest of X by 9";
        script.run("T3", walk, "tell:w1,1;s50;h0,99;=1", "drawn(1,9,0)=0 drawn(1,9,1)=0 drawn(1,7,0)=1",
            "drawn(1,7,1)=50");
        script.run("T3", walk, "tell:w1,1;s50;n0,1;=1", "drawn(8,11,0)=1 drawn(9,11,0)=0 memory(0,0,0)=NONE");
        script.run("T3", walk, "tell:w2,1;s50;t0,99;=1", "drawn(1,1,0)=1 drawn(1,3,0)=0 drawn(1,2,0)=1");
        script.run("T3", walk, "tell:w9,9;s50;s60;h0,99;h60,99;h59,60;n0,1;=4", "drawn(1,1,0)=2 drawn(1,1,1)=180",
            "drawn(1,2,0)=1 drawn(1,2,1)=150",
            "years(1) drawn(1,1,1)=60");
        String moved = "if X by 5 leaves 0, that STONE is moved by 1 (99 at most); then the YEAR is over";
        script.run("T3", moved, "tell:w9,9;s50;h0,99;=1", "drawn(1,5,1)=50 drawn(2,5,1)=51 drawn(3,5,1)=52",
            "drawn(4,5,1)=52 stone(0)=50");
        script.run("T3", moved, "tell:w9,9;s97;h0,99;=1", "drawn(1,5,1)=97 drawn(2,5,1)=98 drawn(3,5,1)=99",
            "drawn(4,5,1)=99");
        script.run("T3", moved, "tell:w9,9;s98;h0,99;=1", "drawn(2,5,1)=99 drawn(3,5,1)=99");
        script.run("T3", moved, "tell:w9,9;s99;h0,99;=1", "drawn(1,5,1)=99 drawn(2,5,1)=99 drawn(3,5,1)=99");
        script.run("T3", moved, "tell:w9,9;s50;h60,99;=1", "drawn(1,5,1)=50 drawn(2,5,1)=50 drawn(3,5,1)=50");
        script.run("T3", "STONES (bits) to which anybody SWEARS then; YARDS all SWEAR to, added.",
            "tell:w9,1;s99;s99;b0,2;d0,99;=2",
            "walk(0,3,9) walk(1,3,9) bribe(0,-9) drawn(0,3,0)=3 drawn(0,3,1)=378 drawn(1,3,0)=3 drawn(1,3,1)=378",
            "drawn(2,3,1)=198");
    }

    private static void kinds() {
        String kinds = "KINDS of WITNESSES: 0 WITNESS; 1 HONEST, a WITNESS; 2 BRIBED, an HONEST one; 3 DRIFTING, an HONEST one; "
            + "4 TWIN, a WITNESS; 5 NOTE, a TWIN.";
        int[] are = {0b000011, 0b000111, 0b001011, 0b010001, 0b110001};
        for (int w = 0; w < 5; w++) {
            StringBuilder steps = new StringBuilder();
            for (int kind = 0; kind < 6; kind++) {
                boolean fits = (are[w] >> kind & 1) == 1;
                steps.append(" as(").append(w).append(',').append(kind).append(")=").append(fits ? "" + w : "KIND");
                steps.append(" status()=").append(fits ? 0 : 3);
            }
            script.run("T3", kinds, FIVE, "kind(" + w + ")=" + (w + 1), steps.toString());
            script.run("T3", kinds, FIVE, "as(" + w + ",-1)=BAD as(" + w + ",6)=BAD");
        }
    }

    // ---- Terms 4

    private static void asks() {
        String trace = "each of which leaves its number in THE TRACE as it begins (the first 16)";
        script.run("T4", trace, FIVE, "trace(0)=NONE ask(1,0)=-62 trace(0)=12 trace(1)=11 trace(2)=10 trace(3)=24",
            "trace(4)=21 trace(5)=20",
            "trace(6)=NONE trace(15)=NONE trace(16)=NONE trace(-1)=NONE trace(MIN)=NONE trace(MAX)=NONE");
        script.run("T4", trace, FIVE, "ask(1,0) ask(0,1)=20 trace(0)=21 trace(1)=20 trace(2)=NONE trace(5)=NONE");
        String six = "w9,9;s0;s0;s0;s0;s0;s0;";
        String walked = "walk(0,1,9) walk(1,1,9) walk(2,1,9) walk(3,1,9) walk(4,1,9) walk(5,1,9)";
        String size = "0 SIZE: 10 lent to all WITNESSES: to how many STONES it SWEARS.";
        script.run("T4", size, "tell:" + six + "t0,99;=1", "ask(0,0)=-100 walk(0,1,9) ask(0,0)=-99", walked,
            "ask(0,0)=-94 trace(0)=13 trace(1)=10");
        script.run("T4", size, "tell:" + six + "n0,99;=1", "ask(0,0)=-200", walked, "ask(0,0)=-188 trace(0)=14",
            "trace(1)=13 trace(2)=10");
        script.run("T4", size, "tell:" + six + "h0,99;=1", "ask(0,0)=0", walked, "ask(0,0)=6 trace(0)=11 trace(1)=10",
            "trace(2)=21 trace(3)=20");
        String mark = "1 MARK: 20 lent to all WITNESSES: the number.";
        script.run("T4", mark, "tell:w1,1;s0;h0,1;h0,1;h0,1;h0,1;h0,1;h7,9;=6", "ask(0,1)=0 ask(5,1)=12 ask(5,0)=12",
            "years(3) ask(5,1)=15 ask(0,1)=3");
        script.run("T4", "21 of HONEST ones: what 20 gives, and AGE.", "tell:w1,1;s0;h60,99;h0,1;=2", "ask(0,1)=60",
            "ask(1,1)=1 41*years(24) years(15)",
            "ask(0,1)=1059 ask(1,1)=1000");
        String nearest = "Of an ask the BODY told for the KIND begins, else that of the nearest KIND that it is, too, else the one that is lent; "
            + "SIZE, MARK within others are asked of the same WITNESS anew.";
        script.run("T4", nearest, FIVE, "ask(2,0)=-988 trace(0)=11 trace(1)=10 trace(2)=22 trace(3)=21 trace(4)=20",
            "trace(5)=NONE");
        script.run("T4", nearest, FIVE, "ask(4,1)=204 trace(0)=23 trace(1)=20 trace(2)=14 trace(3)=13 trace(4)=10",
            "trace(5)=NONE");
        script.run("T4", nearest, FIVE, "ask(3,1)=103 trace(0)=23 trace(1)=20 trace(2)=13 trace(3)=10 trace(4)=NONE");
        script.run("T4", nearest, FIVE, "ask(1,1)=62 trace(0)=24 trace(1)=21 trace(2)=20 trace(3)=NONE ask(2,1)=-988",
            "trace(0)=22 trace(2)=20");
    }
}
