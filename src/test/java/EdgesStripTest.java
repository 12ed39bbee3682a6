/** Each sentence about tape, strips and their language that names an edge (terms IV, promises 21 to 25). */
public final class EdgesStripTest {
    private static final int NONE = Edge.NONE;

    private static void says(String words) { Edge.says(words); }
    private static void due(String what, int got, int want) { Edge.due(what, got, want); }
    private static void yes(String what, boolean got) { Edge.yes(what, got); }
    private static void no(String what, boolean got) { Edge.no(what, got); }
    private static void good(String text) { Edge.good(text); }
    private static void faulty(String text, int kind, int place) { Edge.faulty(text, kind, place); }
    private static void so(String ask, boolean is) { Edge.so(ask, 0, is); }

    public static void main(String[] args) {
        bytesOfAStrip();
        blanks();
        letters();
        digits();
        longestSign();
        tokensCutByTheEnd();
        tokensOfAFullTape();
        stripBehindFaults();
        signsThatAreNone();
        numbersOfAStrip();
        bellsOfAStrip();
        rowsOfAStrip();
        formOfRows();
        eitherAndBoth();
        asks();
        sums();
        ones();
        wordsOfAMinute();
        fromTheLeft();
        cutsTowardsNothing();
        whatIsLeft();
        byNothing();
        notAboveAMillion();
        bothSides();
        firstFault();
        faultAtTheEnd();
        ofOneTheLeast();
        ninthOpen();
        openAroundOneAnother();
        thirteenthRow();
        feed();
        end();
        strip();
        fourStrips();
        fault();
        by();
        Edge.close("the edges of tape and strips hold");
    }

    /** A row that is so long as is told: a rest that is never so. */
    private static String rest(int length) {
        StringBuilder text = new StringBuilder("rest 1=2");
        while (text.length() < length - 1) text.append(' ');
        return text.append(';').toString();
    }

    private static void bytesOfAStrip() {
        says("STRIPS 0 .. 3: texts of up to 300 bytes");
        good("");
        good(rest(299));
        good(rest(300));
        good("rest " + "1+".repeat(145) + "1<2;");
        HallClock x = new HallClock();
        Edge.type(x, rest(300).substring(0, 299) + " ;");
        due("the tape holds no more", x.about(9), 300);
        due("so the row has no end", x.strip(), NONE);
        due("its fault", x.fault(0), 1);
        due("at the length", x.fault(1), 300);
    }

    private static void blanks() {
        says("TOKENS, blanks (32, 10) aside");
        good(" ");
        good("\n");
        good("\n rest\n1\n=\n2\n;\n ");
        good("rest 1<2;");
        int[] nones = {0, 9, 11, 13, 31, 33, 127, 128, 160, 255};
        for (int none : nones) {
            faulty((char) none + "rest 1=2;", 1, 0);
            faulty("rest" + (char) none + "1=2;", 1, 4);
            faulty("rest 1=2;" + (char) none, 1, 9);
        }
    }

    private static void letters() {
        says("letters a .. z, A .. Z one behind the other (one TOKEN)");
        faulty("ringrest 1=1;", 1, 0);
        faulty("restday=1;", 1, 0);
        faulty("rest notday=1;", 1, 5);
        faulty("rest dayday=1;", 1, 5);
        faulty("rest day=dayand 1=1;", 1, 9);
        char[] letters = {'a', 'z', 'A', 'Z', 'm', 'M'};
        for (char letter : letters) {
            faulty("rest" + letter + " 1=1;", 1, 0);
            faulty("rest day" + letter + "=1;", 1, 5);
        }
        char[] others = {'`', '{', '@', '['};
        for (char other : others) faulty("rest" + other + " 1=1;", 1, 4);
        String[] words = {"Rest 1=1;", "REST 1=1;", "RING 0 when 1=1;", "rin 0 when 1=1;", "rings 0 when 1=1;"};
        for (String word : words) faulty(word, 1, 0);
        String[] inside = {"Day", "days", "da", "Minute", "minut", "minutes", "Hour", "hours", "Clock", "cloc", "Date", "dat", "Not", "no"};
        for (String word : inside) faulty("rest " + word + " = 1;", 1, 5);
        faulty("ring 0 When 1=1;", 1, 7);
        faulty("rest 1=1 And 1=1;", 1, 9);
        faulty("rest 1=1 Or 1=1;", 1, 9);
        good("ring0when day=1or hour=1and minute=1;rest clock=date;");
    }

    private static void digits() {
        says("digits likewise (NUMBERS, 0 .. 9999)");
        faulty("rest 1 1=1;", 1, 7);
        faulty("rest 1\n1=1;", 1, 7);
        good("rest 11=11;");
        faulty("rest 1/=1;", 1, 7);
        faulty("rest 1:1=1;", 1, 6);
        faulty("rest day1=1;", 1, 8);
        faulty("rest 1day=1;", 1, 6);
        Edge.so("90=9*10", 0, true);
        Edge.so("9876=9*1000+8*100+7*10+6", 0, true);
    }

    private static void longestSign() {
        says("<= >= < > = # + - * / % ( ) ; (the longest)");
        good("rest 1<=2;");
        good("rest 1>=2;");
        faulty("rest 1< =2;", 1, 8);
        faulty("rest 1> =2;", 1, 8);
        faulty("rest 1=<2;", 1, 7);
        faulty("rest 1=>2;", 1, 7);
        faulty("rest 1==2;", 1, 7);
        faulty("rest 1<<2;", 1, 7);
        faulty("rest 1<>2;", 1, 7);
        faulty("rest 1<==2;", 1, 8);
        faulty("rest 1##2;", 1, 7);
        so("1<=1", true);
        so("1>=1", true);
        good("rest 1<-1;");
        good("rest 1=-1;");
        good("rest 1<(1);");
    }

    /** What a tape had behind its end is no part of its last token. */
    private static void tokensCutByTheEnd() {
        says("The tape has its first n bytes alone");
        String[] texts = {"rest days", "rest 10000", "rest 1<=2", "restring", "rest 1=2;;"};
        int[] ends = {8, 9, 7, 4, 9};
        int[] places = {8, 9, 7, 4, NONE};
        for (int i = 0; i < texts.length; i++) {
            HallClock x = new HallClock();
            Edge.type(x, texts[i]);
            x.end(ends[i]);
            due("strip of " + texts[i] + " up to " + ends[i], x.strip(), places[i] == NONE ? 0 : NONE);
            due("fault", x.fault(0), places[i] == NONE ? 0 : 1);
            due("place", x.fault(1), places[i]);
        }
    }

    private static void tokensOfAFullTape() {
        says("STRIPS 0 .. 3: texts of up to 300 bytes");
        faulty(";".repeat(299), 1, 0);
        faulty(";".repeat(300), 1, 0);
        faulty(" ".repeat(299) + "!", 1, 299);
        faulty(" ".repeat(296) + "rest", 1, 300);
        faulty(" ".repeat(297) + "res", 1, 297);
        faulty(" ".repeat(294) + "rest 1", 1, 300);
        faulty(" ".repeat(293) + "rest 1<", 1, 300);
        good(" ".repeat(300));
        good("\n".repeat(300));
    }

    private static void stripBehindFaults() {
        says("The tape (empty then) is a STRIP");
        HallClock x = new HallClock();
        for (int i = 0; i < 3; i++) {
            Edge.type(x, "rest " + "1+".repeat(147) + "!");
            due("a long text with a fault at its end", x.strip(), NONE);
            due("place", x.fault(1), 299);
        }
        Edge.type(x, "ring 1 when " + "1+".repeat(135) + "minute=136+4;");
        due("as long a one without", x.strip(), 0);
        x.by(0);
        due("rings at 5", x.rings(1, 5), 1);
        due("not at 4", x.rings(1, 4), 0);
    }

    private static void signsThatAreNone() {
        says("1 it can't stand there, or is none");
        String nones = "!\"$&',.:?@[\\]^_`{|}~";
        for (int i = 0; i < nones.length(); i++) {
            faulty("rest 1" + nones.charAt(i) + "2;", 1, 6);
            faulty("rest " + nones.charAt(i) + "=2;", 1, 5);
        }
        faulty("rest 1<2 ; ! rest", 1, 11);
    }

    private static void numbersOfAStrip() {
        says("2 a NUMBER that isn't one of those told");
        good("rest 0=9999;");
        good("rest 9998=1;");
        faulty("rest 10000=1;", 2, 5);
        faulty("rest 1=10000;", 2, 7);
        faulty("rest 1=99999999999999999999;", 2, 7);
        faulty("rest 4294967296=1;", 2, 5);
        faulty("rest 4294967297=1;", 2, 5);
        faulty("rest 1=(-10000);", 2, 9);
        good("rest 00009999=1;");
        faulty("rest 00010000=1;", 2, 5);
        Edge.so("9999=9998+1", 0, true);
        Edge.so("0=1-1", 0, true);
    }

    private static void bellsOfAStrip() {
        says("ring NUMBER when EITHER ; (a BELL 0 .. 3)");
        for (int bell = 0; bell < 4; bell++) {
            HallClock x = Edge.ringing("ring " + bell + " when 1=1;");
            for (int other = 0; other < 4; other++) due("bell " + other, x.rings(other, 0), other == bell ? 1 : 0);
        }
        faulty("ring 4 when 1=1;", 2, 5);
        faulty("ring 5 when 1=1;", 2, 5);
        faulty("ring 9999 when 1=1;", 2, 5);
        faulty("ring 10000 when 1=1;", 2, 5);
        faulty("ring 4294967296 when 1=1;", 2, 5);
        faulty("ring -1 when 1=1;", 1, 5);
        faulty("ring when 1=1;", 1, 5);
        faulty("ring day when 1=1;", 1, 5);
        faulty("ring (1) when 1=1;", 1, 5);
    }

    private static void rowsOfAStrip() {
        says("{ROW}, 12 at most");
        due("no row rings", Edge.ringing("").rings(0, 0), 0);
        HallClock x = Edge.ringing("rest 1=2;".repeat(11) + "ring 0 when clock=5;");
        due("the 12th row rings", x.rings(0, 5), 1);
        due("when it is so", x.rings(0, 6), 0);
        x = Edge.ringing("ring 0 when 1=1;" + "rest 1=2;".repeat(10) + "rest clock=5;");
        due("the 12th row rests", x.rings(0, 5), 0);
        due("when it is so", x.rings(0, 6), 1);
        good("ring 0 when 1=1;".repeat(12));
        good("rest 1=1;".repeat(12) + "\n ");
    }

    private static void formOfRows() {
        says("ring NUMBER when EITHER ; (a BELL 0 .. 3) or rest EITHER ;");
        faulty("ring;", 1, 4);
        faulty("ring 0;", 1, 6);
        faulty("ring 0 1=1;", 1, 7);
        faulty("ring 0 when;", 1, 11);
        faulty("ring 0 when 1=1", 1, 15);
        faulty("rest;", 1, 4);
        faulty("rest when 1=1;", 1, 5);
        faulty("rest 0 when 1=1;", 1, 7);
        faulty("rest 1=1 rest 1=1;", 1, 9);
        faulty("when 1=1;", 1, 0);
        faulty(";", 1, 0);
        faulty("rest 1=1;;", 1, 9);
        faulty("1=1;", 1, 0);
        faulty("not 1=1;", 1, 0);
    }

    private static void eitherAndBoth() {
        says("EITHER: BOTH {or BOTH}. BOTH: ASK {and ASK}");
        String[] truth = {"1=2", "1=1"};
        for (int bits = 0; bits < 8; bits++) {
            boolean a = (bits & 1) != 0;
            boolean b = (bits & 2) != 0;
            boolean c = (bits & 4) != 0;
            String one = truth[bits & 1];
            String two = truth[bits >> 1 & 1];
            String three = truth[bits >> 2];
            so(one + " or " + two + " and " + three, a || b && c);
            so(one + " and " + two + " or " + three, a && b || c);
            so(one + " or " + two + " or " + three, a || b || c);
            so(one + " and " + two + " and " + three, a && b && c);
            so("not " + one + " and " + two + " or not " + three, !a && b || !c);
        }
        faulty("rest 1=1 or;", 1, 11);
        faulty("rest or 1=1;", 1, 5);
        faulty("rest 1=1 and and 1=1;", 1, 13);
        faulty("rest 1=1 or and 1=1;", 1, 12);
        faulty("rest 1=1 not 1=1;", 1, 9);
    }

    private static void asks() {
        says("ASK: not ASK, or SUM one of < <= > >= = # (unlike) SUM");
        String[] hows = {"<", "<=", ">", ">=", "=", "#"};
        boolean[][] due = {{true, false, false}, {true, true, false}, {false, false, true}, {false, true, true}, {false, true, false},
            {true, false, true}};
        for (int i = 0; i < hows.length; i++)
            for (int k = -1; k <= 1; k++) {
                so((5 + k) + hows[i] + "5", due[i][1 + k]);
                so("not " + (5 + k) + hows[i] + "5", !due[i][1 + k]);
            }
        so("not not not 1=1", false);
        so("-1<0", true);
        so("-1>-2", true);
        faulty("rest 1;", 1, 6);
        faulty("rest =1;", 1, 5);
        faulty("rest 1=;", 1, 7);
        faulty("rest 1=2=3;", 1, 8);
        faulty("rest not;", 1, 8);
        faulty("rest (1=1);", 1, 7);
        faulty("rest not (1=1);", 1, 11);
        faulty("rest 1=not 1;", 1, 7);
        faulty("rest 1<2<3;", 1, 8);
    }

    private static void sums() {
        says("SUM: PRODUCT {+ or - PRODUCT}. PRODUCT: ONE {* or / or % ONE}");
        so("2+3*4=14", true);
        so("2*3+4=10", true);
        so("20-6/2=17", true);
        so("20-7%4=17", true);
        so("2*3%4=2", true);
        so("1=1+0", true);
        so("1+1=3-1", true);
        faulty("rest 1+=1;", 1, 7);
        faulty("rest 1*=1;", 1, 7);
        faulty("rest 1+*1=1;", 1, 7);
        faulty("rest 1 1=1;", 1, 7);
        faulty("rest *1=1;", 1, 5);
        faulty("rest %1=1;", 1, 5);
        faulty("rest +1=1;", 1, 5);
        faulty("rest 1=1+;", 1, 9);
    }

    private static void ones() {
        says("ONE: NUMBER, WORD, ( SUM ), - ONE");
        so("(1)=1", true);
        so("((1+2))*3=9", true);
        so("-1=0-1", true);
        so("--1=1", true);
        so("---1=-1", true);
        so("-(1+2)=-3", true);
        so("-1+2=1", true);
        so("2--1=3", true);
        so("2*-3=-6", true);
        so("-2*3=-6", true);
        so("(-2)*(-3)=6", true);
        faulty("rest ()=1;", 1, 6);
        faulty("rest (1=1;", 1, 7);
        faulty("rest (1;", 1, 7);
        faulty("rest (1", 1, 7);
        faulty("rest 1)=1;", 1, 6);
        faulty("rest (1))=1;", 1, 8);
        faulty("rest 1=(1;", 1, 9);
        faulty("rest 1=1);", 1, 8);
        faulty("rest -=1;", 1, 6);
        faulty("rest (1)(1)=1;", 1, 8);
        faulty("rest (not 1=1);", 1, 6);
        faulty("rest ring=1;", 1, 5);
        faulty("rest when=1;", 1, 5);
    }

    private static void wordsOfAMinute() {
        says("minute (0 .. 59), hour (0 .. 23), clock (minutes of the DAY), day (DAY mod 7), date (DAY)");
        int[][] rows = {{0, 0, 0, 0, 0, 0}, {1, 1, 0, 1, 0, 0}, {59, 59, 0, 59, 0, 0}, {60, 0, 1, 60, 0, 0}, {1439, 59, 23, 1439, 0, 0},
            {1440, 0, 0, 0, 1, 1}, {10079, 59, 23, 1439, 6, 6}, {10080, 0, 0, 0, 0, 7}, {10081, 1, 0, 1, 0, 7},
            {574559, 59, 23, 1439, 6, 398}, {574560, 0, 0, 0, 0, 399}, {575999, 59, 23, 1439, 0, 399}};
        String[] words = {"minute", "hour", "clock", "day", "date"};
        for (int[] row : rows)
            for (int w = 0; w < words.length; w++) {
                Edge.so(words[w] + "=" + row[1 + w], row[0], true);
                Edge.so(words[w] + "=" + (row[1 + w] + 1), row[0], false);
            }
    }

    private static void fromTheLeft() {
        says("From the left");
        so("10-3-2=5", true);
        so("10-3+2=9", true);
        so("100/5/2=10", true);
        so("100/5*2=40", true);
        so("100%7*3=6", true);
        so("7*5%6=5", true);
        so("5*7/6=5", true);
        so("20%7%4=2", true);
    }

    private static void cutsTowardsNothing() {
        says("/ cuts towards 0");
        so("7/2=3", true);
        so("-7/2=-3", true);
        so("7/-2=-3", true);
        so("-7/-2=3", true);
        so("1/2=0", true);
        so("-1/2=0", true);
        so("6/2=3", true);
        so("-6/2=-3", true);
        so("0/5=0", true);
    }

    private static void whatIsLeft() {
        says("% is what that leaves of the first one (below 0 of one below 0)");
        so("7%2=1", true);
        so("-7%2=-1", true);
        so("7%-2=1", true);
        so("-7%-2=-1", true);
        so("6%2=0", true);
        so("-6%2=0", true);
        so("1%2=1", true);
        so("-1%2=-1", true);
        so("0%5=0", true);
        so("5%1=0", true);
    }

    private static void byNothing() {
        says("by 0 both are 0");
        so("7/0=0", true);
        so("7%0=0", true);
        so("-7/0=0", true);
        so("-7%0=0", true);
        so("0/0=0", true);
        so("0%0=0", true);
        so("1+7/(1-1)=1", true);
        Edge.so("60/minute=0", 0, true);
        Edge.so("60/minute=60", 1, true);
        Edge.so("60%minute=0", 0, true);
    }

    private static void notAboveAMillion() {
        says("what is above 1000000 (below the same less) is that, at each step");
        String million = "1000*1000";
        so(million + "-1=9999*100+99", true);
        so(million + "+0=" + million + "+1", true);
        so(million + "-1=" + million, false);
        so(million + "+1-1=" + million + "-1", true);
        so("1000*1001=" + million, true);
        so("9999*9999=" + million, true);
        so("9999*9999*9999*9999=" + million, true);
        so("999*1001#" + million, true);
        so("999*1001+1=" + million, true);
        so("999*1001+2=" + million, true);
        so("-1000*1000-1=-1000*1000", true);
        so("-1000*1000-1+1=-1000*1000+1", true);
        so("-1000*1001=-1000*1000", true);
        so("0-9999*9999=-1000*1000", true);
        so("-999*1001-1=-1000*1000", true);
        so("-999*1001=-1000*1000", false);
        so("9999*9999*-1=-1000*1000", true);
        so("-(9999*9999)=-1000*1000", true);
        so("9999*9999/-1=-1000*1000", true);
        so("9999*9999/1000=1000", true);
        so("9999*9999%7=1", true);
        so("9999*9999-9999*9999=0", true);
        so("(9999*9999)*(9999*9999)/1000=1000", true);
        so("9999*9999+9999*9999=1000*1000", true);
    }

    private static void bothSides() {
        says("or and and look at both sides always");
        Edge.so("1=1 or 7/minute=1", 0, true);
        Edge.so("1=2 and 7/minute=1", 0, false);
        faulty("rest 1=1 or 10000=1;", 2, 12);
        faulty("rest 1=2 and 1;", 1, 14);
    }

    private static void firstFault() {
        says("FAULTS, the first as TOKENS are come to, at the TOKEN's first byte");
        faulty("rest 10000=foo;", 2, 5);
        faulty("rest foo=10000;", 1, 5);
        faulty("rest 1=10000 !", 2, 7);
        faulty("rest 1=1 ! 10000", 1, 9);
        faulty("ring 4 foo", 2, 5);
        faulty("  \n  foobar", 1, 5);
        faulty("rest 1=1; ring 0 when minutes=1;", 1, 22);
        faulty("rest 1 <= >= 1;", 1, 10);
        faulty("rest ---------10000=1;", 3, 13);
        faulty("rest --------10000=1;", 2, 13);
    }

    private static void faultAtTheEnd() {
        says("(of the end at the length)");
        faulty("r", 1, 0);
        faulty("ring", 1, 4);
        faulty("ring \n", 1, 6);
        faulty("ring 0", 1, 6);
        faulty("rest 1", 1, 6);
        faulty("rest 1=1", 1, 8);
        faulty("rest 1=1   ", 1, 11);
        faulty("rest 1=1;rest", 1, 13);
        faulty("rest " + "1+".repeat(147), 1, 299);
        faulty("rest " + "1+".repeat(147) + "1", 1, 300);
        faulty("rest " + "1+".repeat(147) + " ", 1, 300);
        good("");
        good("   ");
    }

    private static void ofOneTheLeast() {
        says("of one the least");
        faulty("10000", 1, 0);
        faulty("rest 1 10000;", 1, 7);
        faulty("ring 0 10000", 1, 7);
        faulty("rest --------1(1)=1;", 1, 14);
        faulty("rest ((((((((1 (1)=1;", 1, 15);
        faulty("rest ((((((((not 1=1;", 1, 13);
        faulty("rest 1=1;".repeat(12) + "10000", 1, 108);
        faulty("rest 1=1;".repeat(12) + "foo", 1, 108);
        faulty("rest 1=1;".repeat(12) + "(", 1, 108);
    }

    private static void ninthOpen() {
        says("3 the 9th of ( not and - (of one ONE) that are open around one another (at it)");
        for (int n = 7; n <= 10; n++) {
            String nots = "rest " + "not ".repeat(n) + "1=1;";
            String opens = "rest " + "(".repeat(n) + "1" + ")".repeat(n) + "=1;";
            String minus = "rest " + "-".repeat(n) + "1=1;";
            String right = "rest 1=" + "(".repeat(n) + "1" + ")".repeat(n) + ";";
            if (n <= 8) {
                good(nots);
                good(opens);
                good(minus);
                good(right);
            } else {
                faulty(nots, 3, 37);
                faulty(opens, 3, 13);
                faulty(minus, 3, 13);
                faulty(right, 3, 15);
            }
        }
        good("rest not not not -(-(-1))=1;");
        faulty("rest not not not -(-(-(1)))=1;", 3, 22);
        faulty("rest not not not -(-(1))=(((((1)))))-((((((1))))));", 3, 42);
        for (int nots = 0; nots <= 9; nots++) {
            String ahead = "rest " + "not ".repeat(nots);
            good(nots > 8 ? "" : ahead + "(".repeat(8 - nots) + "1" + ")".repeat(8 - nots) + "=1;");
            if (nots <= 8) faulty(ahead + "-".repeat(9 - nots) + "1=1;", 3, ahead.length() + 8 - nots);
            if (nots <= 8) faulty(ahead + "1=" + "(".repeat(9 - nots) + "1;", 3, ahead.length() + 2 + 8 - nots);
        }
        faulty("rest " + "(-".repeat(4) + "(1))=1;", 3, 13);
        faulty("rest " + "-(".repeat(4) + "-1))=1;", 3, 13);
    }

    private static void openAroundOneAnother() {
        says("that are open around one another");
        good("rest " + "(1)+".repeat(20) + "1=1;");
        good("rest " + "-1+".repeat(20) + "-1=1;");
        good("rest " + "not 1=1 and ".repeat(15) + "1=1;");
        good("rest " + "1-".repeat(20) + "1=1;");
        good("rest not not not not not not not not 1=1 or not not not not not not not not 1=1;");
        good("rest --------1=--------1;");
        good("rest --------1---------1=1;");
        faulty("rest --------1----------1=1;", 3, 23);
        good("rest ((((((((1))))))))=((((((((1))))))));");
        good("rest (((((((-1)+(-1))))))-(((1))))=1;");
        good("rest not not not not not not not (1)=(1) and ((((((((1))))))))=1;");
        good("rest not not not not not not not not 1=1;rest not not not not not not not not 1=1;");
        faulty("rest not not not not not not not not 1=(1);", 3, 39);
        faulty("rest (((((((1-(1-(1)))))))))=1;", 3, 17);
    }

    private static void thirteenthRow() {
        says("4 the 13th ROW (at its first TOKEN)");
        String eleven = "rest 1=1;".repeat(11);
        good(eleven);
        good(eleven + "rest 1=1;");
        good(eleven + "ring 0 when 1=1;\n ");
        faulty(eleven + "rest 1=1;rest 1=1;", 4, 108);
        faulty(eleven + "rest 1=1; \n ring 0 when 1=1;", 4, 111);
        faulty(eleven + "rest 1=1;ring", 4, 108);
        faulty(eleven + "rest 1=1;rest 10000=1;", 4, 108);
        faulty(eleven + "rest 1=1;ring 9 when 1=1;", 4, 108);
        faulty(eleven + "rest 1=10000;rest 1=1;", 2, 106);
        faulty(eleven + "rest 1=1;;", 1, 108);
        faulty(eleven + "foo 1=1;", 1, 99);
    }

    private static void feed() {
        says("Twenty bytes come behind the tape, the highest of a first: how many it has.");
        HallClock x = new HallClock();
        due("twenty", x.feed(0x72696e67, 0x20302077, 0x68656e20, 0x313d313b, 0x20202020), 20);
        due("forty", x.feed(0x72696e67, 0x20332077, 0x68656e20, 0x313d313b, 0x0a0a0a0a), 40);
        due("'ring 0 when 1=1;' and 'ring 3 when 1=1;'", x.strip(), 0);
        x.by(0);
        int[] rings = {1, 0, 0, 1};
        for (int bell = 0; bell < 4; bell++) due("bell " + bell, x.rings(bell, 0), rings[bell]);
        for (int i = 0; i < 20; i++) {
            x = new HallClock();
            int[] five = {0x20202020, 0x20202020, 0x20202020, 0x20202020, 0x20202020};
            five[i / 4] ^= 0x01 << 8 * (3 - i % 4);
            x.feed(five[0], five[1], five[2], five[3], five[4]);
            x.strip();
            due("byte " + i + " is '!'", x.fault(1), i);
        }
        x = new HallClock();
        x.feed(-1, -1, -1, -1, -1);
        x.strip();
        due("bytes of 255 are none", x.fault(0), 1);
        says("NONE, and none come, if there would be more than 300.");
        x = new HallClock();
        for (int i = 1; i <= 15; i++) due("feed", x.feed(0x20202020, 0x20202020, 0x20202020, 0x20202020, 0x20202020), 20 * i);
        due("beyond 300", x.feed(1, 1, 1, 1, 1), NONE);
        due("none came", x.about(9), 300);
        x.end(281);
        due("281 and 20", x.feed(1, 1, 1, 1, 1), NONE);
        due("none came", x.about(9), 281);
        x.end(280);
        due("280 and 20", x.feed(0x20202020, 0x20202020, 0x20202020, 0x20202020, 0x20202020), 300);
        due("and none of the others", x.strip(), 0);
        x.feed(0x20202020, 0x20202020, 0x20202020, 0x20202020, 0x20202020);
        x.end(19);
        for (int i = 1; i <= 14; i++) x.feed(0x20202020, 0x20202020, 0x20202020, 0x20202020, 0x20202020);
        due("299 and 20", x.feed(1, 1, 1, 1, 1), NONE);
        due("299", x.about(9), 299);
    }

    private static void end() {
        says("The tape has its first n bytes alone: n. NONE, and nothing is done, if it has not so many, or n is below 0.");
        HallClock x = new HallClock();
        due("0 of none", x.end(0), 0);
        due("1 of none", x.end(1), NONE);
        due("-1 of none", x.end(-1), NONE);
        Edge.type(x, "rest 1=1;!rest 1=1;!");
        due("21 of 20", x.end(21), NONE);
        due("-1 of 20", x.end(-1), NONE);
        due("least", x.end(Edge.LEAST), NONE);
        due("most", x.end(Edge.MOST), NONE);
        due("nothing was done", x.about(9), 20);
        due("20 of 20", x.end(20), 20);
        due("19 of 20", x.end(19), 19);
        due("20 of 19", x.end(20), NONE);
        due("10 of 19", x.end(10), 10);
        due("9 of 10", x.end(9), 9);
        due("the first nine", x.strip(), 0);
        due("none is left", x.about(9), 0);
        Edge.type(x, "rest 1=1;");
        x.end(4);
        Edge.type(x, " 2=2;");
        due("what comes behind them", x.about(9), 9);
        due("rest 2=2;", x.strip(), 1);
        Edge.type(x, "!");
        due("0 of 1", x.end(0), 0);
        due("an empty one", x.strip(), 2);
    }

    private static void strip() {
        says("The tape (empty then) is a STRIP: its number. NONE: it has a FAULT");
        HallClock x = new HallClock();
        Edge.type(x, "ring 0 when 1=1;");
        due("the first", x.strip(), 0);
        due("the tape", x.about(9), 0);
        Edge.type(x, "!");
        due("a fault", x.strip(), NONE);
        due("the tape", x.about(9), 0);
        due("how many", x.about(5), 1);
        due("an empty tape is a strip", x.strip(), 1);
        Edge.type(x, rest(300));
        due("a full tape", x.strip(), 2);
        due("the tape", x.about(9), 0);
        Edge.type(x, "rest");
        due("a fault again", x.strip(), NONE);
        due("the fourth", x.strip(), 3);
        due("how many", x.about(5), 4);
        yes("the last", x.by(3));
        no("no more", x.by(4));
    }

    private static void fourStrips() {
        says("or (the tape stays) there are 4");
        HallClock x = new HallClock();
        x.image();
        for (int i = 0; i < 4; i++) {
            Edge.type(x, "ring " + i + " when 1=1;");
            due("strip", x.strip(), i);
        }
        due("the 5th, empty", x.strip(), NONE);
        Edge.type(x, "ring 1 when 1=1;");
        due("the 5th", x.strip(), NONE);
        due("the tape stays", x.about(9), 16);
        due("it wasn't read, so there is no fault", x.fault(0), 0);
        x.end(15);
        due("with a fault", x.strip(), NONE);
        due("the tape stays", x.about(9), 15);
        due("it wasn't read either", x.fault(0), 0);
        due("nor has it a place", x.fault(1), NONE);
        for (int i = 0; i < 4; i++) {
            x.by(i);
            for (int bell = 0; bell < 4; bell++) due("strip " + i + " is as it was", x.rings(bell, 0), bell == i ? 1 : 0);
        }
        x.back();
        due("the tape is not of the image", x.about(9), 15);
        Edge.type(x, ";");
        due("none is there now, so it is read", x.strip(), 0);
    }

    private static void fault() {
        says("Of the latest text that was read: 0 its FAULT (0 without), 1 its place (NONE without). NONE for others, and ahead of any.");
        HallClock x = new HallClock();
        for (int what = -1; what <= 2; what++) due("ahead of any", x.fault(what), NONE);
        Edge.type(x, "  !");
        due("not read yet", x.fault(0), NONE);
        x.strip();
        due("fault", x.fault(0), 1);
        due("place", x.fault(1), 2);
        int[] others = {-1, 2, Edge.LEAST, Edge.MOST};
        for (int what : others) due("what " + what, x.fault(what), NONE);
        Edge.type(x, "!");
        due("the latest that was read", x.fault(1), 2);
        x.strip();
        due("place 0", x.fault(1), 0);
        Edge.type(x, "rest 1=1;");
        x.strip();
        due("without", x.fault(0), 0);
        due("without", x.fault(1), NONE);
        due("what 2", x.fault(2), NONE);
        String[] texts = {"!", "rest 10000=1;", "rest ---------1=1;", "rest 1=1;".repeat(13)};
        for (int i = 0; i < 4; i++) {
            Edge.type(x, texts[i]);
            x.strip();
            due("fault " + (i + 1), x.fault(0), i + 1);
        }
    }

    private static void by() {
        says("THE STRIP (NONE: none): true. False for others.");
        HallClock x = new HallClock();
        no("0 of none", x.by(0));
        yes("none", x.by(NONE));
        no("-2", x.by(-2));
        for (int i = 0; i < 4; i++) {
            no("not told yet", x.by(i));
            Edge.type(x, "ring " + i + " when 1=1;");
            x.strip();
            due("told, but the strip is another one still", x.about(6), i - 1);
            yes("told", x.by(i));
            due("the strip", x.about(6), i);
            for (int bell = 0; bell < 4; bell++) due("bell " + bell, x.rings(bell, 0), bell == i ? 1 : 0);
        }
        no("4", x.by(4));
        no("least", x.by(Edge.LEAST));
        no("most", x.by(Edge.MOST));
        due("the strip stays", x.about(6), 3);
        yes("the same again", x.by(3));
        yes("none", x.by(NONE));
        due("none", x.about(6), NONE);
        due("none rings", x.rings(3, 0), 0);
        yes("the first", x.by(0));
        due("the first rings", x.rings(0, 0), 1);
    }
}
