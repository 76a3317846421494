import java.math.BigInteger;

/** The sentences of the document's Terms that name a boundary case, each with a test of its own. */
final class TermTests {
    private static final String HEAD = "bobbin lasts 5 odds 100;";
    private static final String ONE_SEAM = "bobbin lasts 7 odds 100;seam a takes 1;";
    private static final String OWN_WORDS = "bobbin, lasts, odds, seam, takes, shown, anew, rule, when, wind, mend, look, "
        + "batch, ahead, girls, used, rest, number, least, most, left, changed, mended, yards, or, and, not, all, min, max";

    public static void main(String[] args) {
        calls();
        lengths();
        seams();
        rulesAndMinutes();
        tests();
        parts();
        sums();
        names();
        blanks();
        formFaults();
        numberFaults();
        openFaults();
        countFaults();
        sewing();
        sewers();
        sevenSeams();
        onTheMean();
        acts();
        draws();
        chance();
        withLooks();
        fewest();
        anyOrder();
        hidden();
        several();
        woundAndSeen();
        questions();
        questionParts();
        questionFaults();
        images();
        Document.whole("What it is", "I", "II", "III", "IV");
        Checks.end("TermTests");
    }

    private static void behind(int fault, String marked) {
        Checks.faultAt(fault, HEAD + marked);
    }

    private static void fine(String text) {
        Checks.good(HEAD + text);
    }

    private static String times(int n, String text) {
        return text.repeat(n);
    }

    // ---- what it is

    private static void calls() {
        Document.plain("What it is", "The thread below runs out first: a room of seams told as a text, how long a bobbin "
            + "lasts by chances, what winding, mending, a look cost, where a seam may be begun anew, rules when to change "
            + "in a small language.");
        Document.edge("What it is", "An object is used for at most 512 calls after it has been made; what later calls answer is free.");
        BelowThread x = new BelowThread();
        for (int n = 1; n <= 511; n++) {
            Checks.due("call " + n, n % 2 == 1 ? x.feed(n, n, n, n, n) : x.end(0) ? 1 : 0, n % 2 == 1 ? 20 : 1);
        }
        Checks.due("call 512", x.end(20), true);
    }

    // ---- I: a room

    private static void lengths() {
        Document.edge("I", "A ROOM is a text: { STATEMENT ; } (60 at most):");
        Checks.good(HEAD);
        Checks.good(HEAD + times(59, "wind 3;"));
        Checks.faultAt(5, HEAD + times(59, "wind 3;") + "|wind 3;");
        behind(1, times(58, "wind 3;") + "wind 3|");
        Document.edge("I", "bobbin lasts N odds N { lasts N odds N } (1 .. 99 yards, unlike ones;");
        Checks.faultAt(2, "bobbin lasts |0 odds 100;");
        Checks.good("bobbin lasts 1 odds 100;");
        Checks.good("bobbin lasts 99 odds 100;");
        Checks.faultAt(2, "bobbin lasts |100 odds 100;");
        Checks.good("bobbin lasts 98 odds 50 lasts 99 odds 50;");
        Checks.faultAt(2, "bobbin lasts 99 odds 50 lasts |99 odds 50;");
        Document.edge("I", "1 .. 100;");
        Checks.faultAt(2, "bobbin lasts 5 odds |0;");
        Checks.faultAt(2, "bobbin lasts 5 odds |0 lasts 6 odds 100;");
        Checks.good("bobbin lasts 5 odds 1 lasts 6 odds 99;");
        Checks.good("bobbin lasts 5 odds 100;");
        Checks.faultAt(2, "bobbin lasts 5 odds |101;");
        Document.edge("I", "6 LENGTHS;");
        String five = "bobbin lasts 1 odds 10 lasts 2 odds 10 lasts 3 odds 10 lasts 4 odds 10 lasts 5 odds 10";
        Checks.good(five + " lasts 6 odds 50;");
        Checks.due("LENGTHS", Checks.in(five + " lasts 6 odds 50;").has(0), 6);
        Checks.faultAt(5, five + " lasts 6 odds 40 |lasts 7 odds 10;");
        Document.edge("I", "all odds together 100;");
        Checks.good("bobbin lasts 5 odds 1 lasts 6 odds 99;");
        Checks.faultAt(2, "bobbin lasts 5 odds 1 lasts 6 odds |98;");
        Checks.faultAt(2, "bobbin lasts 5 odds 1 lasts 6 odds |100;");
        Document.edge("I", "the first STATEMENT, and it alone);");
        Checks.faultAt(1, "|wind 3;");
        Checks.faultAt(1, "|wind 3;bobbin lasts 5 odds 100;");
        behind(1, "|bobbin lasts 6 odds 100;");
        behind(1, "wind 3;|bobbin lasts 5 odds 100;");
    }

    private static void seams() {
        Document.edge("I", "seam NAME takes N (1 .. 99;");
        behind(2, "seam a takes |0;");
        fine("seam a takes 1;");
        fine("seam a takes 99;");
        behind(2, "seam a takes |100;");
        Document.edge("I", "10 SEAMS),");
        StringBuilder ten = new StringBuilder(HEAD);
        for (char name = 'a'; name <= 'j'; name++) {
            ten.append("seam ").append(name).append(" takes 9;");
        }
        Checks.good(ten.toString());
        Checks.due("SEAMS", Checks.in(ten.toString()).has(1), 10);
        Checks.faultAt(5, ten + "|seam k takes 9;");
        Document.edge("I", "then shown if it shows, then anew N { N } if it may be begun anew");
        Checks.due("shows", Checks.in(HEAD + "seam a takes 9 shown;").seam(0, 1), 1);
        Checks.due("shows not", Checks.in(HEAD + "seam a takes 9;").seam(0, 1), 0);
        Checks.due("PLACES", Checks.in(HEAD + "seam a takes 9 shown anew 4;").seam(0, 2), 1);
        Checks.due("no PLACES", Checks.in(HEAD + "seam a takes 9 shown;").seam(0, 2), 0);
        behind(1, "seam a takes 9 anew 4 |shown;");
        behind(1, "seam a takes 9 shown |shown;");
        behind(1, "seam a takes 9 anew|;");
        Document.edge("I", "(1 and more, each more than the one ahead, below what it takes;");
        behind(2, "seam a takes 9 anew |0;");
        fine("seam a takes 9 anew 1 2;");
        behind(2, "seam a takes 9 anew 2 |2;");
        behind(2, "seam a takes 9 anew 2 |1;");
        fine("seam a takes 9 anew 8;");
        behind(2, "seam a takes 9 anew |9;");
        behind(2, "seam a takes 1 anew |1;");
        Document.edge("I", "4 PLACES);");
        fine("seam a takes 9 anew 1 2 3 4;");
        behind(5, "seam a takes 9 anew 1 2 3 4 |5;");
    }

    private static void rulesAndMinutes() {
        Document.edge("I", "rule NAME when TEST (4 RULES);");
        String four = "rule a when all;rule b when all;rule c when all;rule d when all;";
        fine(four);
        Checks.due("RULES", Checks.in(HEAD + four).has(2), 4);
        behind(5, four + "|rule e when all;");
        Document.edge("I", "wind N, mend N, look N (0 .. 99 minutes), batch N (0 .. 99 minutes),");
        for (String word : new String[] {"wind", "mend", "look", "batch"}) {
            fine(word + " 0;");
            fine(word + " 99;");
            behind(2, word + " |100;");
        }
        Document.edge("I", "ahead N (1 .. 9),");
        behind(2, "ahead |0;");
        fine("ahead 1;");
        fine("ahead 9;");
        behind(2, "ahead |10;");
        Document.edge("I", "girls N (1 .. 3):");
        behind(2, "girls |0;");
        fine("girls 1;");
        fine("girls 3;");
        behind(2, "girls |4;");
        Document.edge("I", "the last one of each counts");
        minutes(HEAD + "wind 7;mend 7;look 7;batch 7;ahead 7;girls 3;girls 2;ahead 8;batch 0;look 99;mend 1;wind 5;wind 6;",
            6, 1, 99, 0, 8, 2);
        Document.edge("I", "(2, 9, 1, 9, 5, 1 without).");
        minutes(HEAD, 2, 9, 1, 9, 5, 1);
    }

    private static void minutes(String text, int... due) {
        BelowThread x = Checks.in(text);
        for (int k = 0; k < due.length; k++) {
            Checks.due("has(" + (3 + k) + ")", x.has(3 + k), due[k]);
        }
    }

    private static void holds(String test, boolean due) {
        Checks.due(test, Checks.ask(Checks.in(ONE_SEAM), 0, 9, "often " + test), due ? 1 : 0);
        Checks.due("a rule by " + test, Checks.in("bobbin lasts 9 odds 100;seam a takes 1;seam b takes 1;rule r when " + test + ";")
            .judge(4, 9, 1), due ? 1 : 0);
    }

    private static void tests() {
        Document.edge("I", "TEST: BOTH { or BOTH }. BOTH: FACT { and FACT }.");
        holds("1=1 or 1=2", true);
        holds("1=2 or 1=1", true);
        holds("1=2 or 1=2", false);
        holds("1=2 or 1=2 or 1=1", true);
        holds("1=1 and 1=1", true);
        holds("1=1 and 1=2", false);
        holds("1=2 and 1=1", false);
        holds("1=1 or 1=1 and 1=2", true);
        holds("1=2 and 1=1 or 1=1", true);
        behind(1, "rule r when all or|;");
        behind(1, "rule r when all and|;");
        behind(1, "rule r when |and all;");
        Document.edge("I", "FACT: not FACT; [ TEST ] ; all; SUM SIGN SUM, SIGN < or > or = .");
        holds("all", true);
        holds("all and all", true);
        holds("not all", false);
        holds("not not all", true);
        holds("not 1=2", true);
        holds("not 1=2 and 1=2", false);
        holds("not [1=2 and 1=2]", true);
        holds("[1=1 or 1=1] and 1=2", false);
        holds("2<3", true);
        holds("3<3", false);
        holds("4<3", false);
        holds("2>3", false);
        holds("3>3", false);
        holds("4>3", true);
        holds("2=3", false);
        holds("3=3", true);
        holds("4=3", false);
        holds("2<3 and 4>3 and 3=3 and all and not 3<3", true);
        behind(1, "rule r when used|;");
        behind(1, "rule r when used|]");
        behind(1, "rule r when 3<|<4;");
        behind(1, "rule r when 3<4|<5;");
        behind(1, "rule r when [all|;");
        behind(1, "rule r when (|all;");
        Document.plain("I", "SUM: PRODUCT { + or - PRODUCT }. PRODUCT: PART { * or / PART }. PART:");
    }

    private static void parts() {
        Document.edge("I", "N (1 to 4 digits);");
        fine("rule r when used>0;");
        fine("rule r when used>9999;");
        behind(1, "rule r when used>|;");
        behind(1, "rule r when used>1000|0;");
        Document.edge("I", "takes; shown; used; rest; number; least; most; ( SUM ) ; min ( SUM , SUM ) ; max ( SUM , SUM ) .");
        for (String word : new String[] {"left", "changed", "mended", "yards"}) {
            behind(1, "rule r when |" + word + ">3;");
            behind(1, "rule r when takes+|" + word + " 3>3;");
        }
        behind(1, "rule r when min|<3;");
        behind(1, "rule r when max |3<3;");
        behind(1, "rule r when min(1|)<3;");
        behind(1, "rule r when min(1,2|,3)<3;");
        total("min(3,3)+min(2,3)*10+min(3,2)*100", 223);
        total("max(3,3)+max(2,3)*10+max(3,2)*100", 333);
        total("min(0-1,0)+max(0-1,0)*10", -1);
        total("(7)", 7);
        Document.edge("I", "(Of the SEAM that is next: its yards, 1 if it shows, else 0; yards sewn from the bobbin that is "
            + "on; yards of all SEAMS from this one on; its number; the least, the greatest LENGTH.)");
        String room = "bobbin lasts 60 odds 40 lasts 50 odds 30 lasts 70 odds 30;seam a takes 2 shown;seam b takes 3;seam c takes 4 shown;";
        changesJust(room, "takes=3", 1);
        changesJust(room, "takes=4", 2);
        changesJust(room, "shown=0", 1);
        changesJust(room, "shown=1", 2);
        changesJust(room, "used=2", 1);
        changesJust(room, "used=5", 2);
        changesJust(room, "rest=7", 1);
        changesJust(room, "rest=4", 2);
        changesJust(room, "number=1", 1);
        changesJust(room, "number=2", 2);
        changesJust(room, "least=50 and number=2", 2);
        changesJust(room, "most=70 and number=2", 2);
        changesJust("bobbin lasts 13 odds 10 lasts 12 odds 10 lasts 16 odds 10 lasts 11 odds 10 lasts 15 odds 10 lasts 14 odds 50;"
            + "seam a takes 2;seam b takes 2;", "least=11 and most=16", 1);
        // Of one LENGTH both are that one.
        changesJust(HEAD + "seam a takes 2;seam b takes 2;", "least=5 and most=5", 1);
    }

    /** By a rule of such a TEST it is changed ahead of that SEAM and of no other one. */
    private static void changesJust(String room, String test, int seam) {
        BelowThread x = Checks.in(room + "rule r when " + test + ";");
        for (int k = 0; k < x.has(1); k++) {
            Checks.due(test + " at SEAM " + k, x.row(4, 99, k, 1), k == seam ? 1 : 0);
        }
    }

    private static void total(String sum, long due) {
        Checks.due(sum, Checks.ask(Checks.in(ONE_SEAM), 0, 9, "total " + sum), due);
    }

    private static void sums() {
        Document.edge("I", "All from the left on;");
        total("9-3-2", 4);
        total("9-3+2", 8);
        total("20/3/2", 3);
        total("20/3*3", 18);
        total("2+3*4", 14);
        // Held at each sum, from the left on.
        total("1000*1000+1-1", 999999);
        Document.edge("I", "/ gives the greatest whole number not above,");
        total("6/3", 2);
        total("8/3", 2);
        total("(0-6)/3", -2);
        total("(0-7)/3", -3);
        total("(0-1)/9999", -1);
        total("7/(0-3)", -3);
        total("(0-8)/(0-3)", 2);
        total("0/(0-3)", 0);
        Document.edge("I", "by 0 it gives 0;");
        total("7/0", 0);
        total("(0-7)/0", 0);
        total("0/0", 0);
        total("7/(3-3)+5", 5);
        Document.edge("I", "each sum, difference, product above 10 to the 6 is that, below -10 to the 6 likewise.");
        total("999*1001+1", 1000000);
        total("999*1001+2", 1000000);
        total("1000*1000", 1000000);
        total("1000*1001", 1000000);
        total("9999*9999", 1000000);
        total("0-999*1001-1", -1000000);
        total("0-999*1001-2", -1000000);
        total("(0-1000)*1000", -1000000);
        total("(0-1000)*1001", -1000000);
        total("(0-9999)*9999+1", -999999);
        total("9999*9999-1", 999999);
        total("(9999*9999)*(0-9999*9999)", -1000000);
    }

    private static void names() {
        Document.edge("I", "NAMES: 1 to 6 letters,");
        fine("seam a takes 3;");
        fine("seam abcdef takes 3;");
        fine("rule zyxwvu when all;");
        fine("seam buzz takes 3;rule azaz when all;");
        behind(1, "seam |; takes 3;");
        behind(1, "seam abcdef|g takes 3;");
        behind(1, "rule abcdef|g when all;");
        Document.edge("I", "no OWN WORD,");
        behind(1, "seam |wind takes 3;");
        behind(1, "rule |max when all;");
        Document.edge("I", "unlike ones (of all sorts).");
        behind(3, "seam a takes 3;seam |a takes 3;");
        behind(3, "rule a when all;rule |a when all;");
        behind(3, "seam a takes 3;rule |a when all;");
        behind(3, "rule a when all;seam |a takes 3;");
        fine("seam a takes 3;seam aa takes 3;rule ab when all;rule b when all;");
        Document.edge("I", "OWN WORDS: " + OWN_WORDS + ".");
        String[] words = OWN_WORDS.split(", ");
        Checks.due("OWN WORDS", words.length, 30);
        for (String word : words) {
            behind(1, "seam |" + word + " takes 3;");
            behind(1, "rule |" + word + " when all;");
        }
        for (String other : new String[] {"first", "last", "often", "total", "sum", "test", "lastss", "mins", "ma"}) {
            fine("seam " + other + " takes 3;");
        }
    }

    private static void blanks() {
        Document.edge("I", "Blanks (10, 32) are where one likes");
        Checks.good("\n \n bobbin\n\nlasts \n 5 odds\n100 \n;\n\n ");
        fine("rule r when[used+takes>5]or not(used)=min(1,2);");
        fine(" rule r when [ used + takes > 5 ] or not ( used ) = min ( 1 , 2 ) ; ");
        for (int sign : new int[] {0, 9, 11, 12, 13, 31, 33, 160, 255}) {
            behind(1, "|" + (char) sign);
            behind(1, "wind |" + (char) sign + "3;");
        }
        Document.edge("I", "(words and numbers side by side need one).");
        Checks.faultAt(1, "bobbin lasts|5 odds 100;");
        Checks.faultAt(1, "bobbin lasts 5|odds 100;");
        behind(1, "seam a|5 takes 3;");
        behind(1, "rule r when not|5<6;");
        behind(1, "rule r when 5<6|or all;");
        fine("rule r when(5)<6 or all;");
    }

    private static void formFaults() {
        Document.edge("I", "FAULTS, the first along the text:");
        behind(2, "wind |100;seam a takes 0;x");
        behind(1, "|x;wind 100;");
        behind(3, "seam a takes 3;seam |a takes 100;");
        Checks.faultAt(2, "bobbin lasts |0 odds 0;");
        Document.edge("I", "1 the first byte with which no such text goes on");
        Checks.faultAt(1, "|;");
        Checks.faultAt(1, "bobbin |;");
        Checks.faultAt(1, "bobbin lasts |lasts");
        Checks.faultAt(1, "bobbin |5 odds 100;");
        Checks.faultAt(1, "bobbin lasts 5 |100;");
        behind(1, "|5;");
        behind(1, "|;");
        behind(1, "wind 3;|;");
        behind(1, "wind 3|,");
        behind(1, "wind |wind 3;");
        behind(1, "seam a |3;");
        behind(1, "rule a |all;");
        behind(1, "seam a takes 3|=4;");
        behind(1, "rule r when all|]");
        Document.edge("I", "(words and numbers whole, at their first byte;");
        Checks.faultAt(1, "|bobbi");
        Checks.faultAt(1, "|bobbins lasts 5 odds 100;");
        Checks.faultAt(1, "bobbin |last 5 odds 100;");
        behind(1, "|12345;");
        behind(1, "rule r when used |12345>3;");
        behind(1, "seam a |take 3;");
        behind(1, "rule r when |abcdefghij>3;");
        Document.edge("I", "where a NAME is asked, an OWN WORD so,");
        behind(1, "seam |or takes 3;");
        behind(1, "seam |number takes 3;");
        behind(1, "seam |changed takes 3;");
        behind(1, "rule |changed when all;");
        Document.edge("I", "a 7th letter of what is no OWN WORD at itself;");
        behind(1, "seam change|s takes 3;");
        behind(1, "seam change|dd takes 3;");
        behind(1, "seam abcdef|g");
        behind(1, "rule bobbin|s when all;");
        Document.edge("I", "where a number is asked, a 5th digit at itself (whatever stands ahead of it);");
        Checks.faultAt(1, "bobbin lasts 0000|5 odds 100;");
        Checks.faultAt(1, "bobbin lasts 9999|9 odds 100;");
        Checks.faultAt(1, "bobbin lasts 5 odds 0010|0;");
        behind(1, "seam a takes 0000|0;");
        behind(1, "seam a takes 9 anew 1234|567;");
        behind(1, "girls 0001|0;");
        behind(1, "rule r when 0000|0>3;");
        fine("girls 0001;");
        Document.edge("I", "at the text's length, if it ends too soon);");
        Checks.faultAt(1, "|");
        Checks.faultAt(1, " \n |");
        Checks.faultAt(1, "bobbin|");
        Checks.faultAt(1, "bobbin lasts 5 odds 100|");
        behind(1, "wind  |");
        behind(1, "wind 3 \n|");
        behind(1, "rule r when not |");
        behind(1, "rule r when [all|");
        behind(1, "rule r when (|");
    }

    private static void numberFaults() {
        Document.edge("I", "2 a number that can't be (a LENGTH told already,");
        Checks.faultAt(2, "bobbin lasts 5 odds 50 lasts |5");
        Checks.faultAt(2, "bobbin lasts 5 odds 50 lasts |0005 odds 50;");
        Checks.faultAt(2, "bobbin lasts 5 odds 30 lasts 6 odds 30 lasts |5 odds 40;");
        Document.edge("I", "odds by which all are above 100,");
        Checks.faultAt(2, "bobbin lasts 5 odds 50 lasts 6 odds |51");
        Checks.faultAt(2, "bobbin lasts 5 odds 100 lasts 6 odds |1;");
        Checks.faultAt(2, "bobbin lasts 5 odds 40 lasts 6 odds 40 lasts 7 odds |21 lasts 5");
        Document.edge("I", "the last odds, if all are below), at it;");
        Checks.faultAt(2, "bobbin lasts 5 odds |99;");
        Checks.faultAt(2, "bobbin lasts 5 odds 50 lasts 6 odds |49;");
        Checks.faultAt(2, "bobbin lasts 5 odds |50lasts 6 odds 50;");
        Checks.faultAt(2, "bobbin lasts 5 odds |50 odds 50;");
        Checks.faultAt(2, "bobbin lasts 5 odds |50");
        Document.edge("I", "3 a NAME that is there already, at it;");
        behind(3, "seam abcdef takes 3;seam  |abcdef");
        behind(3, "seam a takes 3;seam b takes 3;rule c when all;rule  |b");
    }

    private static void openFaults() {
        Document.edge("I", "4 the 7th of ( [ not that is open at once");
        fine("rule r when ((((((1))))))=1;");
        behind(4, "rule r when ((((((|(1)))))))=1;");
        fine("rule r when [[[[[[all]]]]]];");
        behind(4, "rule r when [[[[[[|[all]]]]]]];");
        fine("rule r when not not not not not not all;");
        behind(4, "rule r when not not not not not not |not all;");
        fine("rule r when not[not[not(1)=min(1,2)]];");
        behind(4, "rule r when not[not[not[min|(1,2)=1]]];");
        behind(4, "rule r when not[not[not[|not all]]];");
        behind(4, "rule r when 1=min(1,max(1,min(1,max(1,min(1,max(1,|(2)))))));");
        behind(4, "rule r when min(max(min(max(min(max(min|(");
        Document.edge("I", "(not until its FACT ends), at it;");
        fine("rule r when not not not not not not all and not not not not not not all or not not not not not not all;");
        fine("rule r when [not not not not not all and not not not not not 1=2];");
        behind(4, "rule r when not not not not not not 1=|(2);");
        behind(4, "rule r when not not not not not not |(1)=2;");
        fine("rule r when not not not not not not 1=2 and (2)=3;");
        behind(4, "rule r when not [not all and ((((1))))=((((|(2)))))];");
    }

    private static void countFaults() {
        String six = "bobbin lasts 1 odds 10 lasts 2 odds 10 lasts 3 odds 10 lasts 4 odds 10 lasts 5 odds 10 lasts 6 odds ";
        Document.edge("I", "5 one too many of a kind (a 7th LENGTH at its lasts,");
        Checks.faultAt(5, six + "50 |lasts 7 odds 1;");
        Checks.faultAt(5, six + "49 |lasts 7 odds 1;");
        Checks.faultAt(5, six + "49 |lasts 6");
        Checks.faultAt(5, six + "49 |lasts");
        Document.edge("I", "a 5th PLACE, also one that can't be: 5, not 2),");
        for (String fifth : new String[] {"5", "0", "4", "9", "99", "99999"}) {
            behind(5, "seam a takes 9 anew 1 2 3 4 |" + fifth + ";");
        }
        behind(2, "seam a takes 9 anew 1 2 3 |3 5;");
        Document.edge("I", "a 61st STATEMENT (whatever stands there), at its first byte.");
        String sixty = HEAD + times(59, "wind 3;");
        for (String stands : new String[] {"wind 3;", "wind", ";", "5", "bobbin", "seam a takes 0;", "\u00e9", "rule", "x"}) {
            Checks.faultAt(5, sixty + " \n|" + stands);
        }
        Checks.good(sixty + " \n");
    }

    // ---- II: sewing

    private static void day(BelowThread x, int... due) {
        for (int what = 0; what < due.length; what++) {
            Checks.due("day(" + what + ")", x.day(what), due[what]);
        }
    }

    private static void sewing() {
        String room = "bobbin lasts 9 odds 100;seam a takes 4;seam b takes 5;seam c takes 1;seam d takes 9;wind 3;mend 7;";
        Document.edge("II", "A SEAM IS SEWN from the bobbin that is on (a fresh one at first) with so many yards used:");
        for (int sewer = 0; sewer < 4; sewer++) {
            Checks.due("used at first", Checks.in(room).row(sewer, 9, 0, 0), 0);
            Checks.due("CHANGED at first", Checks.in(room).row(sewer, 9, 0, 1), 0);
        }
        Checks.due("changed at first", Checks.in(room).sew(true), -1);
        Document.edge("II", "if it is CHANGED ahead of it, that costs wind, a fresh one is on.");
        BelowThread x = Checks.in(room);
        x.sew(false);
        Checks.due("changed", x.sew(true), 0);
        day(x, 2, 5, 1, 0, 3, 1);
        Document.edge("II", "If used and what it takes are not above what that bobbin lasts, so much more is used;");
        x = Checks.in(room);
        x.sew(false);
        Checks.due("4 and 5 of 9", x.sew(false), 0);
        day(x, 2, 9, 0, 0, 0, 1);
        Checks.due("4 and 5 of 9", Checks.in(room).row(0, 9, 1, 2), 0);
        Checks.due("4 and 5 of 8", Checks.in(room).row(0, 8, 1, 2), 1);
        Document.edge("II", "else it is MENDED: that costs mend and wind, and a fresh one is on behind it (nothing used).");
        Checks.due("9 and 1 of 9", x.sew(false), 1);
        day(x, 3, 0, 0, 1, 10, 1);
        Checks.due("nothing used", x.sew(true), -1);
        Checks.due("9 of a fresh one", x.sew(false), 0);
        day(x, 4, 9, 0, 1, 10, 0);
        Checks.due("used behind it", Checks.in(room).row(0, 9, 3, 0), 0);
        Checks.due("cost", Checks.in(room).judge(0, 9, 3), 10);
    }

    private static void sewers() {
        BelowThread x = Checks.in("bobbin lasts 9 odds 50 lasts 6 odds 50;seam a takes 4;seam b takes 2;seam c takes 1;"
            + "seam d takes 7;rule r when all;wind 3;mend 7;look 5;");
        Document.edge("II", "SEWERS: 0 never changes;");
        Checks.due("changes", x.judge(0, 1, 1), 0);
        Checks.due("changes", x.judge(0, 99, 1), 0);
        Document.edge("II", "1 FULL changes, if used and what it takes are above the least LENGTH (and something is used);");
        Checks.due("4 and 2 of 6", x.row(1, 99, 1, 1), 0);
        Checks.due("6 and 1 of 6", x.row(1, 99, 2, 1), 1);
        Checks.due("1 and 7 of 6", x.row(1, 99, 3, 1), 1);
        Checks.due("7 of 6, nothing used", Checks.in("bobbin lasts 6 odds 100;seam a takes 7;seam b takes 8;").judge(1, 6, 1), 0);
        Document.edge("II", "2 LOOK looks ahead of each SEAM, if something is used (that costs look), and changes, if it would not last;");
        // By 6: a, look, b, look, change, c, look, change, d mended.
        Checks.due("4 and 2 of 6", x.row(2, 6, 1, 1), 0);
        Checks.due("6 and 1 of 6", x.row(2, 6, 2, 1), 1);
        Checks.due("1 and 7 of 6", x.row(2, 6, 3, 1), 1);
        Checks.due("cost by 6", x.judge(2, 6, 3), 3 * 5 + 2 * 3 + 10);
        // By 1: a mended, b mended, c, look, change, d mended.
        Checks.due("no look with nothing used", x.judge(2, 1, 3), 10 + 10 + 5 + 3 + 10);
        Document.plain("II", "3 CHANCE does as in III");
        Document.edge("II", "4 and on: RULES, by their TEST (if something is used).");
        Checks.due("all at first", x.row(4, 99, 0, 1), 0);
        Checks.due("all with something used", x.row(4, 99, 1, 1), 1);
        Checks.due("all by 1, where each is mended but c", x.judge(4, 1, 1), 1);
        Checks.due("changed behind c", x.row(4, 1, 3, 1), 1);
        Document.edge("II", "A DAY of a SEWER by a told length: all SEAMS as told, each bobbin lasts so much.");
        Checks.due("by 1", x.judge(0, 1, 2), 3);
        Checks.due("by 13", x.judge(0, 13, 2), 1);
        Checks.due("by 14", x.judge(0, 14, 2), 0);
        Checks.due("by 99", x.judge(0, 99, 3), 0);
        Checks.due("no SEAMS", Checks.in(HEAD).judge(0, 1, 3), 0);
    }

    private static String seamsOf(int seams) {
        StringBuilder out = new StringBuilder("bobbin lasts 10 odds 100;");
        for (int k = 0; k < seams; k++) {
            out.append("seam ").append((char) ('a' + k)).append(" takes 4;");
        }
        return out.toString();
    }

    private static void sevenSeams() {
        Document.edge("II", "(6 SEAMS at most);");
        BelowThread six = Checks.in(seamsOf(6));
        BelowThread seven = Checks.in(seamsOf(7));
        Checks.due("row of six", six.row(3, 10, 0, 0), 0);
        Checks.due("row of seven", seven.row(3, 10, 0, 0), -1);
        Checks.due("judge of six", six.judge(3, 10, 1), 2);
        Checks.due("judge of seven", seven.judge(3, 10, 1), -1);
        Checks.due("ask of six", Checks.ask(six, 3, 10, "total changed"), 2);
        Checks.due("ask of seven", Checks.ask(seven, 3, 10, "total changed"), BelowThread.NOTHING);
        Checks.due("sews of six", six.sews(3), 4);
        Checks.due("sews of seven", seven.sews(3), -1);
    }

    private static void onTheMean() {
        Document.edge("II", "ON THE MEAN by a SEWER: what a day costs, each bobbin lasting by chances of its own, exactly (6 SEAMS at most).");
        for (int sewer = 0; sewer < 4; sewer++) {
            Checks.due("mean of six by " + sewer, Checks.in(seamsOf(6)).mean(sewer) >= 0, true);
            Checks.due("mean of seven by " + sewer, Checks.in(seamsOf(7)).mean(sewer), -1);
        }
        Checks.due("mean of no SEAM", Checks.in(HEAD).mean(0), 0);
        // A bobbin of 4 (1 of 100) runs out in whichever seam it is begun. Only where the first four ran out so, and the
        // fifth did not, 5 yards are used ahead of the sixth: then y changes for nothing, and runs out by 1 of 100 more.
        StringBuilder room = new StringBuilder("bobbin lasts 4 odds 1 lasts 99 odds 99;wind 0;mend 1;");
        int[] takes = {9, 8, 7, 6, 5, 10};
        for (int k = 0; k < takes.length; k++) {
            room.append("seam ").append((char) ('a' + k)).append(" takes ").append(takes[k]).append(';');
        }
        BelowThread x = Checks.in(room + "rule y when used=5 and number=5;rule z when not all;");
        Checks.due("by less than 10 to the -9", x.rule(), 1);
        Checks.due("alike in thousandths", x.mean(4), x.mean(5));
        BelowThread y = Checks.in(room + "rule z when not all;rule y when used=5 and number=5;");
        Checks.due("told the other way", y.rule(), 0);
        // By LOOK: 1 ahead of b and of c, and one of 9 (1 of 2) is changed ahead of b; then both go on a fresh one.
        String look = "bobbin lasts 9 odds 50 lasts 18 odds 50;seam a takes 5;seam b takes 5;seam c takes 4;wind 2;mend 9;look 1;";
        Checks.due("LOOK", Checks.in(look).mean(2), 3000);
        Checks.due("never", Checks.in(look).mean(0), 5500);
        Checks.due("FULL", Checks.in(look).mean(1), 2000);
        // 0.33 of 11 minutes is 3630 thousandths, not a hair less.
        Checks.due("no hair less", Checks.in("bobbin lasts 4 odds 33 lasts 6 odds 67;seam a takes 5;").mean(0), 3630);
    }

    private static void acts() {
        String room = "bobbin lasts 9 odds 100;seam a takes 4;seam b takes 5;seam c takes 1;wind 3;mend 7;look 5;";
        Document.edge("II", "A DAY BY THE SEED (its cost is 9999 at most):");
        BelowThread x = Checks.in(room);
        Checks.tape(x, Checks.image(0, 0, 9, 0, 0, 9994));
        x.on();
        x.glance();
        Checks.due("9999", x.day(4), 9999);
        x.glance();
        Checks.due("9999 still", x.day(4), 9999);
        x.undo();
        x.undo();
        Checks.due("9994 again", x.day(4), 9994);
        x.sew(false);
        x.sew(true);
        Checks.due("9997", x.day(4), 9997);
        x.sews(2);
        Checks.due("no more than 9999", x.day(4), 9999);
        Document.edge("II", "ACTS: the next SEAM is sewn, CHANGED ahead of it or not; a look (whether it would last; costs look); "
            + "all begins anew (a DRAW for the first bobbin); a SEWER sews all that are left.");
        BelowThread y = Checks.in(room);
        y.sew(false);
        Checks.due("4 and 5 of 9 would last", y.glance(), 1);
        Checks.due("a look costs", y.day(4), 5);
        y.sew(false);
        Checks.due("9 and 1 of 9 would not", y.glance(), 0);
        Checks.due("a SEWER sews one that is left", y.sews(0), 10);
        Checks.due("ACTS", y.has(11), 5);
        y.anew();
        day(y, 0, 0, 0, 0, 0, 1);
        Checks.due("ACTS", y.has(11), 6);
        Document.edge("II", "The last 20 can be undone.");
        BelowThread z = Checks.in(room);
        for (int n = 1; n <= 21; n++) {
            z.glance();
            Checks.due("ACTS", z.has(11), Math.min(n, 20));
        }
        for (int n = 20; n > 0; n--) {
            Checks.due("undo " + n, z.undo(), true);
            Checks.due("cost", z.day(4), 5 * n);
        }
        Checks.due("the 21st", z.undo(), false);
        Checks.due("cost", z.day(4), 5);
    }

    /** The seed behind another one, by numbers without an end. */
    private static int behind(int seed) {
        return BigInteger.valueOf(seed).multiply(BigInteger.valueOf(1103515245L)).add(BigInteger.valueOf(12345))
            .mod(BigInteger.TWO.pow(31)).intValueExact();
    }

    private static int drawBehind(int seed) {
        return behind(seed) / 64 % 100;
    }

    private static int seedOf(int draw) {
        int seed = 0;
        while (drawBehind(seed) != draw) {
            seed++;
        }
        return seed;
    }

    private static void draws() {
        Document.edge("II", "the first bobbin, and each fresh one, has a LENGTH by a DRAW of 100: the first one so that all "
            + "odds up to it are above the DRAW.");
        String room = "bobbin lasts 7 odds 1 lasts 3 odds 49 lasts 9 odds 50;seam a takes 9;seam b takes 1;";
        int[][] due = {{0, 7}, {1, 3}, {49, 3}, {50, 9}, {99, 9}};
        for (int[] one : due) {
            BelowThread x = Checks.in(room);
            x.seed(seedOf(one[0]));
            Checks.due("anew by DRAW " + one[0], x.anew(), one[1]);
            Checks.tape(x, Checks.image(0, 0, 7, 0, 0, 0));
            x.on();
            x.seed(seedOf(one[0]));
            x.sew(false);
            Checks.due("behind mending by DRAW " + one[0], Checks.imageOf(x)[2], one[1]);
            Checks.tape(x, Checks.image(1, 6, 7, 0, 0, 0));
            x.on();
            x.seed(seedOf(one[0]));
            x.sew(true);
            Checks.due("changed by DRAW " + one[0], Checks.imageOf(x)[2], one[1]);
        }
        Document.edge("II", "A DRAW of m: x (the seed) becomes (1103515245 x + 12345) mod 2 to the 31; floor(x / 64) mod m.");
        String fine = "bobbin lasts 1 odds 17 lasts 2 odds 17 lasts 3 odds 17 lasts 4 odds 17 lasts 5 odds 16 lasts 6 odds 16;";
        for (int seed : new int[] {0, 1, 63, 64, 2, 12345, 1 << 30, Integer.MAX_VALUE - 1, Integer.MAX_VALUE}) {
            BelowThread x = Checks.in(fine);
            x.seed(seed);
            int n = seed;
            for (int k = 0; k < 25; k++) {
                int draw = drawBehind(n);
                n = behind(n);
                Checks.due("DRAW " + k + " of seed " + seed, x.anew(), draw < 68 ? 1 + draw / 17 : 5 + (draw - 68) / 16);
            }
        }
        Document.edge("II", "(The bobbin on at first, without an ACT yet, lasts the first LENGTH told.)");
        BelowThread x = Checks.in(room);
        Checks.due("in an image", Checks.imageOf(x)[2], 7);
        Checks.due("9 of 7", x.glance(), 0);
        Checks.due("9 of 7", x.sew(false), 1);
    }

    // ---- III: chance

    private static void chance() {
        Document.edge("III", "CHANCE: ahead of each SEAM with something used that is done, CHANGED or not, by which the rest "
            + "costs least on the mean (of like ones not), by all that can be:");
        // With 5 used: staying runs out by 1 of 2, that is (mend + wind) / 2; changing costs wind, and never runs out.
        String even = "bobbin lasts 8 odds 50 lasts 9 odds 50;seam a takes 5;seam b takes 4;wind 4;mend ";
        Checks.due("dearer to change", Checks.in(even + "3;").when(1, 5), 0);
        Checks.due("of like ones not", Checks.in(even + "4;").when(1, 5), 0);
        Checks.due("dearer to stay", Checks.in(even + "5;").when(1, 5), 1);
        Checks.due("of like ones not", Checks.in(even + "4;").judge(3, 9, 1), 0);
        Checks.due("dearer to stay", Checks.in(even + "5;").judge(3, 9, 1), 1);
        Checks.due("with nothing used", Checks.in(even + "99;").when(0, 0), 0);
        Checks.due("with nothing used, run out in any case", Checks.in("bobbin lasts 1 odds 100;seam a takes 2;wind 0;").when(0, 0), 0);
        // Whatever SEWER was weighed ahead (changing brings nothing to one that is mended in c all the same).
        BelowThread x = Checks.in("bobbin lasts 9 odds 100;seam a takes 5;seam b takes 5;seam c takes 5;");
        x.mean(0);
        Checks.due("a row behind mean(0)", x.row(3, 9, 1, 1), 1);
        x.mean(0);
        Checks.due("a day behind mean(0)", x.judge(3, 9, 1), 2);
        x.mean(0);
        Checks.due("when() behind mean(0)", x.when(1, 5), 1);
        x.mean(0);
        Checks.due("a question behind mean(0)", Checks.ask(x, 3, 9, "total changed"), 2);
        x.mean(0);
        Checks.due("sews() behind mean(0)", x.sews(3), 4);
        Document.edge("III", "how long the one that is on lasts, given it has not run out so far");
        // With 8 used just as much is not above what one of 8 lasts; with 9 it is the one of 9.
        String given = "bobbin lasts 8 odds 50 lasts 12 odds 50;seam a takes 3;wind 4;mend 4;";
        Checks.due("8 used: 1 of 2 runs out", Checks.in(given + "mend 5;").when(0, 8), 1);
        Checks.due("8 used: 1 of 2 runs out", Checks.in(given).when(0, 8), 0);
        Checks.due("9 used: it lasts 12", Checks.in(given + "mend 99;").when(0, 9), 0);
        Checks.due("10 used: it lasts 12, and runs out", Checks.in(given).when(0, 10), 1);
        Document.edge("III", "(one of which more is used than any LENGTH runs out in any case).");
        Checks.due("12 of 12 used", Checks.in(given).when(0, 12), 1);
        Checks.due("13 of 12 used", Checks.in(given).when(0, 13), 1);
        Checks.due("99 of 12 used", Checks.in(given).when(0, 99), 1);
        Checks.due("13 used, and mending is free", Checks.in(given + "mend 0;").when(0, 13), 0);
        // Staying: mended by 1 of 2, else c is changed; changing: both go on one.
        String next = "bobbin lasts 8 odds 50 lasts 12 odds 50;seam a takes 1;seam b takes 4;seam c takes 4;wind 2;mend ";
        Checks.due("what it costs behind one that lasts", Checks.in(next + "1;").when(1, 5), 1);
        Checks.due("what it costs behind one that lasts", Checks.in(next + "0;").when(1, 5), 0);
        // Changed for c it runs out in d; run out in c, d has a fresh one.
        String behind = "bobbin lasts 4 odds 100;seam a takes 1;seam c takes 3;seam d takes 4;wind 2;mend ";
        Checks.due("what is behind counts", Checks.in(behind + "1;").when(1, 5), 0);
        Checks.due("what is behind counts", Checks.in(behind + "3;").when(1, 5), 1);
    }

    private static void withLooks() {
        Document.edge("III", "WITH LOOKS it may look, too (if something is used),");
        // Looking is free, yet with nothing used there is no look.
        Checks.due("one SEAM", Checks.in("bobbin lasts 4 odds 50 lasts 9 odds 50;seam a takes 5;look 0;").looks(0), 5500);
        Checks.due("its WORTH", Checks.in("bobbin lasts 4 odds 50 lasts 9 odds 50;seam a takes 5;look 0;").looks(1), 0);
        Document.edge("III", "and then change just if it would not last: what the least is then; a look's WORTH is by how much less.");
        // 4 used: look, and change by 1 of 2: look + wind / 2. Without: change (wind), or stay (mend + wind) / 2.
        String two = "bobbin lasts 7 odds 50 lasts 8 odds 50;seam a takes 4;seam b takes 4;wind 6;mend 9;look ";
        Checks.due("look 0", Checks.in(two + "0;").looks(0), 3000);
        Checks.due("look 0", Checks.in(two + "0;").looks(1), 3000);
        Checks.due("look 2", Checks.in(two + "2;").looks(0), 5000);
        Checks.due("look 2", Checks.in(two + "2;").looks(1), 1000);
        Checks.due("look 3", Checks.in(two + "3;").looks(0), 6000);
        Checks.due("look 3", Checks.in(two + "3;").looks(1), 0);
        Checks.due("look 4 is never looked", Checks.in(two + "4;").looks(0), 6000);
        Checks.due("look 4 is never looked", Checks.in(two + "4;").looks(1), 0);
        Checks.due("mend 2", Checks.in(two + "2;mend 2;").looks(0), 4000);
    }

    private static void fewest() {
        Document.edge("III", "Each bobbin lasting so many yards: FEWEST in the order told, none run out within a SEAM;");
        String room = "bobbin lasts 9 odds 100;seam a takes 4;seam b takes 5;seam c takes 1;seam d takes 9;";
        Checks.due("19 of 18", Checks.in(room).fewest(18, -1), 2);
        Checks.due("19 of 19", Checks.in(room).fewest(19, -1), 1);
        Checks.due("10 of 9", Checks.in(room).fewest(9, -1), 3);
        Checks.due("9 of 8", Checks.in(room).fewest(8, -1), -1);
        Document.edge("III", "which SEAMS begin on a fresh one (each bobbin goes on as long as it can, from the first one on).");
        int[][] due = {{9, 1, 0, 1, 1}, {10, 1, 0, 0, 1}, {18, 1, 0, 0, 1}, {19, 1, 0, 0, 0}};
        for (int[] one : due) {
            for (int k = 0; k < 4; k++) {
                Checks.due("fewest(" + one[0] + ", " + k + ")", Checks.in(room).fewest(one[0], k), one[1 + k]);
            }
        }
    }

    private static void each(String what, int[] got, int... due) {
        for (int k = 0; k < due.length; k++) {
            Checks.due(what + " of SEAM " + k, got[k], due[k]);
        }
    }

    private static int[] freeWay(String room, int length) {
        BelowThread x = Checks.in(room);
        int[] way = new int[x.has(1)];
        for (int k = 0; k < way.length; k++) {
            way[k] = x.free(length, k);
        }
        return way;
    }

    private static void anyOrder() {
        Document.edge("III", "ANY ORDER: the fewest; which bobbin for each SEAM (numbered as they are first needed by SEAMS),");
        String room = "bobbin lasts 9 odds 100;seam a takes 5;seam b takes 5;seam c takes 4;seam d takes 4;";
        Checks.due("by 9", Checks.in(room).free(9, -1), 2);
        Checks.due("by 8", Checks.in(room).free(8, -1), 3);
        Checks.due("by 5", Checks.in(room).free(5, -1), 4);
        Checks.due("by 18", Checks.in(room).free(18, -1), 1);
        each("by 9", freeWay(room, 9), 0, 1, 0, 1);
        each("by 8", freeWay(room, 8), 0, 1, 2, 2);
        each("by 5", freeWay(room, 5), 0, 1, 2, 3);
        Checks.due("15 yards by 9, but each is above the half", Checks.in("bobbin lasts 9 odds 100;seam a takes 5;seam b takes 5;seam c takes 5;")
            .free(9, -1), 3);
        Document.edge("III", "of like ones the first by SEAMS.");
        // c would go with a or with b: it is with a; and b with a rather than alone, though that is as few.
        each("by 9", freeWay("bobbin lasts 9 odds 100;seam a takes 6;seam b takes 6;seam c takes 2;seam d takes 1;", 9), 0, 1, 0, 0);
        each("by 9", freeWay("bobbin lasts 9 odds 100;seam a takes 4;seam b takes 2;seam c takes 5;", 9), 0, 0, 1);
        // The first fit would need three.
        each("by 10", freeWay("bobbin lasts 9 odds 100;seam a takes 3;seam b takes 3;seam c takes 7;seam d takes 7;", 10), 0, 1, 0, 1);
    }

    private static void hiddenIs(String room, int length, int bobbins, int shown, int... starts) {
        BelowThread x = Checks.in(room);
        Checks.due("hidden(" + length + ", 0)", x.hidden(length, 0), bobbins);
        Checks.due("hidden(" + length + ", 1)", x.hidden(length, 1), shown);
        for (int k = 0; k < starts.length; k++) {
            Checks.due("hidden(" + length + ", " + (10 + k) + ")", x.hidden(length, 10 + k), starts[k]);
        }
        Checks.due("one too many", x.hidden(length, 10 + starts.length), -1);
    }

    private static void hidden() {
        Document.edge("III", "HIDDEN: in the order told, begun anew ahead of SEAMS or at PLACES: the fewest bobbins,");
        String room = "bobbin lasts 9 odds 100;seam a takes 6 anew 2;seam b takes 6 shown anew 1 3;";
        hiddenIs(room, 12, 1, 0);
        hiddenIs(room, 11, 2, 0, 100);
        hiddenIs(room, 6, 2, 0, 100);
        hiddenIs(room, 5, 3, 1, 2, 101);
        hiddenIs(room, 4, 4, 1, 2, 100, 103);
        hiddenIs(room, 3, -1, -1);
        // As full as can be: ten SEAMS of 4 PLACES, each yard of them on a bobbin of its own; the last one alone shows.
        StringBuilder full = new StringBuilder("bobbin lasts 9 odds 100;");
        for (char name = 'a'; name <= 'j'; name++) {
            full.append("seam ").append(name).append(" takes 5").append(name == 'j' ? " shown" : "").append(" anew 1 2 3 4;");
        }
        int[] starts = new int[49];
        for (int k = 0; k < 49; k++) {
            starts[k] = (k + 1) / 5 * 100 + (k + 1) % 5;
        }
        hiddenIs(full.toString(), 1, 50, 4, starts);
        hiddenIs(full.toString(), 50, 1, 0);
        Document.edge("III", "then the fewest begun at PLACES in SEAMS that show;");
        hiddenIs("bobbin lasts 9 odds 100;seam a takes 99;seam b takes 99 shown anew 98;seam c takes 1;", 98, -1, -1);
        hiddenIs("bobbin lasts 9 odds 100;seam a takes 90;seam b takes 99 shown anew 98;seam c takes 9;", 98, 3, 1, 100, 198);
        // By 8 it could go on to the PLACE 1 of b, that shows; ahead of b is as few.
        hiddenIs(room, 8, 2, 0, 100);
        hiddenIs(room.replace(" shown", ""), 8, 2, 0, 101);
        // Fewest bobbins go ahead of that.
        hiddenIs("bobbin lasts 9 odds 100;seam a takes 6;seam b takes 6 shown anew 1;seam c takes 5;", 10, 2, 1, 101);
        Document.edge("III", "of like ones each begun as late as can be, from the first one on.");
        String plain = "bobbin lasts 9 odds 100;seam a takes 9 anew 2 4 6 8;seam b takes 9 anew 2 4 6 8;";
        hiddenIs(plain, 17, 2, 0, 108);
        hiddenIs(plain, 9, 2, 0, 100);
        hiddenIs(plain, 8, 3, 0, 8, 106);
        hiddenIs(plain, 6, 4, 0, 6, 102, 108);
    }

    private static int[] girls(String room, int length) {
        BelowThread x = Checks.in(room);
        int[] way = new int[x.has(1)];
        for (int k = 0; k < way.length; k++) {
            way[k] = x.several(length, k);
        }
        return way;
    }

    private static void several() {
        Document.edge("III", "SEVERAL: SEAMS given to as many girls as there are, each sews hers in the order told (as FEWEST), "
            + "a yard a minute, wind for each bobbin but the first: so that the last one is done soonest;");
        String room = "bobbin lasts 9 odds 100;seam a takes 4;seam b takes 5;seam c takes 1;wind 3;girls ";
        Checks.due("one girl, one bobbin", Checks.in(room + "1;").several(10, -1), 10);
        Checks.due("one girl, two bobbins", Checks.in(room + "1;").several(9, -1), 13);
        Checks.due("one girl, three bobbins", Checks.in(room + "1;").several(5, -1), 16);
        Checks.due("two girls", Checks.in(room + "2;").several(9, -1), 5);
        Checks.due("two girls by 5", Checks.in(room + "2;").several(5, -1), 5);
        Checks.due("three girls", Checks.in(room + "3;").several(9, -1), 5);
        Checks.due("the third is the last one", Checks.in("bobbin lasts 9 odds 100;seam a takes 2;seam b takes 3;seam c takes 4;girls 3;")
            .several(9, -1), 4);
        Checks.due("the first is the last one", Checks.in("bobbin lasts 9 odds 100;seam a takes 4;seam b takes 3;seam c takes 2;girls 3;")
            .several(9, -1), 4);
        // By 6 (or 5) b and c go on one bobbin; by 4 they need two, a and c would be done a minute later.
        String wound = "bobbin lasts 9 odds 100;seam a takes 4;seam b takes 3;seam c takes 2;girls 2;wind 5;";
        Checks.due("by 6", Checks.in(wound).several(6, -1), 5);
        Checks.due("by 5", Checks.in(wound).several(5, -1), 5);
        Checks.due("by 4", Checks.in(wound).several(4, -1), 10);
        Document.edge("III", "of like ones the first by SEAMS (girls by numbers).");
        each("girl", girls(room + "2;", 9), 0, 1, 0);
        each("girl", girls(room + "3;", 9), 0, 1, 0);
        each("girl", girls("bobbin lasts 9 odds 100;seam a takes 8;seam b takes 1;seam c takes 1;seam d takes 1;girls 3;", 9), 0, 1, 1, 1);
        each("girl", girls("bobbin lasts 9 odds 100;seam a takes 2;seam b takes 2;seam c takes 2;girls 3;", 9), 0, 1, 2);
    }

    private static void woundAndSeen() {
        Document.edge("III", "WOUND AHEAD: for n bobbins the fewest minutes: batch for ahead or fewer at once, wind for one.");
        String room = "bobbin lasts 9 odds 100;wind 2;batch 5;ahead 3;";
        int[] due = {0, 2, 4, 5, 7, 9, 10, 12, 14, 15};
        for (int n = 0; n < due.length; n++) {
            Checks.due("wound(" + n + ")", Checks.in(room).wound(n), due[n]);
        }
        Checks.due("fewer at once", Checks.in(room + "wind 9;").wound(2), 5);
        Checks.due("fewer at once, behind others", Checks.in(room + "wind 9;").wound(4), 10);
        Checks.due("one at once", Checks.in(room + "batch 1;ahead 1;").wound(9), 9);
        Document.edge("III", "SEEN are rows of SEAM, whether it was begun on a fresh one: FITS: lengths 1 .. 99 by which FEWEST is so.");
        BelowThread x = Checks.in("bobbin lasts 9 odds 100;seam a takes 50;seam b takes 49;");
        Checks.tape(x, 1, 0);
        x.see();
        Checks.due("99 yards by 99 alone", x.fits(0), 1);
        Checks.due("the least", x.fits(1), 99);
        Checks.due("the greatest", x.fits(2), 99);
        Checks.tape(x, 1, 1, 0, 1);
        x.see();
        Checks.due("by 50 to 98", x.fits(0), 49);
        Checks.due("the least", x.fits(1), 50);
        Checks.due("the greatest", x.fits(2), 98);
        BelowThread y = Checks.in("bobbin lasts 9 odds 100;seam a takes 1;");
        Checks.tape(y, 0, 1);
        y.see();
        Checks.due("by 1 to 99", y.fits(0), 99);
        Checks.due("the least", y.fits(1), 1);
        Checks.tape(y, 0, 0);
        y.see();
        Checks.due("the first one begins on a fresh one by all", y.fits(0), 0);
    }

    // ---- IV: questions and images

    private static void asked(String room, String question, long due) {
        Checks.due(question, Checks.ask(Checks.in(room), 1, 9, question), due);
    }

    private static void questions() {
        // FULL by 9: 0 4 | 0 5 | mended.
        String room = "bobbin lasts 9 odds 100;seam a takes 4;seam b takes 5;seam c takes 5;seam d takes 10 shown;";
        String none = "bobbin lasts 9 odds 100;";
        Document.edge("IV", "A QUESTION of a SEWER's day by a told length is a text, of all SEAMS: first TEST, last TEST "
            + "(the first, the last SEAM in which it holds), often TEST (in how many),");
        asked(room, "first takes=5", 1);
        asked(room, "last takes=5", 2);
        asked(room, "often takes=5", 2);
        asked(room, "first all", 0);
        asked(room, "last all", 3);
        asked(room, "often all", 4);
        asked(room, "often not all", 0);
        Document.edge("IV", "total SUM (of all together, not held),");
        asked(room, "total takes", 24);
        asked(room, "total 9999*9999", 4000000);
        asked(room, "total 0-9999*9999", -4000000);
        Document.edge("IV", "most SUM, least SUM (the greatest, the least of all;");
        asked(room, "most takes", 10);
        asked(room, "least takes", 4);
        asked(room, "most 0-takes", -4);
        asked(room, "least 0-takes", -10);
        Document.edge("IV", "0 without SEAMS).");
        asked(none, "most 5", 0);
        asked(none, "least 5", 0);
        asked(none, "most 0-5", 0);
        asked(none, "total 5", 0);
        asked(none, "often all", 0);
    }

    private static void questionParts() {
        String room = "bobbin lasts 9 odds 100;seam a takes 4;seam b takes 5;seam c takes 5;seam d takes 10 shown;";
        Document.edge("IV", "TEST, SUM as in I, but PART: N; takes; shown; used; left; changed; mended; number; yards PART; "
            + "( SUM ) ; min ( SUM , SUM ) ; max ( SUM , SUM ) .");
        asked(room, "first shown=1", 3);
        asked(room, "often shown=0", 3);
        asked(room, "first number=0", 0);
        asked(room, "last number=3", 3);
        asked(room, "total number", 6);
        asked(room, "most takes*number", 30);
        asked(room, "total yards yards 0", 0);
        asked(room, "total yards min(number,1)", 4 + 5 + 5 + 5);
        Checks.askFault(1, "total |rest");
        Checks.askFault(1, "total |least");
        Checks.askFault(1, "total |most");
        Document.edge("IV", "(Yards used, left on the bobbin ahead of the SEAM, behind a change;");
        asked(room, "first left=9 and used=0", 0);
        asked(room, "first left=5 and used=4", 1);
        // c is changed: nothing used behind the change, all 9 left.
        asked(room, "last changed=1 and used=0 and left=9", 3);
        asked(room, "total used", 4);
        asked(room, "total left", 9 + 5 + 9 + 9);
        Document.edge("IV", "1 if it was CHANGED ahead of it, if it was MENDED, else 0;");
        asked(room, "often changed=1", 2);
        asked(room, "often changed=0", 2);
        asked(room, "often mended=1", 1);
        asked(room, "often mended=0", 3);
        asked(room, "first mended=1", 3);
        Document.edge("IV", "what the SEAM of that number takes, 0 of numbers that there are not.)");
        asked(room, "total yards 0", 16);
        asked(room, "total yards 3", 40);
        asked(room, "total yards 4", 0);
        asked(room, "total yards 9999", 0);
        asked(room, "total yards (0-1)", 0);
        asked(room, "total yards (0-9999*9999)", 0);
        asked(room, "total yards (number+1)", 5 + 5 + 10);
        asked("bobbin lasts 9 odds 100;", "total yards 0", 0);
        // Nor of those that there were in rooms told ahead of this one.
        BelowThread x = new BelowThread();
        for (int n = 0; n < 2; n++) {
            Checks.room(x, seamsOf(10));
        }
        Checks.room(x, room);
        for (int number = 4; number < 11; number++) {
            Checks.due("yards " + number, Checks.ask(x, 1, 9, "total yards " + number), 0);
        }
    }

    private static void questionFaults() {
        Document.edge("IV", "Its FAULTS: 1 as in I (an unknown word at its first byte;");
        Checks.askFault(1, "|oftens all");
        Checks.askFault(1, "total |abcdefgh");
        Checks.askFault(1, "total |rest");
        Checks.askFault(1, "total |least");
        Checks.askFault(1, "first |most>3");
        Checks.askFault(1, "total takes+1234|5");
        Checks.askFault(1, "|");
        Checks.askFault(1, "first takes> |");
        Checks.askFault(1, "total yards |");
        Document.edge("IV", "what stands behind it, too);");
        Checks.askFault(0, "total takes \n");
        Checks.askFault(1, "total takes|;");
        Checks.askFault(1, "total takes |5");
        Checks.askFault(1, "first all |all");
        Checks.askFault(1, "first all|\0");
        Document.edge("IV", "4 the 7th of ( [ not yards that is open at once");
        Checks.askFault(0, "total yards yards yards yards yards yards 1");
        Checks.askFault(4, "total yards yards yards yards yards yards |yards 1");
        Checks.askFault(4, "total yards yards yards yards yards yards |(1)");
        Checks.askFault(0, "first not [not [yards yards 1=1]]");
        Checks.askFault(4, "first not [not [yards yards |(1)=1]]");
        Checks.askFault(4, "first not not not not not not |not all");
        Checks.askFault(4, "first [[[[[[|[all]]]]]]]");
        Document.edge("IV", "(not until its FACT, yards until its PART ends), at it.");
        Checks.askFault(0, "total yards yards yards yards yards yards 1+yards yards yards yards yards yards 2*(3)");
        Checks.askFault(0, "first not not not not not yards 1=yards 2");
        Checks.askFault(4, "first not not not not not not 1=|yards 2");
        Checks.askFault(0, "first not not not not not not 1=2 and yards 2=(3)");
        Checks.askFault(0, "total yards (yards (yards (1)+(2)*(3)))");
        Checks.askFault(4, "total yards (yards (yards (1+|(2))))");
    }

    private static void images() {
        Document.edge("IV", "AN IMAGE: how many SEAMS are sewn, yards used, what the bobbin lasts, CHANGES, MENDED ones (a byte "
            + "each), what it cost (two bytes, the higher first);");
        BelowThread x = Checks.in("bobbin lasts 9 odds 100;seam a takes 4;seam b takes 5;seam c takes 5;seam d takes 3;wind 70;mend 99;");
        each("byte", Checks.imageOf(x), 0, 0, 9, 0, 0, 0, 0);
        x.sew(false);
        x.sew(true);
        x.sew(false);
        x.sew(false);
        // 70 and 169 are 239, and one more look behind 255 is another byte
        each("byte", Checks.imageOf(x), 4, 3, 9, 1, 1, 0, 239);
        Checks.tape(x, Checks.image(4, 3, 9, 1, 1, 255));
        x.on();
        each("byte", Checks.imageOf(x), 4, 3, 9, 1, 1, 0, 255);
        Checks.tape(x, Checks.image(4, 3, 9, 1, 1, 256));
        x.on();
        each("byte", Checks.imageOf(x), 4, 3, 9, 1, 1, 1, 0);
        Checks.tape(x, Checks.image(4, 3, 9, 1, 1, 9999));
        x.on();
        each("byte", Checks.imageOf(x), 4, 3, 9, 1, 1, 39, 15);
        Document.edge("IV", "last a byte: all ahead from 199 on, c = (3 c + it) mod 251.");
        int check = 199;
        for (int it : new int[] {4, 3, 9, 1, 1, 39, 15}) {
            check = (3 * check + it) % 251;
        }
        Checks.due("last byte", Checks.imageOf(x)[7], check);
        Checks.due("last byte of nothing", Checks.imageOf(new BelowThread())[7], 230);
    }
}
