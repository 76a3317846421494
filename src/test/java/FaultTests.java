/** Faults of rooms and questions: each text with the fault that is due and its place. */
final class FaultTests {
    private static final String HEAD = "bobbin lasts 5 odds 100;";

    public static void main(String[] args) {
        lengths();
        statements();
        seams();
        names();
        numbers();
        many();
        tests();
        open();
        questions();
        staying();
        Checks.end("FaultTests");
    }

    private static void behind(int fault, String marked) {
        Checks.faultAt(fault, HEAD + marked);
    }

    private static void fine(String text) {
        Checks.good(HEAD + text);
    }

    private static void lengths() {
        Checks.good("bobbin lasts 1 odds 100;");
        Checks.good("bobbin lasts 99 odds 1 lasts 98 odds 99 ;");
        Checks.good("\n bobbin\nlasts 0099 odds 0100\n;\n ");
        Checks.faultAt(1, "|");
        Checks.faultAt(1, "   |");
        Checks.faultAt(1, "|seam a takes 3;");
        Checks.faultAt(1, "|bobbi");
        Checks.faultAt(1, "|bobbins lasts 5 odds 100;");
        Checks.faultAt(1, "|Bobbin lasts 5 odds 100;");
        Checks.faultAt(1, "|;");
        Checks.faultAt(1, "bobbin|");
        Checks.faultAt(1, "bobbin |odds 5");
        Checks.faultAt(1, "bobbin lasts|");
        Checks.faultAt(1, "bobbin lasts |;");
        Checks.faultAt(1, "bobbin lasts|5 odds 100;");
        Checks.faultAt(1, "bobbin lasts 5|odds 100;");
        Checks.faultAt(1, "bobbin lasts 5 |5");
        Checks.faultAt(1, "bobbin lasts 5 odds|100;");
        Checks.faultAt(1, "bobbin lasts 5 odds 100|");
        Checks.faultAt(1, "bobbin lasts 5 odds 100 |x");
        Checks.faultAt(1, "bobbin lasts 5 odds 100 |\tseam");
        Checks.faultAt(2, "bobbin lasts 5 odds |50lasts 6 odds 50;");
        Checks.faultAt(2, "bobbin lasts 5 odds |50lasts \0\0");
        Checks.faultAt(2, "bobbin lasts 5 odds |50lastsx");
        Checks.faultAt(2, "bobbin lasts 5 odds 50 lasts 6 odds |49lasts 7 odds 1;");
        Checks.faultAt(1, "bobbin lasts 5 odds 100|lasts 6 odds 1;");
        Checks.faultAt(1, "bobbin lasts 5 odds 50 lasts|6 odds 50;");
        Checks.faultAt(1, "bobbin lasts 5 odds 50 lasts 6|odds 50;");
        Checks.faultAt(1, "bobbin lasts 5 odds 50 lasts|");
        Checks.faultAt(1, "bobbin lasts 5 odds 50 lasts |\0");
        Checks.faultAt(1, "bobbin lasts 5 odds 50 lasts 6 odds 50;|;");
        Checks.faultAt(2, "bobbin lasts |0 odds 100;");
        Checks.faultAt(2, "bobbin lasts |100 odds 100;");
        Checks.faultAt(2, "bobbin lasts |9999 odds 100;");
        Checks.faultAt(1, "bobbin lasts 9999|9 odds 100;");
        Checks.faultAt(1, "bobbin lasts 0000|5 odds 100;");
        Checks.faultAt(2, "bobbin lasts 5 odds |0;");
        Checks.faultAt(2, "bobbin lasts 5 odds |101;");
        Checks.faultAt(2, "bobbin lasts 5 odds 50 lasts |5 odds 50;");
        Checks.faultAt(2, "bobbin lasts 5 odds 50 lasts |05 odds 50;");
        Checks.faultAt(2, "bobbin lasts 5 odds 50 lasts 6 odds |51;");
        Checks.faultAt(2, "bobbin lasts 5 odds 100 lasts 6 odds |1;");
        Checks.faultAt(2, "bobbin lasts 5 odds |50;");
        Checks.faultAt(2, "bobbin lasts 5 odds 50 lasts 6 odds |49;");
        Checks.faultAt(2, "bobbin lasts 5 odds 50 lasts 6 odds |49 x");
        Checks.faultAt(2, "bobbin lasts 5 odds |50");
        String six = "bobbin lasts 1 odds 10 lasts 2 odds 10 lasts 3 odds 10 lasts 4 odds 10 lasts 5 odds 10 lasts 6 odds ";
        Checks.good(six + "50;");
        Checks.faultAt(5, six + "50 |lasts 7 odds 1;");
        Checks.faultAt(5, six + "40 |lasts 7 odds 10;");
        Checks.faultAt(2, six + "|40;");
        Checks.faultAt(2, six + "|40lasts 7 odds 10;");
        Checks.faultAt(1, six + "50|lasts 7 odds 1;");
    }

    private static void statements() {
        fine("");
        fine("wind 0;mend 0;look 0;batch 0;ahead 1;girls 1;");
        fine("wind 99;mend 99;look 99;batch 99;ahead 9;girls 3;wind 4;");
        behind(1, "|bobbin lasts 5 odds 100;");
        behind(1, "|takes 3;");
        behind(1, "|used 3;");
        behind(1, "|first 3;");
        behind(1, "|hem 3;");
        behind(1, "|winds 3;");
        behind(1, "|5;");
        behind(1, "wind|;");
        behind(1, "wind|5;");
        behind(1, "wind |x;");
        behind(1, "wind 5|");
        behind(1, "wind 5 |6;");
        behind(1, "wind 5 |seam a takes 3;");
        behind(2, "wind |100;");
        behind(2, "mend |100;");
        behind(2, "look |100;");
        behind(2, "batch |100;");
        behind(2, "ahead |0;");
        behind(2, "ahead |10;");
        behind(2, "girls |0;");
        behind(2, "girls |4;");
        behind(1, "girls 1234|5;");
    }

    private static void seams() {
        fine("seam a takes 1;seam b takes 99 shown;seam c takes 9 anew 1 2 3 8;seam d takes 2 shown anew 1;");
        behind(1, "seam|");
        behind(1, "seam a|");
        behind(1, "seam a |take 3;");
        behind(1, "seam a takes|3;");
        behind(1, "seam a takes 3|shown;");
        behind(1, "seam a takes 3 anew|4;");
        behind(1, "seam a takes 3 anew 1 |shown;");
        behind(1, "seam a takes 3 shown |shown;");
        behind(1, "seam a takes 3 anew|;");
        behind(1, "seam a takes 3 anew 1 |anew 2;");
        behind(1, "seam a takes 9 anew 1 1234|5;");
        behind(2, "seam a takes |0;");
        behind(2, "seam a takes |100;");
        behind(2, "seam a takes 9 anew |0;");
        behind(2, "seam a takes 9 anew |9;");
        behind(2, "seam a takes 1 anew |1;");
        behind(2, "seam a takes 9 anew 4 |4;");
        behind(2, "seam a takes 9 anew 4 5 |3;");
        behind(5, "seam a takes 9 anew 1 2 3 4 |5;");
        behind(5, "seam a takes 9 anew 1 2 3 4 |0;");
        behind(5, "seam a takes 9 anew 1 2 3 4 |99999;");
    }

    private static void names() {
        fine("seam abcdef takes 3;seam zz takes 3;rule z when all;seam first takes 2;seam sum takes 2;seam last takes 1;");
        String[] own = "bobbin lasts odds seam takes shown anew rule when wind mend look batch ahead girls used rest number least most left changed mended yards or and not all min max".split(" ");
        Checks.due("own words", own.length, 30);
        for (String word : own) {
            behind(1, "seam |" + word + " takes 3;");
            behind(1, "rule |" + word + " when all;");
            String more = word + "x";
            if (more.length() <= 6) {
                fine("seam " + more + " takes 3;");
            }
        }
        behind(1, "seam abcdef|g takes 3;");
        behind(1, "seam abcdef|ghij");
        behind(1, "seam change|dx takes 3;");
        behind(1, "seam |changed takes 3;");
        behind(1, "rule abcdef|g when all;");
        behind(1, "seam |5 takes 3;");
        behind(1, "seam a|5 takes 3;");
        behind(1, "seam a|B takes 3;");
        behind(1, "seam |A takes 3;");
        behind(1, "seam |; takes 3;");
        behind(1, "seam |\u00e9 takes 3;");
        behind(3, "seam a takes 3;seam |a takes 3;");
        behind(3, "seam a takes 3;seam b takes 3;rule |a when all;");
        behind(3, "rule a when all;seam |a takes 100;");
        behind(3, "rule a when all;rule |a when");
        fine("seam a takes 3;seam ab takes 3;seam aab takes 3;rule b when all;");
    }

    private static void numbers() {
        fine("rule r when 9999>0000;");
        behind(1, "rule r when 1234|5>3;");
        behind(1, "rule r when 0000|0>3;");
        behind(1, "rule r when used>1234|56;");
        behind(1, "rule r when used |12345>3;");
        behind(1, "rule r when used|5>3;");
    }

    private static void many() {
        StringBuilder ten = new StringBuilder(HEAD);
        for (int k = 0; k < 10; k++) {
            ten.append("seam ").append((char) ('a' + k)).append(" takes 5;");
        }
        Checks.good(ten.toString());
        Checks.faultAt(5, ten + " |seam k takes 5;");
        Checks.faultAt(5, ten + " |seam");
        String rules = HEAD + "rule a when all;rule b when all;rule c when all;rule d when all;";
        Checks.good(rules);
        Checks.faultAt(5, rules + "|rule e when all;");
        Checks.faultAt(5, rules + "wind 3;|rule a");
        StringBuilder sixty = new StringBuilder(HEAD);
        for (int k = 0; k < 59; k++) {
            sixty.append("wind 3;");
        }
        Checks.good(sixty + " ");
        Checks.faultAt(5, sixty + " |wind 3;");
        Checks.faultAt(5, sixty + "|;");
        Checks.faultAt(5, sixty + "|bobbin");
        Checks.faultAt(5, sixty + "\n|\u0001");
    }

    private static void tests() {
        fine("rule r when all or not all and all;");
        fine("rule r when[all]and[not[all or all]];");
        fine("rule r when takes+shown-used*rest/number<least;rule s when most=min(1,max(2,3))*(4);");
        fine("rule r when used>3 and used<4;");
        behind(1, "rule r |all;");
        behind(1, "rule r when|;");
        behind(1, "rule r when |or all;");
        behind(1, "rule r when all |all;");
        behind(1, "rule r when all and|;");
        behind(1, "rule r when all or|");
        behind(1, "rule r when not|;");
        behind(1, "rule r when [all|;");
        behind(1, "rule r when [all]|];");
        behind(1, "rule r when used|;");
        behind(1, "rule r when used |and all;");
        behind(1, "rule r when used>|;");
        behind(1, "rule r when used>3|>4;");
        behind(1, "rule r when used>|=4;");
        behind(1, "rule r when used>3|and all;");
        behind(1, "rule r when |left>3;");
        behind(1, "rule r when |changed>3;");
        behind(1, "rule r when |mended>3;");
        behind(1, "rule r when |yards 3>3;");
        behind(1, "rule r when |hem>3;");
        behind(1, "rule r when |-3>3;");
        behind(1, "rule r when |)>3;");
        behind(1, "rule r when (used|>3;");
        behind(1, "rule r when (used|>3);");
        behind(1, "rule r when (|all);");
        behind(1, "rule r when min|5>3;");
        behind(1, "rule r when min |used>3;");
        behind(1, "rule r when min(used|)>3;");
        behind(1, "rule r when min(used,3|,4)>3;");
        behind(1, "rule r when max(used,|)>3;");
        behind(1, "rule r when (used)|(used)>3;");
        behind(1, "rule r when used>3 |[all];");
    }

    private static void open() {
        fine("rule r when [[[[[[all]]]]]];");
        behind(4, "rule r when [[[[[[|[all]]]]]]];");
        fine("rule r when ((((((used))))))>3;");
        behind(4, "rule r when ((((((|(used)))))))>3;");
        fine("rule r when not not not not not not all;");
        behind(4, "rule r when not not not not not not |not all;");
        behind(4, "rule r when [not[not[not |[all]]]];");
        behind(4, "rule r when [not[not[not |(used)>3]]];");
        fine("rule r when [not[not[not used>3]]];");
        behind(4, "rule r when [not[not[not min|(used,3)>3]]];");
        behind(1, "rule r when [not[not[not min |used,3)>3]]];");
        behind(4, "rule r when min(max(min(max(min(max(used,min|(1,2))))))");
        fine("rule r when min(1,max(1,min(1,max(1,min(1,max(1,2))))))>3;");
        fine("rule r when not not not all and not not not not not not all or not not not not not not all;");
        fine("rule r when [not all and [[[[[all]]]]]];");
        fine("rule r when not(used)>(3)and[not[not[not all]]];");
        behind(4, "rule r when not(used)>(3)and[not[not[not|[all]]]];");
        fine("rule r when not(((((used)))))>3;");
        behind(4, "rule r when not(((((|(used))))))>3;");
        behind(1, "rule r when [[[[[[used|[");
    }

    private static void questions() {
        Checks.askFault(0, "first all");
        Checks.askFault(0, "\nlast[all]\n");
        Checks.askFault(0, "often not left<used and changed=mended");
        Checks.askFault(0, "total takes+shown+used+left+changed+mended+number+yards 2");
        Checks.askFault(0, "most yards yards number");
        Checks.askFault(0, "least yards(number+1)*yards min(1,2)");
        Checks.askFault(1, "|");
        Checks.askFault(1, "  |");
        Checks.askFault(1, "|all");
        Checks.askFault(1, "|sum takes");
        Checks.askFault(1, "|max(1,2)");
        Checks.askFault(1, "|firsts all");
        Checks.askFault(1, "|5");
        Checks.askFault(1, "first|");
        Checks.askFault(1, "first takes|");
        Checks.askFault(1, "first all|;");
        Checks.askFault(1, "first all |all");
        Checks.askFault(1, "total |all");
        Checks.askFault(1, "total takes|>3");
        Checks.askFault(1, "total takes |takes");
        Checks.askFault(1, "total|5");
        Checks.askFault(1, "total 1234|5");
        Checks.askFault(1, "total |rest");
        Checks.askFault(1, "total |least");
        Checks.askFault(1, "total |most");
        Checks.askFault(1, "total |hem");
        Checks.askFault(1, "total |leftover");
        Checks.askFault(1, "total yards|");
        Checks.askFault(1, "total yards|5");
        Checks.askFault(1, "total yards |all");
        Checks.askFault(1, "total yards 3 |4");
        Checks.askFault(4, "total yards yards yards yards yards yards |yards 1");
        Checks.askFault(0, "total yards yards yards yards yards yards 1");
        Checks.askFault(4, "total yards yards yards yards yards yards|(1)");
        Checks.askFault(0, "total yards yards yards yards yards yards 1+yards yards yards yards yards yards 2*yards 3");
        Checks.askFault(4, "first [[[[[[|[");
        Checks.askFault(4, "first not not not not not not |not all");
        Checks.askFault(4, "first [not yards(yards(|yards 1))=2]");
    }

    /** What a refused room leaves, and whose fault is told. */
    private static void staying() {
        BelowThread x = Checks.in(Checks.BIG);
        x.seed(77);
        x.sew(false);
        Checks.tape(x, 1, 0);
        x.see();
        Checks.due("refused room", Checks.room(x, "bobbin lasts 7 odds 100;seam a takes 0;"), -1);
        Checks.due("fault", x.fault(0), 2);
        Checks.due("place", x.fault(1), 37);
        Checks.due("fault(2)", x.fault(2), -1);
        Checks.due("fault(-1)", x.fault(-1), -1);
        Checks.due("lengths stay", x.has(0), 2);
        Checks.due("seams stay", x.has(1), 3);
        Checks.due("length stays", x.bobbin(0, 0), 10);
        Checks.due("rows stay", x.has(10), 1);
        Checks.due("acts stay", x.has(11), 1);
        Checks.due("day stays", x.day(1), 6);
        Checks.due("the tape goes", x.end(1), false);
        Checks.due("ask of no sewer", Checks.ask(x, 6, 20, "total takes"), BelowThread.NOTHING);
        Checks.due("its tape goes", x.end(1), false);
        Checks.due("fault stays", x.fault(0), 2);
        Checks.due("ask of no length", Checks.ask(x, 0, 0, "total"), BelowThread.NOTHING);
        Checks.due("fault stays", x.fault(1), 37);
        Checks.due("good ask", Checks.ask(x, 0, 20, "total takes"), 23);
        Checks.due("no fault", x.fault(0), 0);
        Checks.due("no place", x.fault(1), -1);
        Checks.due("bad ask", Checks.ask(x, 0, 20, "total"), BelowThread.NOTHING);
        Checks.due("fault of ask", x.fault(0), 1);
        Checks.due("place of ask", x.fault(1), 5);
        Checks.due("good room", Checks.room(x, HEAD), 1);
        Checks.due("fault of a good room", x.fault(0), 0);
        Checks.due("place of a good room", x.fault(1), -1);
    }
}
