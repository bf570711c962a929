/**
 * The boundaries of part II of the Terms (TEXT, TOKENS, FAULTS): the last input on each side of
 * each. What each method asks is the sentence of the document that stands above it.
 */
public final class TextBoundsTest {
    private static final int NONE = -1;
    private static final int SYNTAX = 1;
    private static final int ROOM = 2;
    private static final int TWICE = 3;
    private static final int UNTOLD = 4;

    private static final String[] WORDS = {"trait", "bar", "cost", "if", "or", "and", "not", "p", "h"};
    private static final String EIGHT_TRAITS = "trait a;trait b;trait c;trait d;trait e;trait f;trait g;trait i;";
    private static final String EIGHT_BRACKETS = "[".repeat(8) + "1==1" + "]".repeat(8);
    /** 2147483647, by NUMBERS of four digits at most. */
    private static final String GREATEST = "1024*1024*2047+1024*1023+1023";

    public static void main(String[] args) {
        bytesOfAText();
        slotsOfTexts();
        everyByteAlone();
        everyByteInTheMidst();
        everyByteOfSigns();
        blanks();
        longestTokens();
        lengthOfNames();
        wordsAreNoNames();
        lengthOfNumbers();
        optionalParts();
        traitsByNumber();
        condTables();
        wrappingValues();
        relationsAtTheEnds();
        wrappingCosts();
        placeAtTheEnd();
        placeOfTheFirst();
        tokens600();
        tokensOfEachKind();
        traits8();
        rules20();
        openOfAllKinds();
        openNots();
        openIsClosed();
        syntaxAheadOfRoom();
        twice();
        untold();
        lateFaultsAreLate();
        faultsChangeNothing();
        textsOneAfterAnother();
        longTextsOneAfterAnother();
        rulesByNumber();
        Check.end("TextBoundsTest");
    }

    private static boolean isBlank(int b) {
        return b == 9 || b == 10 || b == 13 || b == 32;
    }

    private static boolean isDigit(int b) {
        return b >= 48 && b <= 57;
    }

    private static boolean isLetter(int b) {
        return b >= 97 && b <= 122;
    }

    /** A text that is whole if place is NONE, and else has its SYNTAX fault there. */
    private static void dueSyntax(String text, int place) {
        Check.dueRead(text, place == NONE ? 0 : SYNTAX, place);
    }

    /** The FAULT of the text is at its last letters, which it ends with. */
    private static void dueAtEnd(String head, String last, int fault) {
        Check.dueRead(head + last, fault, fault == 0 ? NONE : head.length());
    }

    // "A TEXT, 3,000 bytes at most"
    private static void bytesOfAText() {
        String blanks = " ".repeat(2993);
        HostYear x = new HostYear();
        Check.due("3,000 bytes", Check.read(x, 0, blanks + "cost 1;"), 0);
        Check.due("the last of them is read", x.count(6), 1);
        Check.dueRead(" ".repeat(2999) + "?", SYNTAX, 2999);
        Check.dueRead(blanks + "cost 12", SYNTAX, 3000);
        Check.dueRead("cost " + "1".repeat(2995), SYNTAX, 5);
        Check.dueRead("trait " + "a".repeat(2994), SYNTAX, 6);
    }

    // "one for each of two slots"
    private static void slotsOfTexts() {
        HostYear x = Given.wishing(2, 0, 1, 1);
        Check.read(x, 0, "trait a;cost 10;");
        Check.read(x, 1, "trait a;trait b;cost 20;cost 30;");
        Check.due("cost by slot 0", x.cost(0, 0, 0, 1), 11);
        Check.due("cost by slot 1", x.cost(1, 0, 0, 1), 51);
        Check.due("rules of slot 0", x.count(6), 1);
        Check.due("rules of slot 1", x.count(7), 2);
        Check.read(x, 0, "");
        Check.due("cost by slot 0, emptied", x.cost(0, 0, 0, 1), 1);
        Check.due("cost by slot 1, as it was", x.cost(1, 0, 0, 1), 51);
    }

    // "blanks (9, 10, 13, 32)"; "a letter a .. z"; "A longer NAME or NUMBER, all else, is no TOKEN"
    private static void everyByteAlone() {
        for (int b = 0; b <= 255; b++) {
            char c = (char) b;
            dueSyntax("" + c, isBlank(b) ? NONE : 0);
            boolean isName = isLetter(b) && b != 'p' && b != 'h';
            dueSyntax("trait " + c + ";", isName ? NONE : isBlank(b) ? 7 : 6);
            boolean goesOn = isBlank(b) || b == '-' || b == '(' || b == 'p' || b == 'h';
            dueSyntax("cost " + c + ";", isDigit(b) ? NONE : goesOn ? 6 : 5);
        }
    }

    private static void everyByteInTheMidst() {
        for (int b = 0; b <= 255; b++) {
            char c = (char) b;
            boolean goesOn = b == ';' || b == '+' || b == '-' || b == '*';
            dueSyntax("cost 1" + c + ";", isBlank(b) || isDigit(b) ? NONE : goesOn ? 7 : 6);
            boolean isInName = isLetter(b) || isDigit(b) || isBlank(b);
            dueSyntax("trait a" + c + ";", isInName ? NONE : b == ';' ? 8 : 7);
            boolean isUnread = isBlank(b) || isDigit(b) || isLetter(b) || b == '.';
            dueSyntax("trait a;cost p" + c + "a;", b == '.' ? NONE : isBlank(b) ? 15 : isUnread ? 13 : 14);
        }
    }

    // "SIGNS ; . ( ) [ ] + - * == != < <="
    private static void everyByteOfSigns() {
        for (int b = 0; b <= 255; b++) {
            char c = (char) b;
            boolean isSum = b == '+' || b == '-' || b == '*';
            dueSyntax("bar 1" + c + "2;", b == '<' ? NONE : isSum || isDigit(b) ? 7 : isBlank(b) ? 6 : 5);
            boolean isWhole = b == '=' || b == '-' || isBlank(b) || isDigit(b);
            dueSyntax("bar 1<" + c + "2;", isWhole ? NONE : b == '(' ? 8 : 6);
            dueSyntax("bar 1=" + c + "2;", b == '=' ? NONE : 5);
            dueSyntax("bar 1!" + c + "2;", b == '=' ? NONE : 5);
        }
        dueSyntax("trait a;cost(p.a+h.a)-1*2 if[1==1]and 1!=2 or 1<2 and 2<=2;", NONE);
    }

    // "with blanks (9, 10, 13, 32) between or not"
    private static void blanks() {
        dueSyntax("", NONE);
        dueSyntax("\t\n\r ", NONE);
        dueSyntax("\t\n\r ;", 4);
        dueSyntax("\ttrait\na\r; \t\n\rcost p\t.\na\r*\t(\n2\r)\tif\nnot\r[\t1\n<=\r2\t]\n;\r", NONE);
        dueSyntax("trait a;cost p.a*(2)if not[1<=2];", NONE);
        dueSyntax("bar 1= =1;", 5);
        dueSyntax("bar 1! =1;", 5);
        dueSyntax("bar 1< =1;", 7);
        dueSyntax("cost 12 34;", 8);
        dueSyntax("trait ab cd;", 9);
        dueSyntax("tra it a;", 0);
    }

    // "TOKENS, the longest that can be"
    private static void longestTokens() {
        dueSyntax("cost1;", 0);
        dueSyntax("cost-1;", NONE);
        dueSyntax("bar1==1;", 0);
        dueSyntax("bar(1)==1;", NONE);
        dueSyntax("traita;", 0);
        dueSyntax("bar not1==1;", 4);
        dueSyntax("bar not 1==1;", NONE);
        dueSyntax("cost 1if 1==1;", NONE);
        dueSyntax("cost 1if1==1;", 6);
        dueSyntax("bar 1==1or 1==1and 1==1;", NONE);
        dueSyntax("bar 1==1or1==1;", 8);
        dueSyntax("bar 1==1 and1==1;", 9);
        dueSyntax("bar 1<=-1;", NONE);
        dueSyntax("bar 1<==1;", 7);
        dueSyntax("bar 1===1;", 7);
        dueSyntax("bar 1!==1;", 7);
        dueSyntax("bar 1<<1;", 6);
        dueSyntax("trait a;cost pa;", 13);
        dueSyntax("trait a;cost pp.a;", 13);
    }

    // "NAMES (a letter a .. z, then letters and digits, at most 8 ..)"
    private static void lengthOfNames() {
        for (String name : new String[] {"a", "z", "a0", "z9", "abcdefgh", "a1234567", "zzzzzzzz"}) {
            dueSyntax("trait " + name + ";cost p." + name + "+h." + name + ";", NONE);
        }
        for (String name : new String[] {"abcdefghi", "a12345678", "costcosts", "traittrait", "aaaaaaaaaaaaaaaaa"}) {
            dueSyntax("trait " + name + ";", 6);
            dueSyntax("trait a;cost p." + name + ";", 15);
        }
        dueSyntax("trait abcdefgh;cost p.zabcdefgh;", 22);
        dueSyntax("trait abcdefgh;trait abcdefgi;trait bbcdefgh;trait abcdefg;", NONE);
        Check.dueRead("trait abcdefgh;cost p.abcdefg;", UNTOLD, 22);
        Check.dueRead("trait abcdefg;cost p.abcdefgh;", UNTOLD, 21);
        Check.dueRead("trait abcdefgh;trait abcdefgh;", TWICE, 21);
        dueSyntax("trait 0a;", 6);
        dueSyntax("trait 9;", 6);
    }

    // "none of the words in quotes"
    private static void wordsAreNoNames() {
        for (String word : WORDS) {
            dueSyntax("trait " + word + ";", 6);
            dueSyntax("trait a;cost p." + word + ";", 15);
            dueSyntax("trait " + word + "s;", NONE);
            dueSyntax("trait " + word + "0;", NONE);
            dueSyntax("trait x" + word + ";", NONE);
            boolean isCutName = word.length() > 1;
            dueSyntax("trait " + word.substring(0, word.length() - 1) + ";", isCutName ? NONE : 6);
        }
    }

    // "NUMBERS (1 to 4 digits)"; "A longer .. NUMBER .. is no TOKEN"
    private static void lengthOfNumbers() {
        String[] numbers = {"0", "9", "00", "10", "099", "100", "0000", "0008", "1000", "9998"};
        for (String number : numbers) {
            HostYear x = Given.pairBy("cost " + number + ";");
            Check.due("cost of " + number, x.cost(0, 0, 0, 1), 1 + Integer.parseInt(number));
        }
        dueSyntax("cost 9999;", NONE);
        for (String number : new String[] {"00000", "10000", "99999", "4294967297", "18446744073709551617"}) {
            dueSyntax("cost " + number + ";", 5);
            dueSyntax("bar 1 < " + number + ";", 8);
        }
    }

    // "{'trait' NAME ';'} {RULE}", "['if' COND]", "{'or' ALL}", "['-'] PART": none, one, two of each
    private static void optionalParts() {
        dueSyntax("trait a;", NONE);
        dueSyntax("trait a;trait b;", NONE);
        dueSyntax("trait a;;", 8);
        dueSyntax("trait;", 5);
        dueSyntax("cost 1;trait a;", 7);
        dueSyntax("cost 1 if 1==1;", NONE);
        dueSyntax("cost 1 if 1==1 if 1==1;", 15);
        dueSyntax("cost 1 if;", 9);
        dueSyntax("bar 1==1 if 1==1;", 9);
        dueSyntax("bar;", 3);
        dueSyntax("bar 1==1 or 1==1 or 1==1 and 1==1 and 1==1;", NONE);
        dueSyntax("bar 1==1 or or 1==1;", 12);
        dueSyntax("bar 1==1 and;", 12);
        dueSyntax("bar 1==1==1;", 8);
        dueSyntax("bar -1==-1;", NONE);
        dueSyntax("bar --1==1;", 5);
        dueSyntax("cost -1--1;", 8);
        dueSyntax("cost (-1)-(-1);", NONE);
        dueSyntax("cost +1;", 5);
        dueSyntax("cost 1*-1;", 7);
        dueSyntax("cost 1+1-1*1*1;", NONE);
        dueSyntax("cost ();", 6);
        dueSyntax("bar [];", 5);
        dueSyntax("bar [1]==1;", 6);
        dueSyntax("bar (1==1);", 6);
        dueSyntax("bar not;", 7);
    }

    // "The k-th 'trait' names TRAIT k. p. is that of the PUPIL's FAMILY, h. of the HOME's."
    private static void traitsByNumber() {
        for (int k = 0; k < 8; k++) {
            String name = "abcdefgi".substring(k, k + 1);
            HostYear x = Given.pairBy(EIGHT_TRAITS + "cost p." + name + "*100+h." + name + ";");
            for (int other = 0; other < 8; other++) {
                x.tell(0, 10 + other, 10 + other);
                x.tell(1, 10 + other, 20 + other);
            }
            Check.due("trait " + k, x.cost(0, 0, 0, 1), 1 + (10 + k) * 100 + 20 + k);
            x.tell(0, 10 + k, 99);
            x.tell(1, 10 + k, -999);
            Check.due("trait " + k + " told anew", x.cost(1, 0, 0, 1), 1 + 9900 - 999);
        }
    }

    // "COND: ALL {'or' ALL}. ALL: LIT {'and' LIT}. LIT: 'not' LIT | '[' COND ']' | E REL E.": each way of three LITS
    private static void condTables() {
        String[][] lits = {{"1==2", "1==1"}, {"1!=1", "1!=2"}, {"2<2", "1<2"}, {"2<=1", "2<=2"}};
        for (String[] lit : lits) {
            for (int way = 0; way < 8; way++) {
                boolean a = (way & 1) == 1;
                boolean b = (way & 2) == 2;
                boolean c = (way & 4) == 4;
                String x = lit[a ? 1 : 0];
                String y = lits[0][b ? 1 : 0];
                String z = lit[c ? 1 : 0];
                dueHolds(x + " and " + y + " or " + z, a && b || c);
                dueHolds(x + " or " + y + " and " + z, a || b && c);
                dueHolds("[" + x + " or " + y + "] and " + z, (a || b) && c);
                dueHolds("not " + x + " and " + y, !a && b);
                dueHolds("not [" + x + " and " + z + "]", !(a && c));
                dueHolds("not not " + x + " or not " + z, a || !c);
                dueHolds(x + " and " + y + " and " + z, a && b && c);
                dueHolds(x + " or " + y + " or " + z, a || b || c);
            }
        }
    }

    private static void dueHolds(String cond, boolean holds) {
        HostYear x = Given.pairBy("bar " + cond + ";");
        Check.due("why by bar " + cond, x.why(0, 0, 0, 1), holds ? 10 : 0);
    }

    // "Ints of 32 bits that wrap."
    private static void wrappingValues() {
        dueHolds("0<" + GREATEST, true);
        dueHolds(GREATEST + "+1<0", true);
        dueHolds("-(" + GREATEST + ")-1<0", true);
        dueHolds("-(" + GREATEST + ")-2==" + GREATEST, true);
        dueHolds("1024*1024*2048==-(" + GREATEST + ")-1", true);
        dueHolds("-(1024*1024*2048)<0", true);
        dueHolds("-1024*1024*2048<0", true);
        dueHolds("1024*1024*4096==0", true);
        dueHolds("9999*9999*9999==-(9999*9999*9999)", false);
        dueHolds("(" + GREATEST + ")*(" + GREATEST + ")==1", true);
    }

    private static void relationsAtTheEnds() {
        String least = "-(" + GREATEST + ")-1";
        dueHolds(least + "<" + GREATEST, true);
        dueHolds(GREATEST + "<" + least, false);
        dueHolds(least + "<=" + GREATEST, true);
        dueHolds(GREATEST + "<=" + least, false);
        for (int left = 4; left <= 6; left++) {
            dueHolds(left + "<5", left < 5);
            dueHolds(left + "<=5", left <= 5);
            dueHolds(left + "==5", left == 5);
            dueHolds(left + "!=5", left != 5);
        }
    }

    /** The sum of a COST is taken for one of the ints that wrap; only its end is cut. */
    private static void wrappingCosts() {
        HostYear x = Given.pairBy("cost " + GREATEST + "-1;");
        Check.due("a COST of 2147483647", x.cost(0, 0, 0, 1), 10000);
        x = Given.pairBy("cost " + GREATEST + ";");
        Check.due("a COST of one more", x.cost(0, 0, 0, 1), 0);
        x = Given.pairBy("cost -(" + GREATEST + ")-1;cost -1;");
        Check.due("a COST of -2147483648", x.cost(0, 0, 0, 1), 0);
        x = Given.pairBy("cost -(" + GREATEST + ")-1;cost -2;");
        Check.due("a COST of one less", x.cost(0, 0, 0, 1), 10000);
    }

    // "its place (a byte; the text's end: its length)"
    private static void placeAtTheEnd() {
        String[] tokens = "trait a ; bar not [ p . a == ( 1 ) ] or 1 < 2 ; cost 1 if 1 <= 2 ;".split(" ");
        StringBuilder text = new StringBuilder();
        for (String token : tokens) {
            text.append(token);
            dueSyntax(text.toString(), token.equals(";") ? NONE : text.length());
            text.append(" \t");
            dueSyntax(text.toString(), token.equals(";") ? NONE : text.length());
        }
    }

    // "FAULTS, the first by its place"
    private static void placeOfTheFirst() {
        Check.dueRead("? ?", SYNTAX, 0);
        Check.dueRead("cost 1;" + EIGHT_TRAITS + "trait j;", SYNTAX, 7);
        Check.dueRead(EIGHT_TRAITS + "trait j;?", ROOM, 64);
        Check.dueRead(EIGHT_TRAITS + "trait ?;", ROOM, 64);
        Check.dueRead("cost " + "(".repeat(9) + "?", ROOM, 13);
        Check.dueRead("cost " + "(".repeat(8) + "?" + "(", SYNTAX, 13);
        Check.dueRead("cost 1;".repeat(20) + "bar ?", ROOM, 140);
        Check.dueRead("cost 1;".repeat(19) + "bar ?;bar 1==1;", SYNTAX, 137);
        Check.dueRead("cost " + "(".repeat(9) + "1" + ")".repeat(9) + ";" + "cost 1;".repeat(20), ROOM, 13);
        Check.dueRead("cost 1;".repeat(20) + "cost " + "(".repeat(9), ROOM, 140);
    }

    // "2 ROOM: a 601st TOKEN"; "of one place the least"
    private static void tokens600() {
        String whole = "cost -1" + "+1".repeat(298) + ";";
        for (String last : new String[] {"", " ", "\n\t\r "}) {
            dueAtEnd(whole, last, 0);
        }
        for (String last : new String[] {"cost", "bar", "cost 1;", "bar ?", "cost 1;?"}) {
            dueAtEnd(whole, last, ROOM);
        }
        for (String last : new String[] {"trait a;", ";", "x", "1", "?", "abcdefghi", "12345", "=", "if"}) {
            dueAtEnd(whole, last, SYNTAX);
        }
        String broken = "cost 1" + "+1".repeat(299);
        dueAtEnd(broken, "", SYNTAX);
        for (String last : new String[] {";", "+", "-", "*", "if", "; cost", ";?"}) {
            dueAtEnd(broken, last, ROOM);
        }
        for (String last : new String[] {")", "==", "(", "?", "and"}) {
            dueAtEnd(broken, last, SYNTAX);
        }
        String of599 = "cost -1" + "+1".repeat(298);
        dueAtEnd(of599, "", SYNTAX);
        dueAtEnd(of599, "?", SYNTAX);
        dueAtEnd(of599, ")", SYNTAX);
        Check.dueRead(of599 + ";", 0, NONE);
        Check.dueRead(of599 + "   ;", 0, NONE);
        Check.dueRead(of599 + "+   ", SYNTAX, 607);
        Check.dueRead(of599 + "+   1;", ROOM, 607);
        Check.dueRead(of599 + "+   ;", SYNTAX, 607);
    }

    /** NAMES, words, and SIGNS of one byte or two count one each. */
    private static void tokensOfEachKind() {
        String names = "trait a;cost p.a" + "+p.a".repeat(148) + ";";
        Check.dueRead(names, 0, NONE);
        dueAtEnd(names, "bar", ROOM);
        dueAtEnd("trait a;cost -p.a" + "+p.a".repeat(148), ";", ROOM);
        String words = "bar -1==-1 or -1==1" + " or 1==1".repeat(147) + ";";
        Check.dueRead(words, 0, NONE);
        dueAtEnd(words, "cost", ROOM);
        dueAtEnd("bar -1!=-1 or -1<=-1" + " or 1<1".repeat(147), ";", ROOM);
        String brackets = "bar not[-1==-1]and -1<-1" + " and [1==(1)]".repeat(73) + ";";
        Check.dueRead(brackets, 0, NONE);
        dueAtEnd(brackets, "bar", ROOM);
    }

    // "a 9th trait .. (at that word)"
    private static void traits8() {
        Check.dueRead(EIGHT_TRAITS, 0, NONE);
        Check.dueRead(EIGHT_TRAITS + "cost p.a+h.i;", 0, NONE);
        for (String last : new String[] {"trait j;", "trait", "trait;", "trait ?", "trait a;", "trait p;"}) {
            dueAtEnd(EIGHT_TRAITS, last, ROOM);
        }
        dueAtEnd(EIGHT_TRAITS + " ", "trait j;", ROOM);
        dueAtEnd(EIGHT_TRAITS + "cost 1;", "trait j;", SYNTAX);
        Check.dueRead("trait a;".repeat(8), TWICE, 14);
        Check.dueRead("trait a;".repeat(9), ROOM, 64);
    }

    // "a 21st RULE (at that word)"
    private static void rules20() {
        for (String rule : new String[] {"cost 1;", "bar 1==2;", "cost 1 if 1==2;"}) {
            String whole = rule.repeat(20);
            HostYear x = Given.pairBy(whole);
            Check.due("RULES of slot 0", x.count(6), 20);
            Check.due("RULES of slot 1", x.count(7), 20);
            for (String last : new String[] {"cost 1;", "bar 1==1;", "cost", "bar", "cost ?", "bar;"}) {
                dueAtEnd(whole, last, ROOM);
                dueAtEnd(whole + " ", last, ROOM);
            }
            for (String last : new String[] {"trait a;", "if", ";", "cos", "?"}) {
                dueAtEnd(whole, last, SYNTAX);
            }
        }
        dueAtEnd("bar 1==1;".repeat(19) + "cost 1 ", "bar 1==1;", SYNTAX);
        Check.dueRead(EIGHT_TRAITS + "cost 1;bar 1==1;".repeat(10), 0, NONE);
        dueAtEnd(EIGHT_TRAITS + "cost 1;bar 1==1;".repeat(10), "cost 1;", ROOM);
    }

    // "a 9th that is open of ( [ and not (at it ..)": all that can stand in one another
    private static void openOfAllKinds() {
        for (int deep = 7; deep <= 10; deep++) {
            for (int outer = 0; outer <= deep; outer++) {
                for (int kinds = 0; kinds < 1 << outer; kinds++) {
                    dueOpen(deep, outer, kinds);
                }
            }
        }
        dueSyntax("cost " + "(".repeat(8) + "1" + ")".repeat(8) + ";", NONE);
        Check.dueRead("cost " + "(".repeat(9) + "1" + ")".repeat(9) + ";", ROOM, 13);
    }

    private static void dueOpen(int deep, int outer, int kinds) {
        StringBuilder text = new StringBuilder("bar ");
        StringBuilder tail = new StringBuilder();
        int ninth = NONE;
        for (int i = 0; i < deep; i++) {
            boolean isNot = i < outer && (kinds >> i & 1) == 1;
            ninth = i == 8 ? text.length() : ninth;
            text.append(i >= outer ? "(" : isNot ? "not " : "[");
            tail.insert(0, i >= outer || isNot ? "" : "]");
        }
        text.append("1").append(")".repeat(deep - outer)).append("==1").append(tail).append(";");
        Check.dueRead(text.toString(), ninth == NONE ? 0 : ROOM, ninth);
    }

    // "a not till its LIT is through"
    private static void openNots() {
        String[] through = {"bar not 1==1 and ", "bar not 1==1 or ", "bar not not not 1==1 and ", "bar not [1==1] and ",
            "bar [not 1==1] and ", "bar [not not 1==1 and not 1==1] or ", "bar not 1==1;bar ", "cost 1 if not 1==1;bar ",
            "bar not [not [not 1==1]or not 1==1]and not 1==(1) or "};
        for (String head : through) {
            Check.dueRead(head + EIGHT_BRACKETS + ";", 0, NONE);
            Check.dueRead(head + "[" + EIGHT_BRACKETS + "];", ROOM, head.length() + 8);
        }
        Check.dueRead("bar not 1==" + "(".repeat(7) + "1" + ")".repeat(7) + ";", 0, NONE);
        Check.dueRead("bar not 1==" + "(".repeat(8) + "1" + ")".repeat(8) + ";", ROOM, 18);
        Check.dueRead("bar not 1+2*" + "(".repeat(8) + "1" + ")".repeat(8) + "==1;", ROOM, 19);
        Check.dueRead("bar not 1==1+2*" + "(".repeat(8) + "1" + ")".repeat(8) + ";", ROOM, 22);
        Check.dueRead("bar [not 1==1 and " + "[".repeat(7) + "1==1" + "]".repeat(7) + "];", 0, NONE);
        Check.dueRead("bar not [1==1 and " + "[".repeat(7) + "1==1" + "]".repeat(7) + "];", ROOM, 24);
        Check.dueRead("bar not [1==1 and " + "[".repeat(6) + "1==1" + "]".repeat(6) + "];", 0, NONE);
        Check.dueRead("bar [[[[[[[1==1 and not 1==1]]]]]]];", 0, NONE);
        Check.dueRead("bar [[[[[[[1==1 and not not 1==1]]]]]]];", ROOM, 24);
        Check.dueRead("bar [[[[[[[not 1==1 and not 1==1 or not 1==1]]]]]]];", 0, NONE);
    }

    private static void openIsClosed() {
        String eight = "(".repeat(8) + "1" + ")".repeat(8);
        Check.dueRead("cost " + eight + "*" + eight + "+" + eight + "-" + eight + ";", 0, NONE);
        Check.dueRead("bar " + eight + "==" + eight + ";", 0, NONE);
        Check.dueRead("cost " + eight + " if " + EIGHT_BRACKETS + " and " + EIGHT_BRACKETS + ";", 0, NONE);
        Check.dueRead("cost " + eight + "+(" + eight + ");", ROOM, 31);
        Check.dueRead("bar " + EIGHT_BRACKETS + " or [" + EIGHT_BRACKETS + "];", ROOM, 36);
        // What a faulty text left open is not open in the next one.
        HostYear x = new HostYear();
        Check.due("a text that is cut", Check.read(x, 0, "cost " + "(".repeat(8)), SYNTAX);
        Check.due("the next one", Check.read(x, 0, "cost " + eight + ";"), 0);
        Check.due("a text without room", Check.read(x, 0, "bar [" + EIGHT_BRACKETS + "];"), ROOM);
        Check.due("the next one then", Check.read(x, 0, "bar " + EIGHT_BRACKETS + ";"), 0);
        Check.due("no room for a (", Check.read(x, 0, "cost -1" + "+1".repeat(298) + "+("), ROOM);
        Check.due("the next one behind it", Check.read(x, 0, "cost " + eight + ";"), 0);
    }

    // "of one place the least": what is a 9th or a 21st there, but cannot stand there at all
    private static void syntaxAheadOfRoom() {
        Check.dueRead("cost " + "(".repeat(8) + "1(", SYNTAX, 14);
        Check.dueRead("bar " + "[".repeat(8) + "1==1 [", SYNTAX, 17);
        Check.dueRead("bar " + "[".repeat(8) + "1==1 not", SYNTAX, 17);
        Check.dueRead("bar " + "not ".repeat(8) + "1==1 not 1==1;", SYNTAX, 41);
        Check.dueRead("bar " + "not ".repeat(8) + "1==[", SYNTAX, 39);
        Check.dueRead("bar " + "not ".repeat(7) + "(not", SYNTAX, 33);
        Check.dueRead(EIGHT_TRAITS + "trait", ROOM, 64);
        Check.dueRead(EIGHT_TRAITS.substring(0, 63) + " trait", SYNTAX, 64);
        Check.dueRead("cost 1;".repeat(19) + "cost 1 cost", SYNTAX, 140);
    }

    // "3 TWICE: a trait's NAME told already"
    private static void twice() {
        for (int second = 1; second < 8; second++) {
            for (int earlier = 0; earlier < second; earlier++) {
                String name = EIGHT_TRAITS.substring(8 * earlier, 8 * earlier + 8);
                String text = EIGHT_TRAITS.substring(0, 8 * second) + name + EIGHT_TRAITS.substring(8 * second + 8);
                Check.dueRead(text, TWICE, 8 * second + 6);
            }
        }
        Check.dueRead("trait a;trait b;trait b;trait a;", TWICE, 22);
        Check.dueRead("trait a;trait  \n a;", TWICE, 17);
        Check.dueRead("trait a;trait aa;trait a1;", 0, NONE);
        // Told in another text is not told already.
        HostYear x = new HostYear();
        Check.due("a trait in slot 0", Check.read(x, 0, "trait a;"), 0);
        Check.due("and in slot 1", Check.read(x, 1, "trait a;"), 0);
        Check.due("and once more", Check.read(x, 0, "trait a;"), 0);
        Check.due("twice in one", Check.read(x, 0, "trait a;trait a;"), TWICE);
        Check.due("and behind that once", Check.read(x, 0, "trait a;"), 0);
    }

    // "4 NAME: no trait told so"
    private static void untold() {
        Check.dueRead("cost p.a;", UNTOLD, 7);
        Check.dueRead("cost h.a;", UNTOLD, 7);
        Check.dueRead("trait a;bar 1<h.b;", UNTOLD, 16);
        Check.dueRead("trait a;cost 1 if p.a==h.aa;", UNTOLD, 25);
        Check.dueRead("trait a;bar not[1==(p . b)];cost p.c;", UNTOLD, 24);
        Check.dueRead("trait b;cost p.b;cost h.b;cost h.c;", UNTOLD, 33);
        HostYear x = new HostYear();
        Check.read(x, 0, "trait a;");
        Check.due("told in the other slot", Check.read(x, 1, "cost p.a;"), UNTOLD);
        Check.due("told in the slot's last text", Check.read(x, 0, "cost p.a;"), UNTOLD);
        Check.read(x, 0, "trait a;trait a;");
        Check.due("told in a faulty text", Check.read(x, 0, "cost p.a;"), UNTOLD);
    }

    // "If there is none, likewise": the faults 3 and 4 only without 1 and 2, then by their place
    private static void lateFaultsAreLate() {
        Check.dueRead("trait a;trait a;cost p.b", SYNTAX, 24);
        Check.dueRead("trait a;trait a;cost p.b;?", SYNTAX, 25);
        Check.dueRead("trait a;trait a;cost p.b;" + "cost 1;".repeat(20), ROOM, 25 + 19 * 7);
        Check.dueRead("cost p.b" + "+p.b".repeat(149) + ";", ROOM, 8 + 149 * 4);
        Check.dueRead("cost p.b" + "+p.b".repeat(148) + ";", UNTOLD, 7);
        Check.dueRead("cost p.b+" + "(".repeat(9), ROOM, 17);
        Check.dueRead("trait a;trait a;cost p.b;", TWICE, 14);
        Check.dueRead("trait a;trait b;cost p.c+p.d;", UNTOLD, 23);
    }

    // "A text with a FAULT changes nothing; else it is the slot's."
    private static void faultsChangeNothing() {
        String[] faulty = {"trait q;cost 7;cost 8;cost 9", "trait q;" + "cost 7;".repeat(21), "trait q;trait q;cost 7;",
            "trait q;cost 7+p.z;"};
        for (int fault = 1; fault <= 4; fault++) {
            for (int slot = 0; slot <= 1; slot++) {
                HostYear x = Given.pairBy("trait a;trait b;cost p.b*10+h.a;bar h.b==3;");
                x.tell(0, 11, 5);
                x.tell(1, 10, 2);
                Check.due("the fault", Check.read(x, slot, faulty[fault - 1]), fault);
                Check.due("the tape is empty", x.count(8), 0);
                for (int either = 0; either <= 1; either++) {
                    Check.due("RULES", x.count(6 + either), 2);
                    Check.due("COST", x.cost(either, 0, 0, 1), 53);
                }
                x.tell(1, 11, 3);
                Check.due("WHY", x.why(slot, 0, 0, 1), 11);
                Check.due("a text without", Check.read(x, slot, "trait b;cost h.b;"), 0);
                Check.due("no place", x.place(), NONE);
                Check.due("is the slot's", x.cost(slot, 0, 0, 1), 3);
                Check.due("and not the other's", x.why(1 - slot, 0, 0, 1), 11);
            }
        }
    }

    /** "else it is the slot's": nothing of an earlier text is left, of more RULES or longer ones. */
    private static void textsOneAfterAnother() {
        String[] texts = {"bar 1==1;bar 1==1;cost 5;", "cost 1+2*3-4;cost 5 if 1==2;cost 6;", "", "cost 7;", "bar 1==2;cost 8;",
            "trait a;trait b;cost p.b;cost 1;", "cost 9 if 1==1;", "trait b;cost p.b;", "bar 2==2;", "", "cost 3;bar 1==2;"};
        int[] cost = {NONE, 10, 1, 8, 9, 22, 10, 11, NONE, 1, 4};
        for (int slots = 1; slots <= 2; slots++) {
            HostYear x = Given.wishing(2, 0, 1, 1);
            x.tell(0, 10, 10);
            x.tell(0, 11, 20);
            for (int i = 0; i < 3 * texts.length; i++) {
                int k = i % texts.length;
                int slot = slots == 1 ? 1 : i % 2;
                Check.due("read of <" + texts[k] + ">", Check.read(x, slot, texts[k]), 0);
                Check.due("COST by <" + texts[k] + ">", x.cost(slot, 0, 0, 1), cost[k]);
                Check.due("WHY by <" + texts[k] + ">", x.why(slot, 0, 0, 1), cost[k] == NONE ? 10 : 0);
            }
        }
    }

    private static void longTextsOneAfterAnother() {
        HostYear x = Given.wishing(2, 0, 1, 1);
        for (int i = 0; i < 7; i++) {
            Check.due("a text of 600 TOKENS", Check.read(x, 0, "cost -1" + "+1".repeat(298) + ";"), 0);
            Check.due("its COST", x.cost(0, 0, 0, 1), 298);
        }
        for (int i = 0; i < 3; i++) {
            Check.due("a short one", Check.read(x, 0, "cost 4;"), 0);
            Check.due("its COST", x.cost(0, 0, 0, 1), 5);
        }
    }

    // "RULES are numbered from 0 on."
    private static void rulesByNumber() {
        StringBuilder bars = new StringBuilder("trait t;");
        StringBuilder costs = new StringBuilder("trait t;");
        for (int k = 0; k < 20; k++) {
            bars.append("bar p.t==").append(k).append(";");
            costs.append(k % 2 == 0 ? "cost 1;" : "bar p.t<=" + k + ";");
        }
        HostYear x = Given.pairBy(bars.toString());
        Check.due("RULE 0", x.why(0, 0, 0, 1), 10);
        for (int k = 1; k <= 20; k++) {
            x.tell(0, 10, k);
            Check.due("RULE " + k, x.why(1, 0, 0, 1), k == 20 ? 0 : 10 + k);
        }
        x = Given.pairBy(costs.toString());
        for (int k = 0; k <= 20; k++) {
            x.tell(0, 10, k);
            Check.due("the first bar for " + k, x.why(0, 0, 0, 1), k == 20 ? 0 : 10 + (k | 1));
        }
        Check.due("ten costs", x.cost(0, 0, 0, 1), 11);
    }
}
