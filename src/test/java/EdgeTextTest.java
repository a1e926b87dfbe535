/** "Terms", on the town's text: each sentence that names a boundary has a test of its own, in the document's order. */
public final class EdgeTextTest {
    private static final String FOUR_ROUNDS = "streets 2;round: 0;round: 0;round: 0;round: 0;";
    private static final String EIGHT_PEOPLE = "streets 2;person 0 1;person 1 9;person 0 1;person 0 1;"
        + "person 0 1;person 0 1;person 0 1;person 1 2;";

    public static void main(String[] args) {
        atMost900Bytes();
        withoutOne();
        noLinesOrMore();
        backOrNot();
        byOrNot();
        oneStreetOrMore();
        everyLineEnds();
        truths();
        sums();
        sixWithinOneAnother();
        sixSideBySide();
        streetsFrom1To20();
        namesAreAsMany();
        atFirstTheSignWithItsNumber();
        unlikeStreets();
        byFrom1To9();
        fourRounds();
        blindIsAStreet();
        aPersonsHouse();
        eightPeople();
        signOnAStreet();
        housesFrom1To99();
        housesAheadOfAllPeople();
        laterOnesStrike();
        tokensAsLongAsTheyGo();
        blanksAreTwo();
        wordsOfSmallLetters();
        oneToThreeDigits();
        theSigns();
        theFirstAlongTheText();
        theLeastKindOfOneToken();
        noTokenBeginsSo();
        fourDigitsAndMore();
        itCantStandThere();
        theEnd();
        streetsFirstAndOnce();
        housesBehindAPerson();
        outOfItsBounds();
        inThatRoundAlready();
        theFirstTokenOfTheFifth();
        theSeventh();
        Check.end("EdgeTextTest");
    }

    private static void atMost900Bytes() {
        Check.says("THE TOWN is a TEXT of at most 900 bytes");
        StringBuilder text = new StringBuilder("streets 20;");
        for (int i = 0; i < 88; i++) text.append("sign 0 19;");
        text.append("blind 19;");
        MovingNames x = new MovingNames();
        Check.feed(x, text.toString());
        Check.due("on the tape", x.count(10), 900);
        Check.due("town(900)", x.town(900), 90);
        Check.due("the last line", x.street(19, 1), 1);
        Check.feed(x, text.toString());
        Check.due("town(899)", x.town(899), -12);
        Check.due("its end", x.fault(1), 899);
    }

    private static void withoutOne() {
        Check.says("(without one: no STREETS, 9 HOUSES)");
        MovingNames x = new MovingNames();
        Check.due("streets", x.count(1), 0);
        Check.due("houses", x.count(4), 9);
        Check.due("lines", x.count(0), 0);
        Check.due("a town that tells no houses", Check.dueLines("streets 1;", 1).count(4), 9);
    }

    private static void noLinesOrMore() {
        Check.says("streets N ; { LINE ; }");
        Check.dueLines("streets 1;", 1);
        Check.dueLines("streets 1;blind 0;", 2);
        Check.dueLines("streets 1;blind 0;blind 0;", 3);
        Check.dueFault("streets;", 2, 7);
        Check.dueFault("streets 1;;", 2, 10);
        Check.dueFault("streets 1 blind 0;", 2, 10);
    }

    private static void backOrNot() {
        Check.says("round [ back ]");
        Check.due("without", Check.dueLines("streets 3;round: 0 1 2;", 2).goesTo(0, 1), 1);
        Check.due("with", Check.dueLines("streets 3;round back: 0 1 2;", 2).goesTo(0, 1), 2);
        Check.dueFault("streets 3;round back back: 0 1 2;", 2, 21);
        Check.dueFault("streets 3;round by 2 back: 0 1 2;", 2, 21);
    }

    private static void byOrNot() {
        Check.says("[ by N ]");
        Check.due("without", Check.dueLines("streets 4;round: 0 1 2 3;", 2).goesTo(0, 1), 1);
        Check.due("with", Check.dueLines("streets 4;round by 2: 0 1 2 3;", 2).goesTo(0, 1), 2);
        Check.due("with both", Check.dueLines("streets 4;round back by 3: 0 1 2 3;", 2).goesTo(0, 1), 1);
        Check.dueFault("streets 4;round by : 0;", 2, 19);
        Check.dueFault("streets 4;round by 2 by 2: 0;", 2, 21);
        Check.dueFault("streets 4;round 2: 0;", 2, 16);
    }

    private static void oneStreetOrMore() {
        Check.says(": N { N }");
        Check.due("one", Check.dueLines("streets 3;round: 2;", 2).round(0, 0), 1);
        Check.due("all", Check.dueLines(Check.ring(20), 2).round(0, 0), 20);
        Check.dueFault("streets 3;round:;", 2, 16);
        Check.dueFault("streets 3;round: ", 2, 17);
        Check.dueFault("streets 3;round 0;", 2, 16);
        Check.dueFault("streets 3;round: 0 1:", 2, 20);
    }

    private static void everyLineEnds() {
        Check.says("{ LINE ; }");
        String[] lines = {"round: 0", "blind 0", "person 0 1", "sign 0 1", "houses 5", "rest 1=2"};
        for (String line : lines) {
            Check.dueLines("streets 2;" + line + ";", 2);
            Check.dueFault("streets 2;" + line, 2, 10 + line.length());
            Check.dueFault("streets 2;" + line + ":", 2, 10 + line.length());
            Check.dueFault("streets 2;" + line + " back;", 2, 11 + line.length());
        }
        Check.dueFault("streets 2;blind;", 2, 15);
        Check.dueFault("streets 2;blind 0 1;", 2, 18);
        Check.dueFault("streets 2;person 0;", 2, 18);
        Check.dueFault("streets 2;person;", 2, 16);
        Check.dueFault("streets 2;person 0 1 1;", 2, 21);
        Check.dueFault("streets 2;sign 0;", 2, 16);
        Check.dueFault("streets 2;sign;", 2, 14);
        Check.dueFault("streets 2;sign 0 1 1;", 2, 19);
        Check.dueFault("streets 2;houses;", 2, 16);
        Check.dueFault("streets 2;houses 5 5;", 2, 19);
        Check.dueFault("streets 2;rest;", 2, 14);
    }

    private static void dueRests(String truth, boolean want) {
        MovingNames x = Check.town("streets 5;sign 0 1;sign 2 3;person 0 1;person 1 1;person 2 1;rest " + truth + ";");
        Check.due("rest " + truth, x.rests(), want);
    }

    private static void truths() {
        Check.says("TRUTH: BOTH { or BOTH }; BOTH: UNIT { and UNIT }; UNIT: not UNIT, [ TRUTH ], or SUM, one of = < >, SUM");
        dueRests("1=1 or 1=2 or 1=2", true);
        dueRests("1=2 or 1=2 or 1=1", true);
        dueRests("1=2 or 1=2 or 1=2", false);
        dueRests("1=1 and 1=1 and 1=1", true);
        dueRests("1=1 and 1=1 and 1=2", false);
        dueRests("1=2 and 1=1 and 1=1", false);
        dueRests("1=1 or 1=2 and 1=2", true);
        dueRests("1=2 and 1=2 or 1=1", true);
        dueRests("not 1=1 or 1=1", true);
        dueRests("not 1=1 and 1=2", false);
        dueRests("not [1=1 and 1=2]", true);
        dueRests("0<1", true);
        dueRests("1<1", false);
        dueRests("1>0", true);
        dueRests("1>1", false);
        dueRests("0<1 and 1=1 and 1>0 and 0<1", true);
        dueRests("not 0<1 or not 1>0 or not 1=1", false);
        Check.dueFault("streets 2;rest 1=1 or;", 2, 21);
        Check.dueFault("streets 2;rest 1=1 and;", 2, 22);
        Check.dueFault("streets 2;rest not;", 2, 18);
        Check.dueFault("streets 2;rest [];", 2, 16);
        Check.dueFault("streets 2;rest [1=1;", 2, 19);
        Check.dueFault("streets 2;rest 1=1];", 2, 18);
        Check.dueFault("streets 2;rest 1;", 2, 16);
        Check.dueFault("streets 2;rest 1=;", 2, 17);
        Check.dueFault("streets 2;rest =1;", 2, 15);
        Check.dueFault("streets 2;rest 1=1=1;", 2, 18);
        Check.dueFault("streets 2;rest 1<>1;", 2, 17);
        Check.dueFault("streets 2;rest 1=1 not 1=1;", 2, 19);
    }

    private static void sums() {
        Check.says("SUM: TERM { + TERM | - TERM }; TERM: ATOM { * ATOM }; ATOM: N, day, week, moved, people, wrong, ( SUM )");
        dueRests("1+2+3=6", true);
        dueRests("9-3-2=4", true);
        dueRests("9-(3-2)=8", true);
        dueRests("2+3*4=14", true);
        dueRests("2*3+4=10", true);
        dueRests("(2+3)*4=20", true);
        dueRests("2*3*4=24", true);
        dueRests("day+week+moved=0", true);
        dueRests("people=3", true);
        dueRests("wrong=4", true);
        dueRests("people*wrong-people=9", true);
        dueRests("000=0 and 007=7 and 999=999", true);
        Check.dueFault("streets 2;rest 1+=1;", 2, 17);
        Check.dueFault("streets 2;rest 1-=1;", 2, 17);
        Check.dueFault("streets 2;rest 1*=1;", 2, 17);
        Check.dueFault("streets 2;rest -1=1;", 2, 15);
        Check.dueFault("streets 2;rest 1--1=1;", 2, 17);
        Check.dueFault("streets 2;rest ()=1;", 2, 16);
        Check.dueFault("streets 2;rest (1=1;", 2, 17);
        Check.dueFault("streets 2;rest 1=(1;", 2, 19);
        Check.dueFault("streets 2;rest 1=1);", 2, 18);
        Check.dueFault("streets 2;rest (1=1);", 2, 17);
        Check.dueFault("streets 2;rest [1]=1;", 2, 17);
        Check.dueFault("streets 2;rest 1=[1];", 2, 17);
        Check.dueFault("streets 2;rest 1 1=1;", 2, 17);
        Check.dueFault("streets 2;rest houses=1;", 2, 15);
        Check.dueFault("streets 2;rest days=1;", 2, 15);
        Check.dueFault("streets 2;rest 1=d;", 2, 17);
        Check.dueFault("streets 2;rest 1=1+nights;", 2, 19);
    }

    private static void sixWithinOneAnother() {
        Check.says("At most six of not [ ( within one another");
        dueRests("not not not not not not 1=1", true);
        dueRests("[[[[[[1=1]]]]]]", true);
        dueRests("((((((1))))))=1", true);
        dueRests("1=((((((1))))))", true);
        dueRests("not [not [not (1)=1]]", false);
        dueRests("not [not [1=((1))]]", true);
        dueRests("1=2 or 1=1 and [1=2 or 1=1 and [1=2 or 1=1 and [1=2 or 1=1 and "
            + "[1=2 or 1=1 and [1=2 or 1=1 and [7=1+2*3]]]]]]", true);
        dueRests("1=2 or 1=1 and 1+2*(1+2*(1+2*(1+2*(1+2*(1+2*(1+2*3))))))=999-488", true);
        dueRests("1=2 or 1=1 and 999-488=1+2*(1+2*(1+2*(1+2*(1+2*(1+2*(1+2*3))))))", true);
    }

    private static void sixSideBySide() {
        Check.says("(six) within one another: what is closed no more counts");
        dueRests("[[[[[[1=1]]]]]] and [[[[[[1=1]]]]]]", true);
        dueRests("((((((1))))))=((((((1))))))", true);
        dueRests("((((((1))))))+((((((1))))))*((((((1))))))=2", true);
        dueRests("not not not not not not 1=1 and not not not not not not 1=1", true);
        dueRests("not not not not not not 1=2 or ((((((1))))))=1", true);
        dueRests("[[[[[not 1=2 and (1)=1 or not 1=1]]]]]", true);
        Check.dueFault("streets 2;rest [[[[[[1=1]]]]]] and [[[[[[[1=1]]]]]]];", 4, 41);
    }

    private static void streetsFrom1To20() {
        Check.says("streets: 1 to 20, numbered from 0 on");
        Check.dueFault("streets 0;", 3, 8);
        Check.due("one", Check.dueLines("streets 1;", 1).count(1), 1);
        MovingNames x = Check.dueLines("streets 20;", 1);
        Check.due("twenty", x.count(1), 20);
        Check.due("the first", x.street(0, 0), 0);
        Check.due("the last", x.street(19, 0), 19);
        Check.dueThrow("street(20, 0)", Check.NO_SUCH, () -> x.street(20, 0));
        Check.dueFault("streets 21;", 3, 8);
        Check.dueFault("streets 999;", 3, 8);
    }

    private static void namesAreAsMany() {
        Check.says("NAMES are numbers, too, as many");
        MovingNames x = Check.dueLines("streets 3;sign 0 2;", 2);
        Check.due("the last", x.where(2), 5);
        Check.dueThrow("where(3)", Check.NO_SUCH, () -> x.where(3));
        Check.dueThrow("where(-1)", Check.NO_SUCH, () -> x.where(-1));
        Check.dueFault("streets 3;sign 0 3;", 3, 17);
    }

    private static void atFirstTheSignWithItsNumber() {
        Check.says("at first on each STREET hangs the SIGN with its number");
        MovingNames x = Check.dueLines("streets 20;", 1);
        for (int s = 0; s < 20; s++) Check.due("street " + s, x.street(s, 0), s);
        Check.tell(x, "streets 4;sign 0 1;sign 3 2;");
        Check.tell(x, "streets 4;");
        Check.dueNames("a later town", x, 0, 1, 2, 3);
    }

    private static void unlikeStreets() {
        Check.says("round: unlike STREETS, one behind the other");
        Check.dueFault("streets 3;round: 0 1 0;", 3, 21);
        Check.dueFault("streets 3;round: 2 2;", 3, 19);
        MovingNames x = Check.dueLines("streets 3;round: 2 0 1;", 2);
        Check.due("as told: 2", x.round(0, 10), 2);
        Check.due("as told: 0", x.round(0, 11), 0);
        Check.due("as told: 1", x.round(0, 12), 1);
        Check.due("the last goes to the first", x.goesTo(1, 1), 2);
    }

    private static void byFrom1To9() {
        Check.says("by 1 to 9 (1)");
        Check.dueFault("streets 3;round by 0: 0;", 3, 19);
        Check.due("1", Check.dueLines("streets 3;round by 1: 0;", 2).round(0, 1), 1);
        Check.due("9", Check.dueLines("streets 3;round by 9: 0;", 2).round(0, 1), 9);
        Check.dueFault("streets 3;round by 10: 0;", 3, 19);
        Check.dueFault("streets 3;round back by 10: 0;", 3, 24);
        Check.due("without", Check.dueLines("streets 3;round back: 0;", 2).round(0, 1), 1);
    }

    private static void fourRounds() {
        Check.says("4 ROUNDS at most");
        MovingNames x = Check.dueLines(FOUR_ROUNDS, 5);
        Check.due("four", x.count(2), 4);
        Check.due("the last", x.round(3, 0), 1);
        Check.dueThrow("round(4, 0)", Check.NO_SUCH, () -> x.round(4, 0));
        Check.dueFault(FOUR_ROUNDS + "round: 1;", 4, FOUR_ROUNDS.length());
    }

    private static void blindIsAStreet() {
        Check.says("blind: a STREET");
        Check.due("the first", Check.dueLines("streets 3;blind 0;", 2).street(0, 1), 1);
        Check.due("the last", Check.dueLines("streets 3;blind 2;", 2).street(2, 1), 1);
        Check.due("told twice", Check.dueLines("streets 3;blind 2;blind 2;", 3).count(7), 1);
        Check.dueFault("streets 3;blind 3;", 3, 16);
    }

    private static void aPersonsHouse() {
        Check.says("person: the STREET, the HOUSE (1 to HOUSES) where it lives");
        Check.dueFault("streets 3;person 0 0;", 3, 19);
        Check.due("house 1", Check.dueLines("streets 3;person 0 1;", 2).person(0, 1), 1);
        Check.due("house 9", Check.dueLines("streets 3;person 2 9;", 2).person(0, 1), 9);
        Check.due("its street", Check.dueLines("streets 3;person 2 9;", 2).person(0, 0), 2);
        Check.dueFault("streets 3;person 0 10;", 3, 19);
        Check.dueFault("streets 3;person 3 1;", 3, 17);
        Check.due("house 12 of 12", Check.dueLines("streets 3;houses 12;person 0 12;", 3).person(0, 1), 12);
        Check.dueFault("streets 3;houses 12;person 0 13;", 3, 29);
    }

    private static void eightPeople() {
        Check.says("8 at most, numbered from 0 on as they come");
        MovingNames x = Check.dueLines(EIGHT_PEOPLE, 9);
        Check.due("eight", x.count(3), 8);
        Check.due("the second", x.person(1, 1), 9);
        Check.due("the last", x.person(7, 1), 2);
        Check.dueThrow("person(8, 0)", Check.NO_SUCH, () -> x.person(8, 0));
        Check.dueFault(EIGHT_PEOPLE + "person 0 1;", 4, EIGHT_PEOPLE.length());
    }

    private static void signOnAStreet() {
        Check.says("sign: on a STREET hangs that NAME");
        Check.dueNames("the first and last", Check.dueLines("streets 3;sign 2 0;sign 0 2;", 3), 2, 1, 0);
        Check.dueFault("streets 3;sign 3 0;", 3, 15);
        Check.dueFault("streets 3;sign 0 3;", 3, 17);
    }

    private static void housesFrom1To99() {
        Check.says("houses: 1 to 99");
        Check.dueFault("streets 3;houses 0;", 3, 17);
        Check.due("1", Check.dueLines("streets 3;houses 1;", 2).count(4), 1);
        Check.due("99", Check.dueLines("streets 3;houses 99;", 2).count(4), 99);
        Check.dueFault("streets 3;houses 100;", 3, 17);
    }

    private static void housesAheadOfAllPeople() {
        Check.says("(houses:) ahead of all people");
        Check.due("behind other lines", Check.dueLines("streets 3;blind 0;sign 0 1;round: 0;rest 1=2;houses 5;person 0 5;", 7).count(4), 5);
        Check.dueFault("streets 3;person 0 1;houses 5;", 2, 21);
        Check.dueFault("streets 3;person 0 1;houses 9;", 2, 21);
    }

    private static void laterOnesStrike() {
        Check.says("Later ones of sign, houses, rest strike");
        Check.due("sign", Check.dueLines("streets 3;sign 0 2;sign 0 1;", 3).street(0, 0), 1);
        Check.due("houses", Check.dueLines("streets 3;houses 5;houses 7;", 3).count(4), 7);
        Check.due("rest", Check.dueLines("streets 3;rest 1=1;rest 1=2;", 3).rests(), false);
        Check.due("rest again", Check.dueLines("streets 3;rest 1=2;rest 1=1;", 3).rests(), true);
        Check.due("a longer law is gone", Check.dueLines("streets 3;rest 1=1 or 1=1 or 1=1;rest 1=2;", 3).rests(), false);
    }

    private static void tokensAsLongAsTheyGo() {
        Check.says("TOKENS, as long as they go");
        Check.dueFault("streets 2;roundback: 0;", 2, 10);
        Check.dueFault("streets 2;round backby 2: 0;", 2, 16);
        Check.dueFault("streetss 2;", 2, 0);
        Check.due("12 is one", Check.dueLines("streets 12;", 1).count(1), 12);
        Check.dueFault("streets 1 2;", 2, 10);
        Check.dueLines("streets 2;round:0 1;", 2);
        Check.due("no blanks", Check.dueLines("streets 2;rest not[1=2]and(1)=1;", 2).rests(), true);
    }

    private static void blanksAreTwo() {
        Check.says("between them blanks (10, 32)");
        Check.dueLines("\n \nstreets \n 2\n;\n\nblind\n0 ; \n", 2);
        Check.dueFault("streets\t2;", 1, 7);
        Check.dueFault("streets\r2;", 1, 7);
        Check.dueFault("streets\u00002;", 1, 7);
        Check.dueFault("streets\u000b2;", 1, 7);
        Check.dueFault("streets!2;", 1, 7);
        Check.dueFault("streets\u00a02;", 1, 7);
    }

    private static void wordsOfSmallLetters() {
        Check.says("words (small letters)");
        Check.dueFault("Streets 2;", 1, 0);
        Check.dueFault("stReets 2;", 2, 0);
        Check.dueFault("streets 2;BLIND 0;", 1, 10);
        Check.dueFault("streets 2;a;", 2, 10);
        Check.dueFault("streets 2;z;", 2, 10);
        Check.dueFault("streets 2;blindz 0;", 2, 10);
        Check.dueFault("streets 2;blind 0z;", 2, 17);
        Check.dueFault("streets 2;Z", 1, 10);
        Check.dueFault("streets 2;`", 1, 10);
        Check.dueFault("streets 2;{", 1, 10);
        Check.dueFault("streets 2;\u00e4", 1, 10);
        Check.dueFault("streets 2;\u00ff", 1, 10);
    }

    private static void oneToThreeDigits() {
        Check.says("N (1 to 3 digits)");
        Check.due("one", Check.dueLines("streets 7;", 1).count(1), 7);
        Check.due("two", Check.dueLines("streets 07;", 1).count(1), 7);
        Check.due("of each digit", Check.dueLines("streets 3;rest 123+456+789=980+388;", 2).rests(), true);
        Check.due("three", Check.dueLines("streets 007;", 1).count(1), 7);
        Check.dueFault("streets 0007;", 1, 8);
        Check.dueLines("streets 7;rest 999=1;", 2);
        Check.dueFault("streets 7;rest 1000=1;", 1, 15);
    }

    private static void theSigns() {
        Check.says("the signs ; : + - * ( ) [ ] = < >");
        String none = "!\"#$%&',./?@\\^_`{|}~\u007f\u0080\u0001";
        for (int i = 0; i < none.length(); i++) Check.dueFault("streets 2;" + none.charAt(i), 1, 10);
        String signs = ";:+-*()[]=<>";
        for (int i = 0; i < signs.length(); i++) Check.dueFault("streets 2;" + signs.charAt(i), 2, 10);
    }

    private static void theFirstAlongTheText() {
        Check.says("FAULTS, the first along the text");
        Check.dueFault("streets 2;blind 9;A", 3, 16);
        Check.dueFault("streets 2;blind A;blind 9;", 1, 16);
        Check.dueFault("streets 2;blind blind;blind 9;A", 2, 16);
        Check.dueFault("streets 21;streets 2;", 3, 8);
        Check.dueFault("streets 2;round: 5 12345;", 3, 17);
        Check.dueFault("streets 2;person 2 10;", 3, 17);
        Check.dueFault(FOUR_ROUNDS + "round: 7 A", 4, FOUR_ROUNDS.length());
    }

    private static void theLeastKindOfOneToken() {
        Check.says("(FAULTS,) of one TOKEN the least kind");
        Check.dueFault("streets 2;blind 1234;", 1, 16);
        Check.dueFault("streets 2;1234", 1, 10);
        Check.dueFault("streets 2;99;", 2, 10);
        Check.dueFault("streets 2;round: 0 1:99;", 2, 20);
        Check.dueFault(FOUR_ROUNDS + "blind round: 0;", 2, FOUR_ROUNDS.length() + 6);
        Check.dueFault(EIGHT_PEOPLE + "blind person 0 1;", 2, EIGHT_PEOPLE.length() + 6);
        Check.dueFault("streets 2;rest [[[[[[1=1 not 1=1]]]]]];", 2, 25);
        Check.dueFault("streets 2;rest [[[[[[1=1(1)]]]]]];", 2, 24);
        Check.dueFault("streets 2;rest ((((((1[1))))))=1;", 2, 22);
    }

    private static void noTokenBeginsSo() {
        Check.says("1 no TOKEN begins so");
        Check.dueFault("A", 1, 0);
        Check.dueFault("  \n,", 1, 3);
        Check.dueFault("streets 2,", 1, 9);
        Check.dueFault("streets 2;rest 1/1=1;", 1, 16);
        Check.dueFault("streets 2;round: 0,1;", 1, 18);
        Check.dueFault("streets 2; ;A", 2, 11);
    }

    private static void fourDigitsAndMore() {
        Check.says("(4 digits and more: at their first)");
        Check.dueFault("streets 0002;", 1, 8);
        Check.dueFault("streets 12345678901234567890;", 1, 8);
        Check.dueFault("streets 2;sign 0  0001;", 1, 18);
        Check.dueFault("1234", 1, 0);
        MovingNames x = new MovingNames();
        Check.feed(x, "streets 2;sign 0 1234");
        Check.due("three of them are told", x.town(20), -13);
        Check.due("where they begin", x.fault(1), 17);
    }

    private static void itCantStandThere() {
        Check.says("2 it can't stand there");
        Check.dueFault("blind 0;", 2, 0);
        Check.dueFault(";", 2, 0);
        Check.dueFault("2;", 2, 0);
        Check.dueFault("streets streets;", 2, 8);
        Check.dueFault("streets 2 ;back;", 2, 11);
        Check.dueFault("streets 2;by 2;", 2, 10);
        Check.dueFault("streets 2;day;", 2, 10);
        Check.dueFault("streets 2;blind day;", 2, 16);
        Check.dueFault("streets 2;round: 0 back;", 2, 19);
        Check.dueFault("streets 2;round: 0-1;", 2, 18);
    }

    private static void theEnd() {
        Check.says("(the end: the text's length;)");
        Check.dueFault("", 2, 0);
        Check.dueFault(" ", 2, 1);
        Check.dueFault("streets", 2, 7);
        Check.dueFault("streets 2", 2, 9);
        Check.dueFault("streets 2 \n ", 2, 12);
        Check.dueFault("streets 2;blind 1", 2, 17);
        Check.dueFault("streets 2;round: 0 1   ", 2, 23);
        MovingNames x = new MovingNames();
        Check.feed(x, "streets 2;blind 1;");
        Check.due("town(13)", x.town(13), -12);
        Check.due("a word cut off", x.fault(1), 10);
        Check.feed(x, "streets 2;blind 1;");
        Check.due("town(15)", x.town(15), -12);
        Check.due("the end of what is told", x.fault(1), 15);
        Check.feed(x, "streets 12;");
        Check.due("town(9)", x.town(9), -12);
        Check.due("the end within a number", x.fault(1), 9);
    }

    private static void streetsFirstAndOnce() {
        Check.says("streets must be told first, and once");
        Check.dueFault("houses 3;streets 2;", 2, 0);
        Check.dueFault("rest 1=1;streets 2;", 2, 0);
        Check.dueFault("streets 2;streets 2;", 2, 10);
        Check.dueFault("streets 2;blind 0;streets 3;", 2, 18);
    }

    private static void housesBehindAPerson() {
        Check.says("houses behind a person: at its first TOKEN");
        Check.dueFault("streets 2;person 0 1; houses 5;", 2, 22);
        Check.dueFault("streets 2;houses 5;person 0 1;houses 0;", 2, 30);
        Check.dueFault("streets 2;person 0 1;houses A;", 2, 21);
        Check.dueFault("streets 2;person 0 1;blind 0;houses 5;", 2, 29);
    }

    private static void outOfItsBounds() {
        Check.says("3 N is out of its bounds");
        Check.dueFault("streets 1;blind 1;", 3, 16);
        Check.dueFault("streets 1;round: 1;", 3, 17);
        Check.dueFault("streets 20;blind 20;", 3, 17);
        Check.dueFault("streets 20;round: 19 20;", 3, 21);
        Check.dueFault("streets 20;person 20 1;", 3, 18);
        Check.dueFault("streets 20;sign 20 0;", 3, 16);
        Check.dueFault("streets 20;sign 0 20;", 3, 18);
        Check.dueLines("streets 20;round: 19;blind 19;person 19 9;sign 19 19;", 5);
    }

    private static void inThatRoundAlready() {
        Check.says("(also a STREET that is in that ROUND already)");
        Check.dueFault("streets 4;round: 1 2 3 1;", 3, 23);
        Check.dueFault("streets 4;round: 1 2 3 3;", 3, 23);
        Check.dueFault(Check.ring(20).replace(";round", ";round by 1").replace("19;", "19 0;"), 3, 73);
        Check.dueLines("streets 4;round: 1 2;round: 2 1;", 3);
        Check.dueFault("streets 4;round: 1 2;round: 3 1 3;", 3, 32);
    }

    private static void theFirstTokenOfTheFifth() {
        Check.says("4 the first TOKEN of a 5th round, a 9th person");
        Check.dueFault(FOUR_ROUNDS + "blind 1;  round", 4, FOUR_ROUNDS.length() + 10);
        Check.dueFault(FOUR_ROUNDS + "round;", 4, FOUR_ROUNDS.length());
        Check.dueFault(EIGHT_PEOPLE + "blind 1;\nperson", 4, EIGHT_PEOPLE.length() + 9);
        Check.dueFault(EIGHT_PEOPLE + "person 9 0;", 4, EIGHT_PEOPLE.length());
        Check.dueLines(FOUR_ROUNDS + EIGHT_PEOPLE.substring(10), 13);
    }

    private static void theSeventh() {
        Check.says("(4) a seventh of not [ (");
        Check.dueFault("streets 2;rest not not not not not not not 1=1;", 4, 39);
        Check.dueFault("streets 2;rest [[[[[[[1=1]]]]]]];", 4, 21);
        Check.dueFault("streets 2;rest (((((((1)))))))=1;", 4, 21);
        Check.dueFault("streets 2;rest 1=(((((((1)))))));", 4, 23);
        Check.dueFault("streets 2;rest [[[[[[not 1=1]]]]]];", 4, 21);
        Check.dueFault("streets 2;rest [[[[[[(1)=1]]]]]];", 4, 21);
        Check.dueFault("streets 2;rest [[[[[[1=1 and (1)=1]]]]]];", 4, 29);
        Check.dueFault("streets 2;rest not not not not not not [1=1];", 4, 39);
        Check.dueFault("streets 2;rest not not not not not not 1=(1);", 4, 41);
        Check.dueFault("streets 2;rest not [ not [ (((1)))=1]];", 4, 29);
    }
}
