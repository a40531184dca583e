/** Promises 15 to 22: waiting, talk, questions. */
public final class WaitingTest {
    private static final int BAD = WhoMentionsIt.BAD, NOT = WhoMentionsIt.NOT, VOID = WhoMentionsIt.VOID;
    private static final Check c = new Check("WaitingTest");

    public static void main(String[] args) {
        sum();
        can();
        firstToGo();
        begin();
        treaty();
        talk();
        talkThatLacks();
        ask();
        c.end();
    }

    private static void sum() {
        WhoMentionsIt x = new WhoMentionsIt();
        c.due("below", x.sum(-1), BAD);
        c.due("above", x.sum(100), BAD);
        c.due("now", x.sum(0), 50);
        c.due("later", x.sum(99), 545);
        x.day();
        c.due("days in deed don't count", x.sum(1), 55);
        x.mend(0, 6, 9990);
        c.due("at most", x.sum(1), 9995);
        c.due("at most", x.sum(2), 9999);
    }

    private static void can() {
        WhoMentionsIt x = Check.people(49, 50, 54, 55, 9999);
        c.due("none", x.can(5), BAD);
        c.due("none", x.can(-1), BAD);
        c.due("not now", x.can(0), NOT);
        c.due("now alone", x.can(1), 0);
        c.due("now alone", x.can(2), 0);
        c.due("a day more", x.can(3), 1);
        c.due("999 or later", x.can(4), 999);
        x.mend(0, 7, 0);
        c.due("not now", x.can(0), NOT);
        c.due("for ever", x.can(1), 999);
        x.mend(0, 7, 1);
        x.mend(0, 3, 50 + 998);
        c.due("998", x.can(0), 998);
        x.mend(0, 3, 50 + 999);
        c.due("999", x.can(0), 999);
    }

    private static void firstToGo() {
        WhoMentionsIt x = new WhoMentionsIt();
        c.due("below", x.firstToGo(-1), BAD);
        c.due("above", x.firstToGo(2), BAD);
        c.due("nobody", x.firstToGo(0), NOT);
        x.person(49);
        c.due("none can", x.firstToGo(1), NOT);
        x.person(70);
        x.person(60);
        x.person(62);
        c.due("who", x.firstToGo(0), 2);
        c.due("when", x.firstToGo(1), 2);
        x.mend(0, 7, 0);
        c.due("all can for ever", x.firstToGo(0), NOT);
        c.due("all can for ever", x.firstToGo(1), NOT);
    }

    private static void begin() {
        WhoMentionsIt x = new WhoMentionsIt();
        c.due("below", x.begin(-1), VOID);
        c.due("below", x.begin(-100), VOID);
        c.due("above", x.begin(10000), VOID);
        c.due("a more than b", x.begin(201), VOID);
        c.due("a as b", x.begin(202), 0);
        c.due("saved", x.begin(209), 35);
        x.mend(0, 6, 9990);
        c.due("at most", x.begin(199), 4);
    }

    private static void treaty() {
        WhoMentionsIt x = new WhoMentionsIt();
        c.due("nobody", x.treaty(0, 0), BAD);
        c.due("nobody", x.treaty(0, 1), BAD);
        x.person(10);
        x.person(20);
        x.person(30);
        x.mend(0, 6, 47);
        int[] shares = {8, 16, 23};
        for (int i = 0; i < 3; i++) {
            c.due("share " + i, x.treaty(i, 0), shares[i]);
        }
        c.due("all can", x.treaty(0, 1), 1);
        c.due("47 by 3 is 15", x.treaty(0, 2), 2);
        c.due("one of whether", x.treaty(1, 1), BAD);
        c.due("one of RICHER", x.treaty(1, 2), BAD);
        c.due("no such one", x.treaty(3, 0), BAD);
        c.due("what", x.treaty(0, 3), BAD);
        c.due("what", x.treaty(0, -1), BAD);
        x.mend(0, 6, 61);
        c.due("one pays more than it can", x.treaty(0, 1), 0);
        for (int i = 0; i < 3; i++) {
            x.mend(i, 3, 0);
        }
        c.due("left over whole", x.treaty(0, 0), 21);
        c.due("left over whole", x.treaty(1, 0), 20);
        c.due("left over whole", x.treaty(2, 0), 20);
        c.due("61 by 3 is 20", x.treaty(0, 2), 1);
        x.mend(0, 6, 2);
        c.due("two pennies for three", x.treaty(0, 0) * 100 + x.treaty(1, 0) * 10 + x.treaty(2, 0), 110);
        x.mend(0, 6, 0);
        c.due("nothing to pay", x.treaty(0, 1), 1);
        x = Check.people(9999, 9999, 0, 9999, 9999, 9999, 9999);
        x.mend(0, 6, 9999);
        c.due("greatest", x.treaty(0, 0), 1667);
        c.due("a penny to who has none", x.treaty(2, 0), 1);
        c.due("a penny to who has none", x.treaty(0, 1), 0);
        c.due("the last of them", x.treaty(6, 0), 1666);
    }

    private static WhoMentionsIt talkers() {
        WhoMentionsIt x = Check.people(100, 100, 100);
        x.word(9, 11);
        x.word(6, 21);
        x.word(0, 31);
        Check.bytes(x, 0, 0, 0);
        Check.bytes(x, 1, 1, 2, 1);
        Check.bytes(x, 2, 2);
        x.mend(0, 6, 51);
        return x;
    }

    private static void talk() {
        WhoMentionsIt x = talkers();
        c.due("no such shelf", x.talk(6, 0), BAD);
        c.due("no such shelf", x.talk(-1, 0), BAD);
        c.due("what", x.talk(3, 4), BAD);
        c.due("what", x.talk(3, -1), BAD);
        c.due("nothing there", x.talk(3, 0), Check.NOTHING_THERE);
        c.due("bytes", x.talk(0, 0), Check.OTHER_KIND);
        Check.shorts(x, 3, 1, 1, 0, 2, 2, 1, 1, 0, 0, 1);
        c.due("on which day", x.talk(3, 0), 3);
        c.due("who", x.talk(3, 1), 1);
        c.due("what it owes", x.talk(3, 2), 66);
        c.due("HALVES, each cut", x.talk(3, 3), 51 / 2 + 61 / 2);
        x.mend(0, 5, 0);
        x.mend(2, 5, 0);
        c.due("unheard by anybody", x.talk(3, 0), NOT);
        c.due("unheard by anybody", x.talk(3, 1), NOT);
        c.due("unheard by anybody", x.talk(3, 2), NOT);
        c.due("only those heard owe", x.talk(3, 3), 61 / 2 + 71 / 2);
    }

    private static void talkThatLacks() {
        int[][] rows = {{0, 1, 3, 0, 0, 0}, {0, 1, -1, 0, 0, 0}, {0, 1, 0, 6, 0, 0}, {0, 1, 0, -1, 0, 0},
            {0, 1, 0, 4, 0, 0}, {0, 1, 0, 3, 0, 0}, {0, 1, 0}, {0, 1, 0, 5, 0, 0}};
        for (int[] row : rows) {
            WhoMentionsIt x = talkers();
            x.body(0);
            x.keep(5, 0);
            Check.shorts(x, 3, row);
            c.due("ended", x.talk(3, 0), NOT);
            c.due("HALVES till then", x.talk(3, 3), 25);
        }
        WhoMentionsIt x = talkers();
        Check.shorts(x, 3);
        c.due("an empty ROW", x.talk(3, 1), NOT);
        c.due("an empty ROW", x.talk(3, 3), 0);
    }

    private static void ask() {
        WhoMentionsIt x = Check.people(100, 100);
        c.due("no WORDS", x.ask(0, 0, 0), BAD);
        c.due("no WORDS", x.corner(0), 0);
        x.word(9, 11);
        x.word(5, 11);
        c.due("no other KIN", x.ask(0, 1, 0), 0);
        c.due("no other KIN", x.ask(0, 1, 1), NOT);
        c.due("no other KIN", x.corner(0), 3);
        x.word(6, 21);
        x.word(6, 31);
        c.due("an answer", x.ask(0, 0, 0), 1);
        c.due("the safest", x.ask(0, 0, 1), 102);
        c.due("the safest", x.ask(0, 2, 1), 201);
        c.due("none cornered", x.corner(0), 0);
        x.mend(0, 8, 11);
        c.due("no answer", x.ask(0, 0, 0), 0);
        c.due("the safest all the same", x.ask(0, 0, 1), 102);
        c.due("cornered", x.corner(0), 15);
        x.mend(3, 0, 0);
        c.due("one way out", x.corner(0), 0);
        c.due("one way out", x.ask(0, 0, 1), 103);
        x.mend(1, 4, 9);
        Check.law(x, "v=9?99;n");
        x.mend(3, 1, 7);
        c.due("by the other's NERVE", x.corner(1), 15);
        c.due("by its own", x.corner(0), 0);
        c.due("one", x.ask(2, 0, 0), BAD);
        c.due("one", x.ask(-1, 0, 0), BAD);
        c.due("word", x.ask(0, 4, 0), BAD);
        c.due("word", x.ask(0, -1, 0), BAD);
        c.due("what", x.ask(0, 0, 2), BAD);
        c.due("what", x.ask(0, 0, -1), BAD);
        c.due("corner", x.corner(2), BAD);
        c.due("corner", x.corner(-1), BAD);
    }
}
