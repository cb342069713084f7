/** The edges of promises 1 to 3, 10 and 11: a new object, the TAPE, the texts of ACTS. */
public final class TapeEdgesTest extends Checks {
    private static void newObject() {
        sentence("1: no LOTS, SHIPS, ACTS; WEEK 0");
        LendHouse x = new LendHouse();
        for (int what = 0; what <= 20; what++) {
            due("count(" + what + ")", 0, x.count(what));
        }
        for (int land = 1; land <= 5; land++) {
            for (int what = 0; what <= 7; what++) {
                due("land(" + land + ", " + what + ")", 0, x.land(land, what));
            }
            for (int what = 0; what <= 2; what++) {
                due("balance(" + land + ", " + what + ")", 0, x.balance(land, what, 0));
            }
            for (int sort = 0; sort <= 7; sort++) {
                due("mustBe(" + land + ", " + sort + ")", 0, x.mustBe(land, sort, 0));
                due("whence(" + land + ", " + sort + ")", 0, x.whence(land, sort, false));
                due("whence(" + land + ", " + sort + ", true)", 0, x.whence(land, sort, true));
                due("cost(" + sort + ")", 0, x.cost(sort, land));
            }
        }
        due("hulls", 0, x.hulls(NONE));
        due("bestOrders", 0, x.bestOrders());
        due("signed", 0, x.signed(0, 0));
        due("lasts", 0, x.lasts());
        due("cash", NONE, x.cash(0, 0, 0, 0, 0));
        due("check", NONE, x.check());
        sentence("11: NONE ahead of any");
        due("fault", NONE, x.fault());
        sentence("1: two new objects have nothing in common");
        LendHouse y = new LendHouse();
        x.order(0, 5);
        x.weeks(1);
        x.keep();
        due("lots of the other", 0, y.count(1));
        due("week of the other", 0, y.count(0));
        no("undo of the other", y.undo());
        no("again of the other", y.again());
    }

    private static void feed() {
        sentence("2: twenty bytes come behind the TAPE: how many it has");
        LendHouse x = new LendHouse();
        for (int i = 1; i <= 20; i++) {
            due("feed " + i, 20 * i, x.feed(0, 0, 0, 0, 0));
        }
        sentence("2: NONE, and none come, if it would have more than 400");
        due("feed behind 400", NONE, x.feed(0, 0, 0, 0, 0));
        no("end(401)", x.end(401));
        yes("end(400)", x.end(400));
        yes("end(399)", x.end(399));
        due("feed behind 399", NONE, x.feed(0, 0, 0, 0, 0));
        no("end(400) behind it", x.end(400));
        yes("end(381)", x.end(381));
        due("feed behind 381", NONE, x.feed(0, 0, 0, 0, 0));
        no("end(382) behind it", x.end(382));
        yes("end(380)", x.end(380));
        due("feed behind 380", 400, x.feed(0, 0, 0, 0, 0));
        yes("end(1)", x.end(1));
        due("feed behind 1", 21, x.feed(0, 0, 0, 0, 0));
        yes("end(0)", x.end(0));
        due("feed behind none", 20, x.feed(0, 0, 0, 0, 0));

        sentence("2: of each number the highest first");
        for (int at = 0; at < 20; at++) {
            for (int odd : new int[] {0, 1, 31, 33, 127, 128, 255}) {
                int[] n = {0x20202020, 0x20202020, 0x20202020, 0x20202020, 0x20202020};
                int shift = 24 - 8 * (at % 4);
                n[at / 4] = n[at / 4] & ~(255 << shift) | odd << shift;
                LendHouse y = new LendHouse();
                y.feed(0x20202020, 0x20202020, 0x20202020, 0x20202020, 0x20202020);
                y.feed(n[0], n[1], n[2], n[3], n[4]);
                refuseAct(y);
                due("the place of byte " + odd + " among blanks", 20 + at, y.fault());
            }
        }
        sentence("2: behind the TAPE, as far as END left it");
        LendHouse z = new LendHouse();
        z.feed(0x6c656e64, 0x3b6d6172, 0x6b203133, 0x78787878, 0x78787878);
        yes("end(11)", z.end(11));
        z.feed(0x32333b67, 0x69766520, 0x78787878, 0x78787878, 0x78787878);
        yes("end(18)", z.end(18));
        due("lend;mark 1 and 23;give", 3, z.act(0));
        z.ask(1, 0, 1, 0);
        due("the number that was put together", 123, z.weigh(0, 0));
    }

    private static void refuseAct(LendHouse x) {
        try {
            x.act(0);
            due("act of a wrong text", NONE, 0);
        } catch (IllegalArgumentException e) {
            due("acts", 0, x.count(3));
        }
    }

    private static void end() {
        sentence("3: the TAPE has its first n bytes alone");
        LendHouse x = new LendHouse();
        write(x, "lend;lend;lend;lend;");
        yes("end(20), all of it", x.end(20));
        yes("end(14)", x.end(14));
        no("end(15) then", x.end(15));
        due("three lines", 3, x.act(0));
        sentence("3: true for 0 and for as many as it has; false if it has fewer, or n is below 0");
        LendHouse y = new LendHouse();
        yes("end(0) of none", y.end(0));
        no("end(1) of none", y.end(1));
        no("end(-1) of none", y.end(-1));
        y.feed(0, 0, 0, 0, 0);
        no("end(21)", y.end(21));
        no("end(greatest)", y.end(MAX));
        no("end(-1)", y.end(-1));
        no("end(least)", y.end(MIN));
        yes("end(20) still", y.end(20));
        yes("end(19)", y.end(19));
        no("end(20) then", y.end(20));
        yes("end(0)", y.end(0));
        no("end(1) then", y.end(1));
        due("the text is empty", 0, y.act(0));
    }

    private static void weeksOfActs() {
        sentence("10: uses the TAPE up, an empty one too");
        LendHouse x = new LendHouse();
        due("an empty tape", 0, x.act(0));
        write(x, "lend;give");
        due("two lines", 2, x.act(0));
        no("the tape is empty", x.end(1));
        due("so no lines", 0, x.act(0));
        sentence("10: an ACT from a WEEK on, this one or later, 500 at most");
        due("from 500 on", 1, act(x, 500, "lend"));
        due("from this one on", 1, act(x, 0, "give"));
        sentence("2 AN ACT: none ahead of any");
        LendHouse y = new LendHouse();
        due("lines without an act", 0, y.count(4));
        due("lines", 2, act(y, 3, "lend;give"));
        y.weeks(2);
        due("lines a week ahead of it", 0, y.count(4));
        due("acts", 1, y.count(3));
        y.weeks(1);
        due("lines in its first week", 2, y.count(4));
        y.weeks(60);
        due("lines later", 2, y.count(4));
        sentence("2 AN ACT: of a WEEK: that of the latest such WEEK up to it, of several the one that came last");
        LendHouse z = new LendHouse();
        act(z, 4, "lend;lend;lend;lend");
        act(z, 2, "lend;lend");
        act(z, 3, "lend;lend;lend");
        act(z, 2, "lend");
        act(z, 5, "");
        int[] lines = {0, 0, 1, 3, 4, 0, 0};
        for (int week = 0; week < lines.length; week++) {
            due("lines of week " + week, lines[week], z.count(4));
            z.weeks(1);
        }
        LendHouse last = new LendHouse();
        act(last, 500, "lend");
        act(last, 499, "lend;lend");
        for (int i = 0; i < 8; i++) {
            last.weeks(60);
        }
        last.weeks(18);
        due("lines of 498", 0, last.count(4));
        last.weeks(1);
        due("lines of 499", 2, last.count(4));
        last.weeks(1);
        due("lines of 500", 1, last.count(4));
        due("one more in week 500", 3, act(last, 500, "give;give;give"));
        due("lines of 500", 3, last.count(4));
    }

    private static void tenActs() {
        sentence("2 AN ACT: at most 10 texts");
        LendHouse x = new LendHouse();
        for (int i = 1; i <= 10; i++) {
            due("act " + i, i, act(x, 0, "mark 1" + times(i - 1, ";mark 1")));
            due("acts", i, x.count(3));
            due("lines", i, x.count(4));
        }
        write(x, "give");
        try {
            x.act(0);
            due("act 11", NONE, 0);
        } catch (UnsupportedOperationException e) {
            sentence("10: there are 10; a call that throws changes fault() where a text is read");
            due("fault of a right text", NONE, x.fault());
        }
        no("the tape is used up", x.end(1));
        due("acts", 10, x.count(3));
        due("lines", 10, x.count(4));
    }

    private static void faultStays() {
        sentence("11: the first wrong byte of the latest text that was read; NONE without one");
        LendHouse x = new LendHouse();
        write(x, "lend x");
        refuseAct(x);
        due("fault", 5, x.fault());
        x.weeks(1);
        x.undo();
        due("fault behind undo", 5, x.fault());
        x.keep();
        write(x, "x");
        refuseAct(x);
        due("fault at the first byte", 0, x.fault());
        x.again();
        due("fault behind again", 0, x.fault());
        write(x, "give");
        x.again();
        yes("the tape stays, too", x.end(4));
        due("a right text", 1, x.act(0));
        due("no fault", NONE, x.fault());
    }

    private static void emptyTexts() {
        sentence("2 AN ACT: a text that is empty, or blanks alone, has no LINE");
        right("", 0);
        right(" ", 0);
        right(times(400, " "), 0);
        sentence("2 AN ACT: LINE { ; LINE }, at most 12");
        for (int lines = 1; lines <= 12; lines++) {
            right("give" + times(lines - 1, ";give"), lines);
        }
        String twelve = "give" + times(11, ";give");
        sentence("2 AN ACT: of a 13th LINE its first word, or the text's length, if more must come");
        wrongAt(twelve + ";give", 60);
        wrongAt(twelve + " ;  give;give", 63);
        wrongAt(twelve + ";mark 1", 60);
        wrongAt(twelve + ";", 60);
        wrongAt(twelve + "; ", 61);
        wrongAt(twelve + ";7", 60);
        wrongAt(twelve + " give", 60);
        sentence("2 AN ACT: an empty LINE is none");
        wrongAt(";", 0);
        wrongAt(" ; ", 1);
        wrongAt("give;;give", 5);
        wrongAt("give;", 5);
        wrongAt("give;  ", 7);
    }

    private static void numbers() {
        sentence("2 AN ACT: NUMBER: 1 to 5 digits");
        right("mark 0", 1);
        right("mark 9", 1);
        right("mark 00000", 1);
        right("mark 99999", 1);
        wrongAt("mark 000000", 5);
        wrongAt("mark 100000", 5);
        wrongAt("mark 999999", 5);
        wrongAt("mark 4294967297", 5);
        wrongAt("mark 18446744073709551617", 5);
        wrongAt("mark", 4);
        wrongAt("mark ;give", 5);
        wrongAt("mark -1", 5);
        wrongAt("mark +1", 5);
        wrongAt("mark 1 2", 7);
        wrongAt("mark 12345 6", 11);
        right("lend if 99999>00000", 1);
        wrongAt("lend if 100000>0", 8);
        wrongAt("lend if 0<100000", 10);
        wrongAt("lend if 0<1+000001", 12);
        due("the greatest number", 99999, marked("mark 99999"));
        due("the least number", 0, marked("mark 0"));
        due("zeros ahead", 7, marked("mark 00007"));
        sentence("2 AN ACT: owe 0 to 100");
        right("owe 0", 1);
        right("owe 100", 1);
        right("owe 00100", 1);
        wrongAt("owe 101", 4);
        wrongAt("owe 00101", 4);
        wrongAt("owe 99999", 4);
        wrongAt("owe 000100", 4);
        wrongAt("owe", 3);
        due("the greatest owe", 100, owed("owe 100"));
        due("the least owe", 0, owed("owe 0"));
        sentence("2 AN ACT: digits are 48 to 57");
        wrongAt("mark /", 5);
        wrongAt("mark :", 5);
        wrongAt("mark 1/", 6);
        wrongAt("mark 1:", 6);
        due("all digits", 1234 + 56789, marked("mark 01234;mark 56789"));
    }

    private static int marked(String text) {
        LendHouse x = new LendHouse();
        act(x, 0, text);
        x.ask(1, 0, 1, 0);
        return x.weigh(0, 0);
    }

    private static int owed(String text) {
        LendHouse x = new LendHouse();
        act(x, 0, text);
        x.ask(1, 0, 1, 0);
        return x.weigh(0, 5);
    }

    private static void deep() {
        sentence("2 AN ACT: ( and not within one another at most 6 deep; the ( or not that is a 7th one deep is wrong");
        right("lend if " + times(6, "(") + "1<2" + times(6, ")"), 1);
        wrongAt("lend if " + times(7, "(") + "1<2" + times(7, ")"), 14);
        wrongAt("lend if " + times(8, "("), 14);
        right("lend if " + times(6, "not ") + "1<2", 1);
        wrongAt("lend if " + times(7, "not ") + "1<2", 32);
        right("lend if " + times(3, "not(") + "1<2" + times(3, ")"), 1);
        wrongAt("lend if " + times(3, "not(") + "(1<2" + times(4, ")"), 20);
        wrongAt("lend if " + times(3, "not(") + "not 1<2" + times(3, ")"), 20);
        wrongAt("lend if " + times(6, "(") + "not 1<2", 14);
        wrongAt("lend if " + times(6, "not ") + "(1<2)", 32);
        sentence("2 AN ACT: 6 deep again and again beside one another");
        String six = times(6, "(") + "1<2" + times(6, ")");
        right("lend if " + six + " and " + six + " or " + six + ";lend if " + six, 2);
        wrongAt("lend if " + six + " and (" + six, 34);
        right("lend if " + times(6, "not ") + "1<2 and " + times(6, "not ") + "1<2", 1);
        right("lend if (" + times(5, "(") + "1<2" + times(5, ")") + " or " + times(5, "(") + "1<2" + times(6, ")"), 1);
        wrongAt("lend if (1<2 and " + six, 22);
        wrongAt("lend if 1<2 and " + times(7, "("), 22);
        wrongAt("lend if 1<2 or " + times(7, "not "), 39);
        sentence("2 AN ACT: not is of the next ATOM alone");
        due("not not", 1, marked("mark 1 if not not 1<2;mark 2 if not 1<2"));
        due("six times not", 1, marked("mark 1 if " + times(6, "not ") + "1<2;mark 2 if " + times(5, "not ") + "1<2"));
        due("not ahead of or", 1, marked("mark 1 if not 1<2 or 1<2"));
        due("not ahead of and", 0, marked("mark 1 if not 2<1 and 2<1"));
    }

    private static void wordsAndBlanks() {
        sentence("2 AN ACT: words are as long as a to z go on");
        right("lend", 1);
        wrongAt("len", 0);
        wrongAt("lendd", 0);
        wrongAt("lendlend", 0);
        wrongAt("lendz", 0);
        wrongAt("lenda", 0);
        wrongAt("zlend", 0);
        wrongAt("alend", 0);
        wrongAt("lend if landz<1", 8);
        wrongAt("lend if landa<1", 8);
        wrongAt("lend if 1<2andz 1<2", 11);
        wrongAt("lend z", 5);
        wrongAt("lend a", 5);
        wrongAt("l", 0);
        wrongAt("givee;lend", 0);
        wrongAt("giv", 0);
        wrongAt("marks 1", 0);
        wrongAt("owes 1", 0);
        wrongAt("lend ift 1<2", 5);
        wrongAt("lend i 1<2", 5);
        wrongAt("lend iff1<2", 5);
        wrongAt("lend if 1<2 orr 1<2", 12);
        wrongAt("lend if 1<2 an 1<2", 12);
        wrongAt("lend if 1<2 ands 1<2", 12);
        wrongAt("lend if nott 1<2", 8);
        wrongAt("lend if no 1<2", 8);
        for (String fact : new String[] {"land", "sort", "week", "crates", "tons", "price", "had", "hunger", "rocks",
            "to"}) {
            right("lend if " + fact + "<1", 1);
            wrongAt("lend if " + fact + "x<1", 8);
            wrongAt("lend if " + fact.substring(1) + "<1", 8);
            wrongAt(fact, 0);
            wrongAt("mark " + fact, 5);
            wrongAt("lend " + fact, 5);
        }
        for (String word : new String[] {"lend", "mark", "owe", "give", "if", "or", "and"}) {
            wrongAt("lend if " + word + "<1", 8);
            wrongAt("lend if 1<" + word, 10);
            wrongAt("lend if 1<2+" + word, 12);
        }
        wrongAt("lend if 1<not", 10);
        for (char sign : new char[] {'`', '{', '@', '[', 'A', 'Z', 9, 10, 13, 0, 31, 33, 160, 255}) {
            sentence("2 AN ACT: a to z (97 to 122) and blanks (32) alone: " + (int) sign);
            wrongAt(sign + "lend", 0);
            wrongAt("lend" + sign, 4);
            wrongAt("lend if 1" + sign + "<2", 9);
            wrongAt("mark" + sign + "1", 4);
        }
        sentence("2 AN ACT: between all there may be blanks, also ahead and behind");
        right("  lend  if  (  not  1  +  2  <  3  )  and  1  >  2  or  1  <  2  ;  mark  3  ", 2);
        right("lend if(not 1+2<3)and 1>2or 1<2;mark3;owe4if1<2;give", 4);
        wrongAt("le nd", 0);
        wrongAt("mark 1 2", 7);
        wrongAt("lend if 1 2<3", 10);
        wrongAt("lendif 1<2", 0);
        wrongAt("lend if1<2and1<2 ;lend if1<2andland<2", 28);
        right("lend if 1<2and 1<2or 1<2", 1);
        sentence("2 AN ACT: a text of 400 bytes");
        right("lend if 1<" + times(389, " ") + "2", 1);
        wrongAt("lend if 1<" + times(389, " ") + "x", 399);
        wrongAt("lend if 1<" + times(390, " "), 400);
        right("lend if 1" + times(194, "+1") + " <2", 1);
        wrongAt("lend if 1" + times(195, "+1") + "+", 400);
    }

    private static void firstWrong() {
        sentence("2 AN ACT: the begin of the first thing that cannot stand there, or the length, if more must come");
        wrongAt("lend if", 7);
        wrongAt("lend if ", 8);
        wrongAt("lend if 1", 9);
        wrongAt("lend if 1<", 10);
        wrongAt("lend if 1+", 10);
        wrongAt("lend if 1<2+", 12);
        wrongAt("lend if 1<2 and", 15);
        wrongAt("lend if 1<2 or", 14);
        wrongAt("lend if not", 11);
        wrongAt("lend if (", 9);
        wrongAt("lend if (1", 10);
        wrongAt("lend if (1<2", 12);
        wrongAt("lend if (1<2 ", 13);
        wrongAt("lend if ((1<2)", 14);
        wrongAt("mark 1 if", 9);
        wrongAt("owe 1 if", 8);
        wrongAt("give if", 7);
        wrongAt("lend if )", 8);
        wrongAt("lend if ()", 9);
        wrongAt("lend if (1<2))", 13);
        wrongAt("lend if 1<2)", 11);
        wrongAt("lend if (1+2)<3", 12);
        wrongAt("lend if ((1)<2)", 11);
        wrongAt("lend if 1<(2)", 10);
        wrongAt("lend if 1<2<3", 11);
        wrongAt("lend if 1<2>3", 11);
        wrongAt("lend if 1<<2", 10);
        wrongAt("lend if 1++2<3", 10);
        wrongAt("lend if +1<3", 8);
        wrongAt("lend if <3", 8);
        wrongAt("lend if and 1<2", 8);
        wrongAt("lend if 1<2 and and 1<2", 16);
        wrongAt("lend if 1<2 or and 1<2", 15);
        wrongAt("lend if 1<2 and;give", 15);
        wrongAt("lend if 1<2 1<2", 12);
        wrongAt("lend if 1<2 not 1<2", 12);
        wrongAt("lend if 1<2 if 1<2", 12);
        wrongAt("lend if 1 and 1<2", 10);
        wrongAt("lend if not and 1<2", 12);
        wrongAt("lend 1", 5);
        wrongAt("give 1 if 1<2", 5);
        wrongAt("lend (1<2)", 5);
        wrongAt("lend give", 5);
        wrongAt("if 1<2", 0);
        wrongAt("not lend", 0);
        wrongAt("(lend)", 0);
        wrongAt("7", 0);
        wrongAt("1<2", 0);
        wrongAt("+", 0);
        wrongAt("mark if 1<2", 5);
        wrongAt("owe if 1<2", 4);
        wrongAt("mark (1)", 5);
        wrongAt("lend , give", 5);
        wrongAt("lend if 1=2", 9);
        wrongAt("lend if 1-2<3", 9);
        wrongAt("lend;mark 1;owe 101;x", 16);
        wrongAt("x;owe 101", 0);
    }

    private static void sums() {
        sentence("2 AN ACT: SUM < SUM, SUM > SUM: not for what is alike");
        due("less", 1, marked("mark 1 if 4<5;mark 2 if 5<5;mark 4 if 6<5"));
        due("more", 4, marked("mark 1 if 4>5;mark 2 if 5>5;mark 4 if 6>5"));
        sentence("2 AN ACT: a SUM of many and great NUMBERS");
        due("four great ones", 1, marked("mark 1 if 99999+99999+99999+99999>99999+99999+99999+99998"));
        due("four great ones are not more than themselves", 0,
                marked("mark 1 if 99999+99999+99999+99999>99999+99999+99999+99999"));
        sentence("2 AN ACT: ALL { or ALL }; ALL: ATOM { and ATOM }");
        due("and binds more", 1 + 4, marked("mark 1 if 1<2 or 1<2 and 2<1;mark 2 if (1<2 or 1<2) and 2<1"
                + ";mark 4 if 2<1 and 2<1 or 1<2;mark 8 if 2<1 and (2<1 or 1<2)"));
        due("the last of many or", 1, marked("mark 1 if 2<1 or 2<1 or 2<1 or 1<2;mark 2 if 2<1 or 2<1 or 2<1"));
        due("the last of many and", 1, marked("mark 1 if 1<2 and 1<2 and 1<2;mark 2 if 1<2 and 1<2 and 2<1"));
    }

    public static void main(String[] args) {
        newObject();
        feed();
        end();
        weeksOfActs();
        tenActs();
        faultStays();
        emptyTexts();
        numbers();
        deep();
        wordsAndBlanks();
        firstWrong();
        sums();
        finish();
    }
}
