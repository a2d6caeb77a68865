/** Promise 4: the edges of what a text may tell, and of where its fault is. */
final class TextEdges extends SentenceGroup {
    TextEdges(Sentences sentences) {
        super(sentences);
    }

    @Override
    void all() {
        noItems();
        itemsAreCounted();
        textIsEmptyThen();
        faultChangesNothing();
        postsFrom0On();
        fivePosts();
        aSixthPost();
        sixMen();
        aSeventhMan();
        seesFrom0To31();
        coldFrom0To9();
        debtFrom0To60();
        onFrom1To9();
        stoveFrom1To9();
        onAndStoveOnce();
        onAndStoveAgain();
        blanksAnywhere();
        blanksBetweenNumbers();
        tokensAndOtherLetters();
        itemsAreEnded();
        theFirstThatCannotStand();
        numbersBeyondWhatTheyMayBe();
        otherLettersAndNumbers();
        endsTooEarly();
        aTextOf200Letters();
        readAnew();
        readAnewAsAtFirst();
    }

    private void reads(int items, String text) {
        Run x = fresh().types(text);
        x.due(items, "depot");
        x.due(0, "count", 5);
    }

    /** The fault is found on an object that holds something of all, and on a new one. */
    private void fault(int place, String text) {
        fresh().types(text).unchanged(-10 - place, "depot");
        Run x = busy().does("clear").types(text);
        x.unchanged(-10 - place, "depot");
        x.due(text.length(), "count", 5);
        x.due(-10 - place, "depot");
    }

    private void noItems() {
        at(4, "ITEMS (none, too)");
        fresh().due(0, "depot");
        reads(0, "");
        reads(0, " ");
        reads(0, " ".repeat(200));
        Run x = busy().does("clear");
        x.due(0, "depot");
        x.dueFrom(0, new int[] {0, 0, 2, 3, 0, 0}, "count");
        x.dueFrom(0, new int[] {0, 0, 0, 0, 0}, "now");
    }

    private void itemsAreCounted() {
        at(4, "THE TEXT tells all anew, and is empty then: how many ITEMS.");
        reads(1, "p0 0;");
        reads(1, "m0;");
        reads(1, "o1;");
        reads(1, "s1;");
        reads(4, "s1;o1;m0;p0 0;");
        reads(13, ALL);
        Run x = told("p1 1;m1;m2;").tells("m3;");
        x.due(0, "count", 0);
        x.due(1, "count", 1);
        x.due(3, "man", 0, 0);
    }

    private void textIsEmptyThen() {
        at(4, "and is empty then");
        Run x = fresh().types("m5;");
        x.due(1, "depot");
        x.due(0, "count", 5);
        x.due(0, "clear");
        x.due(1, "type", 'm');
        x.types("7;");
        x.due(1, "depot");
        x.due(7, "man", 0, 0);
        x.due(0, "depot");
    }

    private void faultChangesNothing() {
        at(4, "-10 less FAULT: nothing changes (THE TEXT stays, too).");
        fault(0, "x");
        fault(ALL.length(), ALL + "x");
        fault(20, "p7 9;m1;o1;s1;p0 9;p");
        Run x = busy().does("clear").types("p7 9;m1;o1;s1;m");
        x.unchanged(-25, "depot");
        x.due(16, "type", '5');
        x.unchanged(-26, "depot");
        x.due(17, "type", ';');
        x.due(5, "depot");
        x.due(2, "count", 1);
        x.due(5, "man", 1, 0);
        x = busy().does("clear").types("o9;s9;!");
        x.unchanged(-16, "depot");
        x.due(7, "clear");
        x.types("m1;");
        x.due(1, "depot");
        x.due(2, "count", 2);
        x.due(3, "count", 3);
    }

    private void postsFrom0On() {
        at(4, "POSTS 0 ..");
        for (int posts = 0; posts <= 5; posts++) {
            Run x = fresh().types("p0 1;".repeat(posts));
            x.due(posts, "depot");
            x.due(posts, "count", 0);
            x.due(BAD, "post", posts, 1);
            x.due(posts == 0 ? BAD : 1, "post", Math.max(0, posts - 1), 1);
        }
    }

    private void fivePosts() {
        at(4, "(5 at most)");
        Run x = fresh().types("p0 1;p0 2;p0 3;p0 4;p0 5;");
        x.due(5, "depot");
        for (int p = 0; p < 5; p++) {
            x.due(p + 1, "post", p, 1);
        }
        x.unchanged(BAD, "post", 5, 1);
        fault(25, "p0 0;".repeat(6));
    }

    private void aSixthPost() {
        at(4, "a sixth p");
        String five = "p0 0;".repeat(5);
        fault(25, five + "p0 0;");
        fault(25, five + "p");
        fault(26, five + " p");
        fault(28, five + "m0;p0 0;");
        fault(25, five + "px");
        reads(6, five + "m0;");
    }

    private void sixMen() {
        at(4, "MEN 0 .. (6 at most)");
        for (int men = 0; men <= 6; men++) {
            Run x = fresh().types("m7;".repeat(men));
            x.due(men, "depot");
            x.due(men, "count", 1);
            x.due(BAD, "man", men, 0);
            x.due(men == 0 ? BAD : 7, "man", Math.max(0, men - 1), 0);
        }
    }

    private void aSeventhMan() {
        at(4, "a seventh m");
        String six = "m0;".repeat(6);
        fault(18, six + "m0;");
        fault(18, six + "m");
        fault(20, six + "  m");
        fault(23, six + "p0 0;m0;");
        fault(18, six + "mx");
        reads(7, six + "p0 0;");
    }

    private void seesFrom0To31() {
        at(4, "SEES (bits 0 .. 4; itself does not count)");
        Run x = told("p0 0;p31 0;p0 0;p0 0;p0 0;");
        x.due(0, "post", 0, 0);
        x.due(29, "post", 1, 0);
        fault(1, "p32 0;");
        fault(1, "p60 0;");
        fault(6, "p0 0;p32 0;");
    }

    private void coldFrom0To9() {
        at(4, "COLD (0 .. 9)");
        Run x = told("p0 0;p0 9;");
        x.due(0, "post", 0, 1);
        x.due(9, "post", 1, 1);
        fault(3, "p0 10;");
        fault(4, "p31 60;");
        fault(8, "p0 9;p1 10;");
    }

    private void debtFrom0To60() {
        at(4, "DEBT (0 .. 60) at first");
        Run x = told("m0;m60;");
        x.due(0, "man", 0, 0);
        x.due(60, "man", 1, 0);
        fault(1, "m61;");
        fault(5, "m60;m61;");
    }

    private void onFrom1To9() {
        at(4, "ON (1 .. 9 HOURS; 2 at first)");
        fresh().due(2, "count", 2);
        told("").due(2, "count", 2);
        told("s5;").due(2, "count", 2);
        for (int on = 1; on <= 9; on++) {
            told("o" + on + ";").due(on, "count", 2);
        }
        fault(1, "o0;");
        fault(1, "o10;");
        fault(1, "o60;");
    }

    private void stoveFrom1To9() {
        at(4, "STOVE (1 .. 9; 3 at first)");
        fresh().due(3, "count", 3);
        told("").due(3, "count", 3);
        told("o5;").due(3, "count", 3);
        for (int stove = 1; stove <= 9; stove++) {
            told("s" + stove + ";").due(stove, "count", 3);
        }
        fault(1, "s0;");
        fault(1, "s10;");
        fault(1, "s60;");
    }

    private void onAndStoveOnce() {
        at(4, "o N (ON), s N (STOVE; once each at most)");
        reads(2, "o1;s1;");
        reads(2, "s9;o9;");
        Run x = told("o5;s6;").tells("s7;o8;");
        x.due(8, "count", 2);
        x.due(7, "count", 3);
    }

    private void onAndStoveAgain() {
        at(4, "o, s again");
        fault(3, "o1;o1;");
        fault(3, "s1;s1;");
        fault(3, "o1;o");
        fault(3, "s1;s");
        fault(6, "o1;s1;o");
        fault(6, "s1;o1;s");
        fault(12, "o1; m0;p0 0;o 9;");
    }

    private void blanksAnywhere() {
        at(4, "blanks (32), any number, ahead of, between, behind TOKENS");
        Run x = told("   p   31   9   ;   m   60   ;   o   1   ;   s   9   ;   ");
        x.due(9, "post", 0, 1);
        x.due(60, "man", 0, 0);
        x.due(1, "count", 2);
        x.due(9, "count", 3);
        reads(1, " ".repeat(197) + "m0;");
        reads(1, "m" + " ".repeat(197) + "0;");
        reads(1, "m0" + " ".repeat(197) + ";");
        reads(1, "m0;" + " ".repeat(197));
        for (int sign : new int[] {0, 9, 10, 11, 12, 13, 31, 33, 160, 255}) {
            fault(0, "" + (char) sign);
            fault(1, "m" + (char) sign + "5;");
            fault(2, "m5" + (char) sign + ";");
            fault(3, "m5;" + (char) sign);
        }
    }

    private void blanksBetweenNumbers() {
        at(4, "(needed only between two NUMBERS)");
        Run x = told("p3 1;p5 0;m2;o1;s1;");
        x.due(2, "post", 0, 0);
        x.due(1, "post", 0, 1);
        fault(3, "p31;");
        fault(1, "p319;");
        fault(3, "m6 0;");
        fault(3, "o1 0;");
        fault(5, "p1 2 3;");
        reads(1, "p1  2;");
    }

    private static boolean isDigit(int sign) {
        return sign >= '0' && sign <= '9';
    }

    /** Every letter there is, where an ITEM may begin, behind m, behind a NUMBER, and behind an ITEM. */
    private void tokensAndOtherLetters() {
        at(4, "TOKENS are the letters p, m, o, s, NUMBERS and ;");
        for (int sign = 0; sign <= 255; sign++) {
            boolean begins = "pmos".indexOf(sign) >= 0;
            boolean isBlank = sign == ' ';
            char letter = (char) sign;
            fresh().types("" + letter).due(isBlank ? 0 : begins ? -11 : -10, "depot");
            fresh().types("m" + letter).due(isBlank || isDigit(sign) ? -12 : -11, "depot");
            fresh().types("m5" + letter).due(sign == ';' ? 1 : isBlank || isDigit(sign) ? -13 : -12, "depot");
            fresh().types("m5;" + letter).due(isBlank ? 1 : begins ? -14 : -13, "depot");
            fresh().types("p1" + letter).due(isBlank || isDigit(sign) ? -13 : -12, "depot");
            fresh().types("p1 2" + letter).due(sign == ';' ? 1 : isBlank ? -15 : isDigit(sign) ? -13 : -14, "depot");
        }
    }

    private void itemsAreEnded() {
        at(4, "each ended by ;");
        fault(2, "m5m5;");
        fault(2, "o5s5;");
        fault(4, "p1 2p1 2;");
        fault(3, "m5;;");
        fault(0, ";");
        fault(1, "p;");
        fault(2, "p1;");
        fault(1, "m;");
        fault(1, "o;");
        fault(1, "s;");
        fault(5, "p1 2 3;");
        fault(3, "m5 5;");
    }

    private void theFirstThatCannotStand() {
        at(4, "FAULT: the place of the first letter of the first TOKEN that can't stand there");
        fault(0, "; x 61");
        fault(0, "5;m5;");
        fault(0, "50;");
        fault(2, "  50;");
        fault(1, "pp");
        fault(1, "mo");
        fault(4, "m5;m61;o0;x");
        fault(4, "m5; x m61;");
        fault(5, "m5;  60");
        fault(1, "p32 10;");
    }

    private void numbersBeyondWhatTheyMayBe() {
        at(4, "a NUMBER beyond what it may be, too");
        fault(1, "p32 0;");
        fault(3, "p0 10;");
        fault(1, "o0;");
        fault(1, "o10;");
        fault(1, "s0;");
        fault(1, "s10;");
        fault(1, "o60");
        fault(3, "s  10");
        fault(1, "p59");
    }

    private void otherLettersAndNumbers() {
        at(4, "of any other letter, a NUMBER above 60 or with a 0 ahead of others, that TOKEN's");
        fault(3, "m5;P");
        fault(1, "m-1;");
        fault(2, "m5,");
        fault(1, "m" + (char) 0);
        fault(2, "m5" + (char) 255);
        fault(0, "61");
        fault(1, "m61;");
        fault(1, "m100;");
        fault(3, "m5 61;");
        fault(3, "m5;99");
        fault(1, "m4294967301;");
        fault(1, "m18446744073709551621;");
        fault(1, "m" + "9".repeat(199));
        fault(1, "m" + "1" + "0".repeat(198));
        fault(1, "m00;");
        fault(1, "m05;");
        fault(1, "m060;");
        fault(1, "p01 0;");
        fault(3, "p0 00;");
        fault(1, "o01;");
        fault(1, "s09;");
        fault(0, "00");
        fault(1, "m" + "0".repeat(199));
        reads(2, "m0;p0 0;");
    }

    private void endsTooEarly() {
        at(4, "the text's length, if it ends too early");
        for (String text : new String[] {"p", "p1", "p1 2", "m", "m5", "o", "o1", "s", "s1", "m5;o", "m5;p1 2"}) {
            fault(text.length(), text);
            fault(text.length() + 1, text + " ");
            fault(text.length() + 3, "  " + text + " ");
        }
        fault(200, "m5" + " ".repeat(198));
        fault(200, " ".repeat(199) + "m");
        reads(1, "m5; ");
    }

    private void aTextOf200Letters() {
        at(4, "They are a text (200 letters at most)");
        String padded = ALL + " ".repeat(200 - ALL.length());
        reads(13, padded);
        reads(13, " ".repeat(200 - ALL.length()) + ALL);
        fault(199, " ".repeat(199) + "x");
        Run x = fresh().types(" ".repeat(197) + "m9;");
        x.unchanged(FULL, "type", 'x');
        x.due(1, "depot");
        x.due(9, "man", 0, 0);
    }

    private void readAnew() {
        at(4, "nobody stands, nothing FOUND, IMAGES are gone, nothing can be UNDONE; THE TRACE goes on,"
            + " as behind undo(), back()");
        Run x = busy().does("clear").tells("p2 3;p5 0;p0 9;m10;m36;m0;m38;o1;s4;");
        x.dueFrom(0, new int[] {0, 0, 0, 0, 0}, "now");
        x.dueFrom(0, new int[] {3, 4, 1, 4, 0, 0}, "count");
        for (int m = 0; m < 4; m++) {
            x.due(NONE, "man", m, 1);
            for (int p = 0; p < 3; p++) {
                x.due(0, "had", m, p);
                x.due(NONE, "post", p, 2);
                x.due(0, "post", p, 3);
            }
        }
        x.unchanged(STATE, "back", 0);
        x.unchanged(STATE, "back", 1);
        x.unchanged(STATE, "undo");
        x.due(61, "fits", 2, 0);
        x.due(1, "found", 2, 0, 0);
        x.due(1011, "trace");
    }

    private void readAnewAsAtFirst() {
        at(4, "(Read anew: as told (what is not told as at first)");
        Run x = told(ALL).hours(5).tells("p0 3;m20;");
        x.dueFrom(0, new int[] {1, 1, 2, 3, 0, 0}, "count");
        x.due(0, "post", 0, 0);
        x.due(3, "post", 0, 1);
        x.due(20, "man", 0, 0);
        x.due(0, "now", 0);
        x.hours(1);
        x.due(17, "man", 0, 0);
        x = told(ALL).tells("");
        x.dueFrom(0, new int[] {0, 0, 2, 3, 0, 0}, "count");
        x.unchanged(BAD, "man", 0, 0);
        x.unchanged(BAD, "post", 0, 0);
    }
}
