/** Empty and full: no PEOPLE and the most, a ROW of no elements and of the most, no FENCES and all. */
public final class EmptyFullTest {
    private static final Due T = new Due("EmptyFullTest");

    public static void main(String[] args) {
        noPeople();
        noPeopleInTruth();
        mostPeople();
        mostPeopleInTruth();
        mostPeopleByATextOnly();
        rowOfNone();
        rowOfMost();
        copiesOfNoneAndMost();
        everyShelf();
        allFences();
        noImageAndImageOfNobody();
        refusedAndNothingElse();
        T.end();
    }

    private static SeatsToTheReluctant seven() {
        SeatsToTheReluctant x = new SeatsToTheReluctant();
        for (int kind = 0; kind < 7; kind++) {
            x.person(kind, 9, 20, 4, 48 - kind);
        }
        return x;
    }

    /** What each call answers while there is nobody. */
    private static void noPeople() {
        SeatsToTheReluctant x = new SeatsToTheReluctant();
        x.row(0, 0, 1);
        T.due("41: status(0)", x.status(0), 0);
        T.due("41: status(6)", x.status(6), 0);
        for (int n : new int[] {0, 30}) {
            T.due("20: chosen", x.chosen(n), 0);
            T.due("31: crowd", x.crowd(n, 0), -1);
            T.due("31: last", x.crowd(n, 1), -1);
            T.due("32: judge of none", x.judge(0, 0, n), -1);
        }
        T.due("18: who(0)", x.who(0), 0);
        T.due("18: who(1)", x.who(1), 0);
        T.due("18: who(2)", x.who(2), 0);
        T.due("29: carries(0)", x.carries(0), 0);
        T.due("14: squareOf(24, 1)", x.squareOf(24, 1), 0);
        T.due("37: act", x.act(0, 0, 1), 0);
        T.due("6: show NONE", x.show(1, -1), 0);
        for (int what = 11; what <= 17; what++) {
            T.due("41: nothing is refused yet", x.status(what), 0);
        }
        T.due("6: show", x.show(1, 0), -1);
        T.due("11: tell", x.tell(0, 0, 0), -1);
        T.due("13: personOf", x.personOf(0, 0), -5);
        T.due("19: where", x.where(0, 0), -1);
        T.due("21: hide", x.hide(0, 0), -11);
        T.due("22: to", x.to(0, 0), -11);
        T.due("23: spared", x.spared(0, 0), -11);
        T.due("24: wanting", x.wanting(0, 0, 0), -11);
        T.due("25: without", x.without(0, 0), -1);
        T.due("26: fits", x.fits(0, 0, 0, 0), -1);
        T.due("27: tells", x.tells(0, 0), -1);
        T.due("28: power", x.power(0, 1), -1);
        T.due("29: carries(1)", x.carries(1), -6);
        T.due("30: bell", x.bell(0), -11);
        T.due("32: judge of one", x.judge(0, 1, 0), -16);
        T.due("35: years", x.years(1), -5);
        T.due("41: counted", x.status(11), 12);
        T.due("41: counted", x.status(15), 2);
        T.due("41: counted", x.status(16), 2);
    }

    private static void noPeopleInTruth() {
        SeatsToTheReluctant x = new SeatsToTheReluctant();
        T.due("33: yards go all the same", x.run(30), 30);
        T.due("34: nobody is chosen", x.vote(), 0);
        T.due("41: a vote it was", x.status(5), 1);
        T.due("39: an image of nobody", x.image(), 0);
        T.due("40: restore", x.restore(), 0);
        T.due("41: its yards", x.status(4), 30);
        T.due("10: a fence wherever one may be", x.fence(0, true), 0);
    }

    /** What each call answers for seven of the greatest numbers. */
    private static void mostPeople() {
        SeatsToTheReluctant x = seven();
        T.due("41: status(0)", x.status(0), 7);
        T.due("9: an eighth", x.person(0, 0, 0, 1, 0), -7);
        // Smells 20, 20, 10, 29, 20, 10, 32.
        T.due("18: put out", x.who(1), 8 + 64);
        x.ask(1, 40);
        T.due("18: put out by nothing", x.who(1), 0);
        T.due("18: nobody flees by 20", x.who(2), 0);
        T.due("18: the furthest two", x.who(0), 1 + 64);
        x.ask(0, 4);
        T.due("18: the furthest four", x.who(0), 1 + 2 + 32 + 64);
        T.due("20: all at the lamp", x.chosen(30), 15);
        T.due("25: all at the lamp, without the first", x.without(0, 30), 30);
        T.due("25: all at the lamp, without the last", x.without(6, 30), 15);
        T.due("31: all at the lamp", x.crowd(30, 0), 24);
        T.due("31: the first of them", x.crowd(30, 1), 0);
        T.due("19: the last of them", x.where(6, 30), 24);
        T.due("29: the least that carries", x.carries(127), 15);
        T.due("28: the last one's power", x.power(6, 127), 720);
        T.due("30: the last one's bell", x.bell(6), 29);
        T.due("30: the longer's bell, with 29 and 32", x.bell(4), 10);
        T.due("6: the last in the last shelf", x.show(7, 6), 1);
        T.due("8: his smell", x.says(7, 6), 32);
        T.due("14: the last one's square", x.squareOf(42, 1), 64);
        T.due("13: personOf(6, 0)", x.personOf(6, 0), 6);
        T.due("13: personOf(7, 0)", x.personOf(7, 0), -5);
        T.due("19: where(7, 0)", x.where(7, 0), -1);
        T.due("28: power(7, 128)", x.power(7, 128), -1);
        T.due("29: carries(128)", x.carries(128), -6);
        T.due("37: the last runs", x.act(6, 0, 0), 2 * (1 + 6 + 9));
        for (int p = 0; p < 7; p++) {
            T.due("11: all to one square", x.tell(p, 2, 0), 48 - p);
        }
        T.due("14: seven there", x.squareOf(0, 1), 127);
        T.due("31: seven there", x.crowd(0, 0), 0);
        T.due("10: no fence there", x.fence(0, true), -6);
    }

    private static void mostPeopleInTruth() {
        SeatsToTheReluctant x = seven();
        x.ask(0, 4);
        x.ask(1, 40);
        T.due("33: run(30)", x.run(30), 30);
        T.due("14: all at the lamp", x.squareOf(24, 1), 127);
        T.due("34: the first four", x.vote(), 15);
        T.due("41: sat together", x.status(6), 4);
        T.due("35: years(40)", x.years(40), 41);
        T.due("41: sat together, by 4 each", x.status(6), 164);
        T.due("39: image", x.image(), 7);
        T.due("40: restore", x.restore(), 7);
    }

    private static void mostPeopleByATextOnly() {
        SeatsToTheReluctant x = new SeatsToTheReluctant();
        StringBuilder text = new StringBuilder();
        for (int p = 0; p < 7; p++) {
            text.append(p == 0 ? "" : ";").append("person ").append(p).append(" 0 0 1 0");
        }
        T.due("seven items in", text.length(), 118);
        Due.write(x, 0, text.toString());
        T.due("15: seven", x.port(0), 7);
        T.due("41: status(0)", x.status(0), 7);
        for (int p = 0; p < 7; p++) {
            T.due("13: in their order", x.personOf(p, 0), p);
        }
        T.due("15: no room for them again", x.port(0), -6);
        T.due("16: at the first word", x.fault(), 0);
        x = new SeatsToTheReluctant();
        text.append(";person 0 0 0 1 0");
        Due.write(x, 0, text.toString());
        T.due("15: eight", x.port(0), -6);
        T.due("16: at the eighth word", x.fault(), 119);
        T.due("41: nobody then", x.status(0), 0);
    }

    /** A ROW of no elements, of each sort. */
    private static void rowOfNone() {
        for (int sort = 0; sort < 4; sort++) {
            SeatsToTheReluctant x = new SeatsToTheReluctant();
            x.person(0, 0, 0, 1, 0);
            T.due("2: row(0, " + sort + ", 0)", x.row(0, sort, 0), 1);
            T.due("7: it holds a row", x.holds(0), 100 + sort);
            T.due("5: element(0, 0)", x.element(0, 0), 0);
            T.due("3: set(0, 0, 1)", x.set(0, 0, 1), -5);
            T.due("3: set(0, -1, 1)", x.set(0, -1, 1), -5);
            T.due("15: port", x.port(0), -6);
            T.due("16: fault", x.fault(), 0);
            T.due("26: by no elements, wants", x.fits(0, 0, 0, 0), 2097151);
            T.due("26: by no elements, kinds", x.fits(0, 0, 0, 1), 127);
            T.due("26: by one", x.fits(0, 0, 1, 0), -5);
            T.due("32: by no elements", x.judge(0, 0, 0), -1);
            T.due("32: by one", x.judge(0, 1, 0), -15);
            T.due("8: says", x.says(0, 0), -2);
        }
    }

    /** A ROW of the most, of each sort: 160; and of one more. */
    private static void rowOfMost() {
        for (int sort = 0; sort < 4; sort++) {
            SeatsToTheReluctant x = new SeatsToTheReluctant();
            T.due("2: row(0, " + sort + ", 161)", x.row(0, sort, 161), -7);
            T.due("7: nothing then", x.holds(0), -1);
            T.due("2: row(0, " + sort + ", 160)", x.row(0, sort, 160), 1);
            for (int i = 0; i < 160; i++) {
                T.due("5: 0 at first", x.element(0, i), 0);
            }
            T.due("3: set(0, 0, 1)", x.set(0, 0, 1), 1);
            T.due("3: set(0, 159, 2)", x.set(0, 159, 2), 1);
            T.due("3: set(0, 160, 3)", x.set(0, 160, 3), -5);
            T.due("5: element(0, 0)", x.element(0, 0), 1);
            T.due("5: element(0, 158)", x.element(0, 158), 0);
            T.due("5: element(0, 159)", x.element(0, 159), 2);
            T.due("5: element(0, 160)", x.element(0, 160), 0);
            T.due("2: row(0, " + sort + ", 161)", x.row(0, sort, 161), -7);
            T.due("5: as it was", x.element(0, 159), 2);
            T.due("2: a shorter one", x.row(0, sort, 159), 1);
            T.due("3: set(0, 159, 1)", x.set(0, 159, 1), -5);
            T.due("2: a longer one again", x.row(0, sort, 160), 1);
            T.due("5: 0 at first, the last", x.element(0, 159), 0);
            T.due("5: 0 at first, the first", x.element(0, 0), 0);
        }
    }

    private static void copiesOfNoneAndMost() {
        SeatsToTheReluctant x = new SeatsToTheReluctant();
        x.row(0, 2, 0);
        x.row(1, 2, 160);
        x.row(2, 2, 160);
        T.due("4: none of none onto none", x.copy(0, 0, 0, 0, 0), 1);
        T.due("4: one of none", x.copy(0, 1, 0, 0, 1), -5);
        T.due("4: one onto none", x.copy(1, 0, 0, 0, 1), -5);
        T.due("4: none of none, element 1", x.copy(0, 1, 1, 0, 0), -5);
        T.due("4: none onto none, element 1", x.copy(1, 0, 0, 1, 0), -5);
        T.due("4: none of none, element -1", x.copy(0, 1, -1, 0, 0), -5);
        T.due("4: none behind the last", x.copy(1, 2, 160, 160, 0), 1);
        T.due("4: none behind that", x.copy(1, 2, 161, 160, 0), -5);
        T.due("4: none behind that", x.copy(1, 2, 160, 161, 0), -5);
        x.set(1, 0, 7);
        x.set(1, 159, 9);
        T.due("4: all", x.copy(1, 2, 0, 0, 160), 1);
        T.due("5: the first", x.element(2, 0), 7);
        T.due("5: the last", x.element(2, 159), 9);
        T.due("4: one more than all", x.copy(1, 2, 0, 0, 161), -5);
        T.due("4: all from 1", x.copy(1, 2, 1, 0, 160), -5);
        T.due("4: all to 1", x.copy(1, 2, 0, 1, 160), -5);
        T.due("4: the last to the first", x.copy(1, 2, 159, 0, 1), 1);
        T.due("5: the first", x.element(2, 0), 9);
        // Onto itself: as they were ahead, one up and one down.
        for (int i = 0; i < 160; i++) {
            x.set(1, i, i);
        }
        T.due("4: one up", x.copy(1, 1, 0, 1, 159), 1);
        T.due("5: the first", x.element(1, 0), 0);
        T.due("5: the second", x.element(1, 1), 0);
        T.due("5: the last", x.element(1, 159), 158);
        T.due("4: one down", x.copy(1, 1, 1, 0, 159), 1);
        T.due("5: the first", x.element(1, 0), 0);
        T.due("5: the last but one", x.element(1, 158), 158);
        T.due("5: the last", x.element(1, 159), 158);
    }

    /** SHELVES 0 to 7: each holds what it holds, and NOTHING at first. */
    private static void everyShelf() {
        SeatsToTheReluctant x = seven();
        for (int s = 0; s < 8; s++) {
            T.due("7: nothing at first", x.holds(s), -1);
            T.due("8: nothing says nothing", x.says(s, 0), -3);
            T.due("3: nothing to set", x.set(s, 0, 0), -3);
        }
        for (int s = 0; s < 8; s++) {
            T.due("2: row", x.row(s, s % 4, 160), 1);
            x.set(s, s, s);
        }
        for (int s = 0; s < 8; s++) {
            T.due("7: a row", x.holds(s), 100 + s % 4);
            T.due("5: its own element", x.element(s, s), s);
        }
        for (int s = 0; s < 7; s++) {
            T.due("6: show", x.show(s, s), 1);
        }
        for (int s = 0; s < 7; s++) {
            T.due("7: a person", x.holds(s), s);
            T.due("5: a person has no element", x.element(s, s), 0);
        }
        T.due("7: the last is a row still", x.holds(7), 103);
        for (int s = 0; s < 8; s++) {
            T.due("6: nothing", x.show(s, -1), 0);
            T.due("7: nothing", x.holds(s), -1);
        }
        T.due("7: holds(-1)", x.holds(-1), -1);
        T.due("7: holds(8)", x.holds(8), -1);
    }

    private static void allFences() {
        SeatsToTheReluctant x = new SeatsToTheReluctant();
        x.person(0, 0, 0, 1, 24);
        for (int square = 0; square < 49; square++) {
            x.fence(square, true);
        }
        T.due("41: fences", x.status(1), 48);
        T.due("19: he stays", x.where(0, 30), 24);
        T.due("21: he hides there", x.hide(0, 30), 24);
        T.due("23: no square is left", x.spared(0, 30), -1);
        T.due("20: he is chosen", x.chosen(30), 1);
        T.due("24: by any want", x.wanting(0, 30, 1), 20);
        T.due("27: from 1", x.tells(0, 0), 1);
        T.due("27: one square", x.tells(0, 1), 1);
        T.due("9: beside him", x.person(0, 0, 0, 1, 23), -6);
        T.due("9: where he is", x.person(0, 0, 0, 1, 24), 1);
        T.due("39: image", x.image(), 2);
        for (int square = 0; square < 49; square++) {
            T.due("10: taken away", x.fence(square, false), square == 24 ? -6 : 1);
        }
        T.due("41: no fences", x.status(1), 0);
        T.due("40: restore", x.restore(), 2);
        T.due("41: fences again", x.status(1), 48);
    }

    private static void noImageAndImageOfNobody() {
        SeatsToTheReluctant x = new SeatsToTheReluctant();
        T.due("40: none", x.restore(), -6);
        T.due("40: none", x.restore(), -6);
        T.due("41: counted", x.status(16), 2);
        T.due("39: of nobody", x.image(), 0);
        T.due("41: refusals aren't in it", x.status(16), 2);
        x.far(-1);
        T.due("40: of nobody", x.restore(), 0);
        T.due("41: refusals aren't in it", x.status(16), 3);
    }

    /** A full port takes no more by any call, and what is refused leaves all as it is. */
    private static void refusedAndNothingElse() {
        SeatsToTheReluctant x = seven();
        for (int i = 1; i <= 20; i++) {
            T.due("9: no room", x.person(0, 0, 0, 1, 0), -7);
            T.due("41: counted each time", x.status(17), i);
        }
        T.due("41: still seven", x.status(0), 7);
        for (int what = 11; what <= 16; what++) {
            T.due("41: no other", x.status(what), 0);
        }
    }
}
