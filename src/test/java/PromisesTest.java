/** For each promise of the document what it says in plain cases, at the edges, and with wrong numbers. */
public final class PromisesTest extends Edges {

    private static void p1NewObject() {
        FoxGeese x = new FoxGeese();
        counts("1", x, 5, 5, 0, 0, 0, 0, 2, 0, 0, 0, 0, 0, 0);
        due("1 of(4, 0)", x.of(4, 0), 0);
        due("1 of(4, 1)", x.of(4, 1), 24);
        due("1 part(0)", x.part(0), 0);
        due("1 part(1)", x.part(1), 1);
        statuses("1", x, 0, 0, 0);
        due("1 from(0)", x.from(0), NO);
        due("1 from(1)", x.from(1), NO);
        due("1 NONE", FoxGeese.NONE, NONE);
        due("1 BAD", FoxGeese.BAD, BAD);
        due("1 NO", FoxGeese.NO, NO);
        due("1 FULL", FoxGeese.FULL, FULL);
    }

    private static void p2Field() {
        for (int w = 1; w <= 7; w++) {
            for (int h = 1; h <= 7; h++) {
                FoxGeese x = new FoxGeese();
                boolean ok = w >= 3 && w <= 5 && h >= 3 && h <= 5;
                due("2 field(" + w + ", " + h + ")", x.field(w, h), ok ? 0 : BAD);
                due("2 w", x.count(0), ok ? w : 5);
                due("2 h", x.count(1), ok ? h : 5);
                due("2 fox's cell", x.of(4, 1), ok ? w * h - 1 : 24);
            }
        }
        FoxGeese x = new FoxGeese();
        x.fox(2, 13);
        x.thicket(20);
        x.goose(0, 8);
        x.goose(5, 0);
        x.moves(1, 5);
        x.goes(3);
        x.note(0, 1, 0, 0, 1);
        x.mark(0, 0, 1, 0, 1);
        x.image(0);
        x.type(65);
        x.luck(1);
        x.part(2);
        due("2 the geese there were, the eaten one too", x.field(4, 3), 2);
        counts("2 after", x, 4, 3, 0, 0, 0, 0, 2, 0, 0, 0, 0, 0, 1);
        due("2 kind", x.of(4, 0), 0);
        due("2 fraction stays", x.part(0), 1);
        due("2 fraction stays", x.part(1), 1);
        due("2 status stays", x.status(0), 1);
        due("2 image stays", x.from(0), 1);
        counts("2 from image", x, 5, 5, 2, 1, 0, 2, 3, 2, 1, 1, 1, 2, 1);
        due("2 BAD changes nothing", x.field(5, 2), BAD);
        due("2 geese", x.count(2), 2);
        due("2 extreme", x.field(Integer.MIN_VALUE, Integer.MAX_VALUE), BAD);
    }

    private static void p3Thicket() {
        FoxGeese x = new FoxGeese();
        x.field(3, 4);
        x.goose(0, 0);
        due("3 thicket(-1)", x.thicket(-1), BAD);
        due("3 thicket(12)", x.thicket(12), BAD);
        due("3 thicket(goose's)", x.thicket(0), NO);
        due("3 thicket(fox's)", x.thicket(11), NO);
        due("3 thicket(5)", x.thicket(5), 1);
        due("3 thicket(5)", x.thicket(5), NO);
        due("3 thicket(1)", x.thicket(1), 2);
        due("3 count(8)", x.count(8), 2);
        due("3 nobody enters it", x.can(0), bits(3));
        due("3 moves", x.moves(0, 3), 0);
        due("3 undo none behind a refused thicket, one is", x.thicket(5), NO);
        due("3 undo", x.count(11), 1);
        due("3 thicket(10)", x.thicket(10), 3);
        due("3 nothing to undo", x.undo(), NO);
        due("3 fox can't enter", x.can(4), bits(8));
        due("3 thicket where an eaten goose was", told("field 3 3;fox 2 6;goose 5 1;goose 5 3;move 0 4;go 0;").thicket(3), 1);
    }

    private static void p4Fox() {
        FoxGeese x = new FoxGeese();
        x.goose(0, 3);
        x.thicket(4);
        due("4 fox(-1, 9)", x.fox(-1, 9), BAD);
        due("4 fox(6, 9)", x.fox(6, 9), BAD);
        due("4 fox(0, 25)", x.fox(0, 25), BAD);
        due("4 fox(0, -1)", x.fox(0, -1), BAD);
        due("4 on a goose", x.fox(1, 3), NO);
        due("4 in a thicket", x.fox(1, 4), NO);
        due("4 fox(5, 12)", x.fox(5, 12), 0);
        due("4 her own cell", x.fox(2, 12), 5);
        due("4 kind", x.of(4, 0), 2);
        due("4 cell", x.of(4, 1), 12);
        x.moves(0, 8);
        due("4 turn stays", x.fox(3, 12), 2);
        due("4 turn stays", x.count(4), 1);
        due("4 moves stay", x.count(5), 1);
        due("4 nothing to undo", x.undo(), NO);
        due("4 put home", x.fox(3, 0), 3);
        due("4 home", x.count(7), 2);
    }

    private static void p5Goose() {
        FoxGeese x = new FoxGeese();
        due("5 goose(-1, 0)", x.goose(-1, 0), BAD);
        due("5 goose(6, 0)", x.goose(6, 0), BAD);
        due("5 goose(0, -1)", x.goose(0, -1), BAD);
        due("5 goose(0, 25)", x.goose(0, 25), BAD);
        x.thicket(7);
        due("5 goose(5, 0)", x.goose(5, 0), 0);
        due("5 somebody", x.goose(5, 0), NO);
        due("5 the fox", x.goose(5, 24), NO);
        due("5 a thicket", x.goose(5, 7), NO);
        x.moves(0, 5);
        due("5 undo", x.count(11), 1);
        due("5 goose(1, 1)", x.goose(1, 1), 1);
        due("5 nothing to undo", x.count(11), 0);
        due("5 goose(2, 2)", x.goose(2, 2), 2);
        due("5 goose(3, 3)", x.goose(3, 3), 3);
        due("5 full", x.goose(4, 4), FULL);
        due("5 BAD ahead of FULL", x.goose(6, 4), BAD);
        due("5 NO ahead of FULL", x.goose(4, 3), NO);
        due("5 kind", x.of(3, 0), 3);
        due("5 cell", x.of(3, 1), 3);
        FoxGeese y = told("field 3 3;fox 2 6;goose 5 1;goose 5 3;goose 5 2;goose 5 5;move 0 4;go 0;");
        due("5 eaten ones count", y.goose(0, 8), FULL);
    }

    private static void p6Type() {
        FoxGeese x = new FoxGeese();
        due("6 type(-1)", x.type(-1), BAD);
        due("6 type(128)", x.type(128), BAD);
        for (int k = 1; k <= 150; k++) due("6 type", x.type(k % 128), k);
        due("6 full", x.type(59), FULL);
        due("6 BAD ahead of FULL", x.type(200), BAD);
        due("6 bytes", x.count(12), 150);
        due("6 a full one is read", x.read(), -10);
        x.clear();
        due("6 0 is a byte", x.type(0), 1);
        due("6 127 is a byte", x.type(127), 2);
    }

    private static void p7Clear() {
        FoxGeese x = new FoxGeese();
        due("7 clear()", x.clear(), 0);
        typeAll(x, "field 3 3;");
        due("7 clear()", x.clear(), 10);
        due("7 clear()", x.clear(), 0);
        due("7 read of nothing", x.read(), -10);
    }

    private static void fault(String text, int place) {
        FoxGeese x = new FoxGeese();
        x.field(4, 4);
        x.goose(1, 2);
        x.moves(0, 6);
        x.note(1, 0, 3, 0, 1);
        typeAll(x, text);
        long before = x.digest();
        due("8 read '" + text + "'", x.read(), -10 - place);
        due("8 all stays behind '" + text + "'", x.digest(), before);
        statuses("8 '" + text + "'", x, 0, 0, 0);
    }

    private static void p8Read() {
        FoxGeese x = new FoxGeese();
        x.note(0, 0, 0, 0, 0);
        x.goose(0, 0);
        x.moves(0, 5);
        x.luck(0);
        x.image(1);
        due("8 read", readOf(x, "field 3 4;thicket 5;fox 2 10;goose 1 0;goose 5 1;move 0 4;go 9;"), 7);
        counts("8", x, 3, 4, 2, 0, 0, 2, 2, 0, 1, 0, 0, 0, 63);
        due("8 fox", x.of(4, 0), 2);
        due("8 fox", x.of(4, 1), 9);
        due("8 goose", x.of(0, 0), 1);
        due("8 goose", x.of(0, 1), 4);
        due("8 undo", x.undo(), NO);
        due("8 image stays", x.from(1), 1);
        due("8 image's notes", x.count(9), 1);
        due("8 image's undo", x.undo(), 0);
        due("8 blanks", readOf(x, "  field  5   3 ;  goose 0 00 ; fox 01 07;  "), 3);
        due("8 no blanks needed", readOf(x, "field5 5;goose3 4;move0 9;go23;"), 4);
        due("8 fox on her own", readOf(x, "field 3 3;fox 1 8;"), 2);
        due("8 pass", readOf(x, "field 3 3;pass;go 7;pass;"), 4);
        due("8 moves", x.count(5), 3);
        due("8 turn", x.count(4), 1);
        due("8 eats", readOf(x, "field 3 3;fox 2 7;goose 5 1;goose 0 0;goose 0 6;move 0 4;go 1;"), 7);
        due("8 eaten", x.count(3), 1);
        due("8 fox after moves", readOf(x, "field 3 3;pass;fox 4 4;thicket 8;goose 0 0;"), 5);
        due("8 150 bytes", readOf(x, "field 3 3;" + " ".repeat(140)), 1);

        fault("", 0);
        fault("   ", 3);
        fault("field", 5);
        fault("field 3", 7);
        fault("field 3 3", 9);
        fault("field 3 3  ", 11);
        fault("fiel", 0);
        fault(" fields 3 3;", 1);
        fault("Field 3 3;", 0);
        fault("field 2 3;", 6);
        fault("field 6 3;", 6);
        fault("field 3 2;", 8);
        fault("field 3 6;", 8);
        fault("field 33;", 6);
        fault("field 003 3;", 6);
        fault("field 3 003;", 8);
        fault("field 3;", 7);
        fault("field ;", 6);
        fault("field x 3;", 6);
        fault("field 3 3 3;", 10);
        fault("field 3 3;;", 10);
        fault("field 3\t3;", 7);
        fault("field 3 3,", 9);
        fault("goose 0 0;field 3 3;", 0);
        fault("pass;", 0);
        fault("3 3;", 0);
        fault("field 3 3;field 3 3;", 10);
        fault("field 3 3;thicket 9;", 18);
        fault("field 3 3;thicket 8;", 18);
        fault("field 3 3;thicket 0;thicket 0;", 28);
        fault("field 3 3;goose 0 0;thicket 0;", 28);
        fault("field 3 3;goose 6 0;", 16);
        fault("field 3 3;goose 0 9;", 18);
        fault("field 3 3;goose 0 8;", 18);
        fault("field 3 3;thicket 1;goose 0 1;", 28);
        fault("field 3 3;goose 0 1;goose 0 1;", 28);
        fault("field 3 3;goose 0 0;goose 0 1;goose 0 2;goose 0 3;goose 9 9;", 50);
        fault("field 3 3;fox 6 0;", 14);
        fault("field 3 3;fox 0 9;", 16);
        fault("field 3 3;goose 0 0;fox 0 0;", 26);
        fault("field 3 3;thicket 0;fox 0 0;", 26);
        fault("field 3 3;go 7;", 13);
        fault("field 3 3;pass;go 6;", 18);
        fault("field 3 3;pass;go 99;", 18);
        fault("field 3 3;pass;pass;", 15);
        fault("field 3 3;goose 0 0;pass;", 20);
        fault("field 3 3;fox 0 2;pass;", 18);
        fault("field 3 3;goose 0 0;fox 0 2;move 0 3;", 35);
        fault("field 3 3;move 0 0;", 15);
        fault("field 3 3;goose 0 0;move 1 3;", 25);
        fault("field 3 3;goose 0 0;move 0 6;", 27);
        fault("field 3 3;goose 0 0;move 0 9;", 27);
        fault("field 3 3;goose 0 0;move 0 3;move 0 4;", 36);
        fault("field 3 3;goose 0 0;move 0 3;go", 31);
        fault("field 3 3;fox 2 7;goose 5 1;goose 0 0;move 0 4;go 1;move 1 3;", 59);
        fault("field 4 4;fox 2 14;goose 5 6;goose 0 0;move 0 10;go 6;move 0 10;", 59);
        fault("field 3 3;goes 7;", 10);
        fault("field 3 3;g", 10);
        fault("field 3 3;\u007f", 10);
        fault("field 3 3;\u0000", 10);
    }

    private static void p9Goes() {
        FoxGeese x = new FoxGeese();
        due("9 not her turn", x.goes(23), NO);
        due("9 BAD", x.goes(25), BAD);
        due("9 BAD", x.goes(-1), BAD);
        x.passes();
        due("9 where she is", x.goes(24), NO);
        due("9 aslant", x.goes(18), NO);
        due("9 around the edge", x.goes(20), NO);
        due("9 a step", x.goes(19), 0);
        due("9 moves", x.count(5), 2);
        due("9 turn", x.count(4), 0);
        FoxGeese y = told("field 5 5;fox 2 17;goose 5 7;goose 0 16;move 0 12;");
        due("9 over a goose", y.can(4), bits(18, 22, 7, 15));
        due("9 onto a goose", y.goes(12), NO);
        due("9 eats", y.goes(7), 1);
        due("9 eaten", y.count(3), 1);
        due("9 eaten one's cell", y.of(0, 1), NONE);
        FoxGeese z = told("field 3 3;fox 0 4;pass;");
        due("9 home", z.goes(1), 0);
        due("9 done", z.count(7), 2);
        due("9 geese can't pass then", z.passes(), NO);
        statuses("9", z, 0, 1, 0);
    }

    private static void p10Moves() {
        FoxGeese x = told("field 5 5;goose 0 6;goose 0 7;");
        due("10 no such goose", x.moves(2, 8), BAD);
        due("10 no such goose", x.moves(-1, 8), BAD);
        due("10 the fox is none", x.moves(4, 23), BAD);
        due("10 no cell", x.moves(0, 25), BAD);
        due("10 somebody", x.moves(0, 7), NO);
        due("10 back", x.moves(0, 1), NO);
        due("10 aslant", x.moves(0, 12), NO);
        due("10 on", x.moves(0, 11), 6);
        due("10 not their turn", x.moves(1, 12), NO);
        FoxGeese y = told("field 5 5;fox 2 17;goose 5 7;goose 0 0;move 0 12;go 7;");
        due("10 eaten", y.moves(0, 17), BAD);
        due("10 the other", y.moves(1, 1), 0);
        FoxGeese z = told("field 3 3;goose 0 3;fox 0 0;");
        due("10 done", z.moves(0, 4), NO);
        FoxGeese around = told("field 3 3;goose 0 2;");
        due("10 around the edge", around.moves(0, 3), NO);
    }

    private static void p14Can() {
        for (int m = 0; m < 12; m++) {
            int on = bits(17), plain = bits(11, 13, 17);
            boolean shyWaits = m % 4 >= 2, agedWaits = m % 6 >= 4;
            due("14 shy in " + m, gooseCanIn(2, m), shyWaits ? on : plain);
            due("14 aged in " + m, gooseCanIn(4, m), agedWaits ? 0 : shyWaits ? on : plain);
            due("14 plain in " + m, gooseCanIn(0, m), plain);
            due("14 bold in " + m, gooseCanIn(1, m), bits(11, 13, 16, 17, 18));
            due("14 gander in " + m, gooseCanIn(3, m), bits(7, 11, 13, 16, 17, 18));
            due("14 gosling in " + m, gooseCanIn(5, m), on);
        }
        int cross = bits(7, 11, 13, 17), slants = bits(6, 8, 16, 18);
        for (int m = 0; m < 6; m++) {
            int[] can = {cross, cross | slants, cross, m % 2 == 1 ? bits(11, 13) : cross, cross,
                m % 2 == 1 ? cross : cross | slants};
            for (int kind = 0; kind < 6; kind++) due("14 fox " + kind + " in " + m, foxCanIn(kind, m), can[kind]);
        }
        FoxGeese x = told("field 5 5;fox 0 12;goose 0 11;goose 0 7;goose 0 8;goose 0 18;");
        int[] amid = {bits(13, 17), bits(13, 17, 6, 16), bits(13, 17, 2, 10), bits(13, 17), bits(13, 17, 2, 10, 4, 24),
            bits(13, 17, 6, 16)};
        for (int kind = 0; kind < 6; kind++) {
            x.fox(kind, 12);
            due("14 fox " + kind + " amid geese", x.can(4), amid[kind]);
            due("14 open", x.count(6), Integer.bitCount(amid[kind]));
        }
        x.thicket(2);
        x.thicket(24);
        x.fox(4, 12);
        due("14 no leap into a thicket", x.can(4), bits(13, 17, 10, 4));
        due("14 no goose", x.can(-1), BAD);
        due("14 no such", x.can(5), BAD);
        due("14 goose by the fox", x.can(0), bits(10, 16));
        due("14 no leap over a thicket", told("field 5 5;fox 4 12;thicket 11;thicket 6;").can(4), bits(7, 13, 17));
        due("14 corner", told("field 3 3;fox 1 0;").can(4), bits(1, 3, 4));
        due("14 done or not", told("field 3 3;goose 0 0;fox 1 2;").can(0), bits(1, 3));
        due("14 not by turn", told("field 3 3;goose 0 0;move 0 1;").can(0), bits(0, 2, 4));
        FoxGeese y = told("field 5 5;fox 2 17;goose 5 7;goose 0 0;move 0 12;go 7;");
        due("14 eaten", y.can(0), BAD);
    }

    /** A goose of a kind on cell 12 in move m: the fox and another goose that only goes up and down have moved. */
    private static int gooseCanIn(int kind, int m) {
        FoxGeese x = new FoxGeese();
        x.fox(0, 19);
        x.goose(3, 0);
        for (int k = 0; k < m; k++) {
            if (k % 2 == 0) x.moves(0, k % 4 == 0 ? 5 : 0);
            else x.goes(k % 4 == 1 ? 24 : 19);
        }
        x.goose(kind, 12);
        due("14 moves", x.count(5), m);
        return x.can(1);
    }

    private static int foxCanIn(int kind, int m) {
        FoxGeese x = new FoxGeese();
        for (int k = 0; k < m; k++) {
            if (k % 2 == 0) x.passes();
            else x.goes(k % 4 == 1 ? 23 : 24);
        }
        x.fox(kind, 12);
        due("14 moves", x.count(5), m);
        return x.can(4);
    }

    private static void p11Passes() {
        FoxGeese x = new FoxGeese();
        due("11 none there", x.passes(), 1);
        due("11 not their turn", x.passes(), NO);
        FoxGeese y = told("field 3 3;goose 5 6;");
        due("11 at the far side", y.passes(), 1);
        FoxGeese z = told("field 3 3;goose 5 6;goose 0 0;");
        due("11 one can step", z.passes(), NO);
        FoxGeese done = told("field 3 3;fox 0 1;");
        due("11 done", done.passes(), NO);
        statuses("11", done, 0, 1, 0);
        FoxGeese eaten = told("field 5 5;fox 2 17;goose 5 7;move 0 12;go 7;");
        due("11 all eaten", eaten.passes(), 3);
    }

    private static void p12Undo() {
        FoxGeese x = told("field 5 5;fox 2 17;goose 5 7;goose 0 0;");
        due("12 none", x.undo(), NO);
        x.moves(0, 12);
        x.note(0, 0, 0, 0, 0);
        due("12 eats", x.goes(7), 1);
        due("12 undone", x.undo(), 1);
        due("12 fox is back", x.of(4, 1), 17);
        due("12 goose is back", x.of(0, 1), 12);
        due("12 turn", x.count(4), 1);
        due("12 none eaten", x.count(3), 0);
        due("12 notes stay", x.count(9), 1);
        due("12 undone", x.undo(), 0);
        due("12 goose", x.of(0, 1), 7);
        due("12 no more", x.undo(), NO);
        statuses("12", x, 0, 2, 0);
        FoxGeese y = new FoxGeese();
        for (int k = 0; k < 10; k++) {
            if (k % 2 == 0) y.passes();
            else y.goes(k % 4 == 1 ? 23 : 24);
            due("12 8 at most", y.count(11), Math.min(k + 1, 8));
        }
        for (int k = 9; k >= 2; k--) due("12 back", y.undo(), k);
        due("12 the older are gone", y.undo(), NO);
        due("12 moves", y.count(5), 2);
        due("12 fox", y.of(4, 1), 23);
    }

    private static void p13Of() {
        FoxGeese x = told("field 5 5;fox 2 17;goose 5 7;goose 3 0;");
        due("13 goose's kind", x.of(1, 0), 3);
        due("13 goose's cell", x.of(1, 1), 0);
        due("13 fox's kind", x.of(4, 0), 2);
        due("13 fox's cell", x.of(4, 1), 17);
        due("13 no goose", x.of(2, 0), BAD);
        due("13 no goose", x.of(-1, 0), BAD);
        due("13 nobody", x.of(5, 0), BAD);
        due("13 what", x.of(4, 2), BAD);
        due("13 what", x.of(0, -1), BAD);
        x.moves(0, 12);
        x.goes(7);
        due("13 eaten one's kind", x.of(0, 0), 5);
        due("13 eaten one's cell", x.of(0, 1), NONE);
        statuses("13", x, 5, 0, 0);
    }

    private static void p15Worth() {
        FoxGeese x = told("field 3 3;goose 0 5;goose 0 7;");
        due("15 open none, geese's turn", x.worth(0), 0);
        due("15 whichever goes opens one", x.worth(1), 1);
        due("15 BAD", x.worth(-1), BAD);
        due("15 BAD", x.worth(5), BAD);
        FoxGeese home = told("field 3 3;fox 0 0;");
        for (int n = 0; n <= 4; n++) due("15 home", home.worth(n), 99);
        FoxGeese caught = told("field 3 3;thicket 5;thicket 7;pass;");
        for (int n = 0; n <= 4; n++) due("15 caught", caught.worth(n), 0);
        due("15 caught by a move", told("field 3 3;thicket 7;goose 0 4;goose 0 0;").worth(1), 0);
        due("15 passing", told("field 3 3;fox 0 4;").worth(2), 99);
        due("15 passing", told("field 3 3;fox 0 4;").worth(1), 4);
        FoxGeese y = told("field 5 5;");
        due("15 open 4 behind pass, go, pass, go", y.worth(4), 4);
        long before = y.digest();
        y.worth(4);
        y.best(4);
        due("15 nothing is changed", y.digest(), before);
    }

    private static void p16Best() {
        FoxGeese x = told("field 3 3;thicket 7;goose 0 0;goose 0 4;");
        due("16 catches", x.best(1), 105);
        due("16 of like ones the least", told("field 5 5;goose 0 0;goose 0 4;").best(1), 1);
        due("16 fox's", told("field 3 3;fox 0 4;pass;").best(1), 401);
        due("16 fox's of like ones the least", told("field 3 3;fox 1 4;pass;").best(1), 400);
        due("16 but pass", new FoxGeese().best(1), NONE);
        due("16 home", told("field 3 3;fox 0 0;").best(2), NONE);
        due("16 home with geese", told("field 3 3;goose 0 3;fox 0 0;").best(2), NONE);
        due("16 caught", told("field 3 3;thicket 5;thicket 7;pass;").best(3), NONE);
        due("16 BAD", x.best(0), BAD);
        due("16 BAD", x.best(5), BAD);
        due("16 BAD in a done game", told("field 3 3;fox 0 0;").best(0), BAD);
    }

    private static void p17Few() {
        due("17 new", new FoxGeese().few(), 4);
        due("17 home", told("field 3 3;fox 0 1;").few(), 0);
        due("17 shut in", told("field 3 3;thicket 5;thicket 7;").few(), NONE);
        due("17 aslant through", told("field 3 3;thicket 5;thicket 7;fox 1 8;").few(), 2);
        due("17 not over a goose", told("field 3 3;fox 2 7;goose 5 4;thicket 6;thicket 8;").few(), NONE);
        due("17 around geese", told("field 3 3;fox 0 7;goose 5 4;").few(), 3);
        due("17 lame, from move 0", told("field 5 5;fox 3 22;").few(), 7);
        due("17 lame, from move 1", told("field 5 5;fox 3 22;pass;").few(), 8);
        // aslant to 9 or 11 at once leads nowhere in move 1: she must be there in an even move
        due("17 old: aslant every other time", told("field 3 5;thicket 10;thicket 6;thicket 8;fox 5 13;").few(), 5);
        due("17 old", told("field 3 4;thicket 7;fox 5 10;").few(), 3);
        due("17 none by a shut row", told("field 3 3;thicket 0;thicket 1;thicket 2;").few(), NONE);
    }

    private static void luckIs(String what, FoxGeese x, int n, long above, long below) {
        due(what + " luck(" + n + ")", x.luck(n), 1);
        due(what + " above", x.part(0), above);
        due(what + " below", x.part(1), below);
    }

    private static void p18Luck() {
        FoxGeese x = told("field 3 3;fox 0 4;");
        luckIs("18", x, 0, 0, 1);
        luckIs("18", x, 1, 1, 4);
        // 1/4 at once; from 3 or 5 (each 1/4) one of 3 ways is home
        luckIs("18", x, 2, 5, 12);
        luckIs("18 home", told("field 3 3;fox 0 2;"), 0, 1, 1);
        luckIs("18 home", told("field 3 3;fox 0 2;"), 4, 1, 1);
        luckIs("18 shut in", told("field 3 3;thicket 5;thicket 7;"), 4, 0, 1);
        luckIs("18 over a goose", told("field 3 3;fox 2 7;goose 5 4;thicket 6;thicket 8;"), 1, 1, 1);
        // lame in the shut corner in move 1: she stays, a move; in move 2 she goes up the one way, in 3 she stays, in 4 home or back
        luckIs("18 who can do none stays", told("field 3 3;thicket 4;thicket 7;fox 3 8;pass;"), 4, 1, 2);
        FoxGeese y = told("field 3 3;fox 0 4;");
        y.luck(2);
        due("18 BAD", y.luck(5), BAD);
        due("18 BAD", y.luck(-1), BAD);
        due("18 BAD leaves the fraction", y.part(0), 5);
        due("18 changes but the fraction", y.count(5), 0);
    }

    private static void p19Note() {
        FoxGeese x = new FoxGeese();
        int[][] bad = {{-3, 0, 0, 0, 0}, {3, 0, 0, 0, 0}, {0, -3, 0, 0, 0}, {0, 3, 0, 0, 0}, {0, 0, -1, 0, 0},
            {0, 0, 100, 0, 0}, {0, 0, 0, -1, 0}, {0, 0, 0, 2, 0}, {0, 0, 0, 0, -1}, {0, 0, 0, 0, 2}};
        for (int[] b : bad) due("19 BAD", x.note(b[0], b[1], b[2], b[3], b[4]), BAD);
        due("19", x.note(-2, -2, 0, 0, 0), 1);
        due("19", x.note(2, 2, 99, 1, 1), 2);
        for (int k = 3; k <= 6; k++) due("19", x.note(0, 0, 0, 0, 0), k);
        due("19 full", x.note(0, 0, 0, 0, 0), FULL);
        due("19 BAD ahead of FULL", x.note(3, 0, 0, 0, 0), BAD);
        due("19 count", x.count(9), 6);
        statuses("19", x, 11, 0, 1);
    }

    private static void p20Mark() {
        FoxGeese x = told("field 5 5;fox 2 17;goose 5 7;goose 0 0;move 0 12;go 7;");
        int[][] bad = {{2, 0, 0, 0, 0}, {-1, 0, 0, 0, 0}, {4, 0, 0, 0, 0}, {0, -3, 0, 0, 0}, {0, 3, 0, 0, 0},
            {0, 0, -3, 0, 0}, {0, 0, 3, 0, 0}, {0, 0, 0, -1, 0}, {0, 0, 0, 100, 0}, {0, 0, 0, 0, -1}, {0, 0, 0, 0, 2}};
        for (int[] b : bad) due("20 BAD", x.mark(b[0], b[1], b[2], b[3], b[4]), BAD);
        due("20 of an eaten one", x.mark(0, -2, -2, 0, 0), 1);
        due("20", x.mark(1, 2, 2, 99, 1), 2);
        for (int k = 3; k <= 6; k++) due("20", x.mark(1, 0, 0, 0, 0), k);
        due("20 full", x.mark(0, 0, 0, 0, 0), FULL);
        due("20 BAD ahead of FULL", x.mark(2, 0, 0, 0, 0), BAD);
        due("20 count", x.count(10), 6);
        statuses("20", x, 12, 0, 1);
    }

    private static void p21Forget() {
        FoxGeese x = told("field 3 3;goose 0 0;");
        x.note(0, 1, 0, 0, 1);
        x.mark(0, 0, 1, 0, 1);
        x.mark(0, 1, 1, 0, 1);
        due("21 BAD", x.forget(2), BAD);
        due("21 BAD", x.forget(-1), BAD);
        due("21 notes", x.forget(0), 1);
        due("21 marks stay", x.count(10), 2);
        due("21 no notes", x.forget(0), 0);
        due("21 marks", x.forget(1), 2);
        due("21 all kinds fit again", x.kinds(0), 63);
    }

    private static int isBy(int dx, int dy, int m, int over) {
        FoxGeese x = new FoxGeese();
        x.note(dx, dy, m, over, 1);
        int may = x.is();
        x.forget(0);
        x.note(dx, dy, m, over, 0);
        due("22 who may not", x.is(), 63 - may);
        return may;
    }

    private static void p22Is() {
        due("22 no notes", new FoxGeese().is(), 63);
        due("22 stay", isBy(0, 0, 0, 0), 0);
        due("22 across", isBy(1, 0, 0, 0), 63);
        due("22 across, odd", isBy(-1, 0, 1, 0), 63);
        due("22 along, even", isBy(0, -1, 98, 0), 63);
        due("22 along, odd", isBy(0, 1, 99, 0), 63 - bits(3));
        due("22 aslant, even", isBy(1, -1, 0, 0), bits(1, 5));
        due("22 aslant, odd", isBy(-1, -1, 3, 0), bits(1));
        due("22 two, over nobody", isBy(2, 0, 0, 0), 0);
        due("22 two over a goose", isBy(-2, 0, 0, 1), bits(2, 4));
        due("22 two along over a goose", isBy(0, 2, 5, 1), bits(2, 4));
        due("22 two aslant over a goose", isBy(2, -2, 1, 1), bits(4));
        due("22 two aslant over nobody", isBy(2, -2, 1, 0), 0);
        due("22 a knight's", isBy(2, 1, 0, 1), 0);
        FoxGeese x = new FoxGeese();
        x.note(0, 1, 1, 0, 1);
        x.note(1, 1, 0, 0, 0);
        due("22 all notes together", x.is(), bits(0, 2, 4));
        x.note(2, 2, 0, 1, 0);
        x.note(2, 0, 0, 1, 1);
        due("22 the leaper", x.is(), bits(2));
    }

    private static void p23Look() {
        FoxGeese x = new FoxGeese();
        due("23 all", x.look(), 110);
        x.note(1, 1, 0, 0, 0);
        // plain, leaper, lame, hungry: by two over a goose 2 and 2, least dx -2, dy 0, m 0
        due("23 four", x.look(), 1020);
        x.note(2, 0, 0, 1, 0);
        // plain, lame: along in an odd move
        due("23 two", x.look(), 211);
        x.note(0, 1, 1, 0, 1);
        due("23 one", x.look(), 0);
        x.note(0, 0, 0, 0, 1);
        due("23 none", x.look(), NONE);
        statuses("23", x, 0, 0, 0);
        FoxGeese y = new FoxGeese();
        y.note(1, 1, 0, 0, 1);
        due("23 sly, old", y.look(), 111);
    }

    private static int kindsBy(int dx, int dy, int m) {
        FoxGeese x = told("field 3 3;goose 0 0;goose 0 1;");
        x.mark(1, dx, dy, m, 1);
        int may = x.kinds(1);
        due("24 the other's", x.kinds(0), 63);
        x.forget(1);
        x.mark(1, dx, dy, m, 0);
        due("24 who may not", x.kinds(1), 63 - may);
        return may;
    }

    private static void p24Kinds() {
        due("24 on", kindsBy(0, 1, 0), 63);
        due("24 on in 2", kindsBy(0, 1, 2), 63);
        due("24 on in 4", kindsBy(0, 1, 4), 63 - bits(4));
        due("24 on in 5", kindsBy(0, 1, 95), 63 - bits(4));
        due("24 on in 6", kindsBy(0, 1, 6), 63);
        due("24 aside in 0", kindsBy(1, 0, 0), 63 - bits(5));
        due("24 aside in 1", kindsBy(-1, 0, 97), 63 - bits(5));
        due("24 aside in 2", kindsBy(-1, 0, 98), bits(0, 1, 3));
        due("24 aside in 3", kindsBy(1, 0, 3), bits(0, 1, 3));
        due("24 aside in 4", kindsBy(1, 0, 4), bits(0, 1, 2, 3));
        due("24 aslant on", kindsBy(-1, 1, 0), bits(1, 3));
        due("24 aslant back", kindsBy(1, -1, 0), 0);
        due("24 back", kindsBy(0, -1, 7), bits(3));
        due("24 stay", kindsBy(0, 0, 0), 0);
        due("24 two", kindsBy(0, 2, 0), 0);
        due("24 two aside", kindsBy(2, 0, 0), 0);
        FoxGeese x = told("field 5 5;fox 2 17;goose 5 7;move 0 12;go 7;");
        due("24 eaten", x.kinds(0), 63);
        due("24 BAD", x.kinds(1), BAD);
        due("24 BAD", x.kinds(-1), BAD);
        due("24 BAD", x.kinds(4), BAD);
    }

    private static void p25Ask() {
        FoxGeese x = told("field 3 3;goose 0 0;goose 0 1;");
        due("25 all", x.ask(0), 122);
        x.mark(0, 1, 0, 2, 0);
        // shy, aged, gosling: 2 and 1 aside in move 0
        due("25 three", x.ask(0), 120);
        x.mark(0, 1, 0, 0, 1);
        // shy, aged: aside in move 4
        due("25 two", x.ask(0), 124);
        due("25 the other's", x.ask(1), 122);
        x.mark(0, 0, 1, 4, 0);
        due("25 one", x.ask(0), 0);
        x.mark(0, 0, 0, 0, 1);
        due("25 none", x.ask(0), NONE);
        statuses("25", x, 0, 0, 0);
        due("25 BAD", x.ask(2), BAD);
        due("25 BAD", x.ask(-1), BAD);
        due("25 BAD", x.ask(4), BAD);
    }

    private static void p26Evenings() {
        FoxGeese x = told("field 3 3;fox 0 4;");
        due("26 none", x.evenings(0, 0), 0);
        due("26 a pass", x.evenings(0, 1), 0);
        // seed 0: X is 12345, then 12345 * 1103515245 + 12345 by 2^31: 1406932606, by 65536 21468: by 4 leaves 0: cell 1
        due("26 home", x.evenings(0, 2), 2);
        due("26 no more then", x.evenings(0, 60), 2);
        due("26 home at first", told("field 3 3;fox 0 0;").evenings(5, 0), 2);
        due("26 caught", told("field 3 3;thicket 5;thicket 7;").evenings(999999, 1), 1);
        long before = x.digest();
        x.evenings(77, 60);
        due("26 nothing is changed", x.digest(), before);
        due("26 BAD", x.evenings(-1, 0), BAD);
        due("26 BAD", x.evenings(1000000, 0), BAD);
        due("26 BAD", x.evenings(0, -1), BAD);
        due("26 BAD", x.evenings(0, 61), BAD);
    }

    private static void p27Part() {
        FoxGeese x = told("field 3 3;fox 0 4;");
        due("27", x.part(0), 0);
        due("27", x.part(1), 1);
        x.luck(1);
        due("27", x.part(0), 1);
        due("27", x.part(1), 4);
        due("27 BAD", x.part(2), BAD);
        due("27 BAD", x.part(-1), BAD);
        due("27 status", x.status(0), 2);
        x.luck(0);
        due("27 nothing by one", x.part(1), 1);
    }

    private static void p28and29Images() {
        FoxGeese x = told("field 5 5;fox 2 17;goose 5 7;goose 0 0;");
        x.moves(0, 12);
        x.note(0, 1, 0, 0, 1);
        x.mark(1, 0, 1, 0, 1);
        due("28", x.image(1), 1);
        due("29 none was kept", x.from(0), NO);
        due("28", x.image(0), 1);
        x.goes(7);
        x.forget(0);
        x.forget(1);
        x.luck(1);
        x.type(32);
        due("29", x.from(1), 1);
        counts("29", x, 5, 5, 2, 0, 1, 1, 4, 0, 0, 1, 1, 1);
        due("29 the fraction stays", x.part(1), 4);
        due("29 the text stays", x.clear(), "field 5 5;fox 2 17;goose 5 7;goose 0 0;".length() + 1);
        due("29 undo", x.undo(), 0);
        due("29 goose", x.of(0, 1), 7);
        x.field(3, 3);
        due("29 again", x.from(1), 1);
        due("29 what was done later is not in it", x.of(0, 1), 12);
        due("29 undo again", x.undo(), 0);
        due("28 kept anew", x.image(1), 1);
        x.field(3, 3);
        x.from(1);
        due("29 the new one", x.count(5), 0);
        x.from(0);
        due("29 the other one", x.count(5), 1);
        due("28 BAD", x.image(2), BAD);
        due("28 BAD", x.image(-1), BAD);
        due("29 BAD", x.from(2), BAD);
        due("29 BAD", x.from(-1), BAD);
        statuses("29 status stays", x, 4, 1, 0);
    }

    private static void p30Status() {
        FoxGeese x = new FoxGeese();
        due("30 another", x.status(3), -1);
        due("30 counts as BAD", x.status(0), 1);
        due("30 another", x.status(-1), -1);
        due("30 counts as BAD", x.status(0), 2);
        x.undo();
        x.goes(0);
        x.can(0);
        for (int k = 0; k < 4; k++) x.goose(0, k);
        x.goose(0, 5);
        x.read();
        x.look();
        due("30 none is no refusal", told("field 3 3;fox 0 0;").best(1), NONE);
        statuses("30", x, 3, 2, 1);
    }

    private static void p31Count() {
        FoxGeese x = told("field 4 5;fox 1 14;thicket 0;thicket 1;goose 5 2;goose 5 3;");
        x.moves(0, 6);
        x.note(0, 0, 0, 0, 0);
        x.mark(0, 0, 0, 0, 0);
        x.mark(0, 0, 0, 0, 0);
        counts("31", x, 4, 5, 2, 0, 1, 1, 8, 0, 2, 1, 2, 1, 59);
        due("31 BAD", x.count(13), BAD);
        due("31 BAD", x.count(-1), BAD);
        due("31 home", told("field 3 3;fox 0 0;").count(7), 2);
        due("31 caught", told("field 3 3;thicket 5;thicket 7;pass;").count(7), 1);
        due("31 not her turn", told("field 3 3;thicket 5;thicket 7;").count(7), 0);
        due("31 home though shut in", told("field 3 3;pass;fox 0 0;thicket 1;thicket 3;").count(7), 2);
    }

    private static void p32Digest() {
        long[] fresh = {5, 5, 0, 0, 0, 0, 2, 0, 0, 0, 0, 0, 0, 0, 0, 24, 0, 1};
        due("32 new", new FoxGeese().digest(), digestOf(fresh));
        FoxGeese x = told("field 5 5;thicket 1;thicket 4;fox 2 17;goose 5 7;goose 3 0;move 0 12;go 7;");
        x.note(-2, 1, 99, 1, 0);
        x.note(2, 0, 7, 0, 1);
        x.mark(1, -1, -2, 5, 1);
        x.luck(2);
        long above = x.part(0), below = x.part(1);
        long[] all = {5, 5, 2, 1, 0, 2, x.count(6), 0, 2, 2, 1, 0, 74, bits(1, 4), 2, 7, 5, -1, 3, 0, -2, 1, 99, 1, 0,
            2, 0, 7, 0, 1, 1, -1, -2, 5, 1, above, below};
        due("32 all", x.digest(), digestOf(all));
        x.part(9);
        due("32 status is not in it", x.digest(), digestOf(all));
    }

    private static long digestOf(long[] all) {
        long h = 1847;
        for (long v : all) h = 31 * h + v;
        return h;
    }

    /** No call throws, whatever the numbers are. */
    private static void extremes() {
        int[] odd = {Integer.MIN_VALUE, -1000, -1, 0, 1, 2, 3, 4, 5, 24, 25, 31, 32, 63, 100, 1000, Integer.MAX_VALUE};
        for (int a : odd) {
            FoxGeese x = told("field 5 5;fox 2 17;goose 5 7;goose 0 0;move 0 12;go 7;");
            for (int b : odd) {
                x.field(a, b);
                x.fox(a, b);
                x.goose(a, b);
                x.moves(a, b);
                x.of(a, b);
                x.evenings(a, b);
                x.note(a, b, a, b, a);
                x.mark(a, b, a, b, a);
            }
            x.thicket(a);
            x.type(a);
            x.goes(a);
            x.can(a);
            x.worth(a);
            x.best(a);
            x.luck(a);
            x.forget(a);
            x.kinds(a);
            x.ask(a);
            x.part(a);
            x.image(a);
            x.from(a);
            x.status(a);
            x.count(a);
            x.digest();
        }
    }

    public static void main(String[] args) {
        p1NewObject();
        p2Field();
        p3Thicket();
        p4Fox();
        p5Goose();
        p6Type();
        p7Clear();
        p8Read();
        p9Goes();
        p10Moves();
        p11Passes();
        p12Undo();
        p13Of();
        p14Can();
        p15Worth();
        p16Best();
        p17Few();
        p18Luck();
        p19Note();
        p20Mark();
        p21Forget();
        p22Is();
        p23Look();
        p24Kinds();
        p25Ask();
        p26Evenings();
        p27Part();
        p28and29Images();
        p30Status();
        p31Count();
        p32Digest();
        extremes();
        Due.end();
    }
}
