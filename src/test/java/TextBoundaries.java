import java.util.List;
import java.util.Set;
import java.util.TreeSet;

/** Boundary cases of a loft's text: its tokens, its lines, how much of each there may be, and its faults. */
final class TextBoundaries {
    private static final int NONE = CordLoft.NONE;
    private static final String TWO = "lamp a;lamp b;";
    private static final List<String> UNITS = List.of("lit", "near", "cords", "number", "watts", "night");

    private TextBoundaries() {
    }

    static void test() {
        bytesAtMost();
        emptyAtFirst();
        tokens();
        lines();
        numbers();
        amounts();
        formulas();
        faults();
    }

    private static void bytesAtMost() {
        Sentence.of(Sentence.TERMS, "A LOFT is a text of at most 1,600 bytes");
        Check.sound(" ".repeat(1593) + "lamp a;", 1);
        Check.fault(2, " ".repeat(1594) + "lamp a^");
        Check.fault(1, "\n".repeat(1599) + "^$");
        // as many tokens as bytes
        Check.fault(2, "^" + ";".repeat(1600));
        Check.fault(2, "dusk(((((((^" + "(".repeat(1589));
        CordLoft x = new CordLoft();
        Check.feed(x, "lamp a;" + " ".repeat(1593));
        Check.due("a byte more", x.feed(0x24242424, 0, 0, 0, 0), NONE);
        Check.due("loft() of 1,600", x.loft(), 1);
    }

    private static void emptyAtFirst() {
        Sentence.of(Sentence.TERMS, "(empty at first): loft = {line}.");
        CordLoft x = new CordLoft();
        Check.due("lamps at first", x.about(0), 0);
        Check.due("cords at first", x.about(1), 0);
        Check.due("no line at all", x.loft(), 0);
        Check.due("no fault", x.fault(0), 0);
        Check.sound("\n \n", 0);
        Check.sound("least 1;", 0);
        Check.sound("least 1;draw 1;", 0);
        Check.fault(2, "^;");
        Check.fault(2, "least 1;^;");
        Check.fault(2, "least 1^");
    }

    private static void tokens() {
        words();
        letters();
        digits();
        signs();
        blanks();
        asLongAsCanBe();
        noLetterBehind();
        keptWords();
    }

    private static void words() {
        Sentence.of(Sentence.TERMS, "words (a .. z, 8 at most)");
        Check.sound("lamp a;lamp abcdefgh;cord stuvwxyz turns abcdefgh;next a abcdefgh;", 2);
        Check.fault(1, "lamp ^abcdefghi;");
        Check.fault(1, "lamp a;cord ^stuvwxyza turns a;");
        Check.fault(1, "lamp abcdefgh;cord c turns ^abcdefghi;");
        Check.fault(1, "lamp abcdefgh;lamp b;next b ^abcdefghh;");
        Check.fault(1, "^lamplampl");
        Check.fault(2, "^lamplamp");
        Check.fault(1, "dusk ^numbernum;");
        Check.fault(1, "^" + "a".repeat(1600));
        // all eight letters tell names apart, the first and the last one too
        Check.sound("lamp aaaaaaaa;lamp aaaaaaab;lamp baaaaaaa;lamp aaaaaaa;lamp zzzzzzzz;lamp zzzzzzzy;lamp yzzzzzzz;", 7);
        Check.fault(3, "lamp zzzzzzzz;lamp zzzzzzzy;lamp ^zzzzzzzy;");
    }

    private static void letters() {
        Sentence.of(Sentence.TERMS, "(a .. z, 8 at most)");
        Check.sound("lamp a;lamp z;", 2);
        // the bytes beside a and z, and those of capitals
        Check.fault(1, "lamp ^`;");
        Check.fault(1, "lamp ^{;");
        Check.fault(1, "lamp ^A;");
        Check.fault(1, "lamp ^Z;");
        Check.fault(1, "lamp a^Z;");
        Check.fault(1, "lamp ^\u00e9;");
    }

    private static void digits() {
        Sentence.of(Sentence.TERMS, "N (1 to 4 digits)");
        Check.sound("dusk 0;", 0);
        Check.sound("dusk 9;", 0);
        Check.sound("dusk 9999;", 0);
        Check.sound("dusk 0000;", 0);
        Check.fault(1, "dusk ^10000;");
        Check.fault(1, "dusk ^00000;");
        Check.fault(1, "dusk 1+^12345;");
        Check.fault(1, "^" + "9".repeat(1600));
        // ahead of 0 comes /, behind 9 comes :
        Check.fault(2, "dusk ^/;");
        Check.fault(1, "dusk ^:;");
        for (String line : List.of("lamp a watts ", "least ", "gusts ", "draw ", "lamp a;cord c turns a costs ")) {
            Check.fault(1, line + "^00000;");
            Check.due("four digits", Check.read(new CordLoft(), line + "0000;") >= 0, true);
        }
    }

    private static void signs() {
        Sentence.of(Sentence.TERMS, "signs ; ( ) < > = + - * / %");
        for (int code = 0; code < 256; code++) {
            char sign = (char) code;
            boolean isBlank = code == 32 || code == 10;
            boolean isDigit = sign >= '0' && sign <= '9';
            boolean isSign = ";()<>=+-*/%".indexOf(sign) >= 0;
            if (sign >= 'a' && sign <= 'z') {
                Check.fault("lamp k" + sign, 2, 7);
            } else if (sign == ';') {
                Check.sound("lamp k;", 1);
            } else if (isBlank) {
                Check.fault("lamp k" + sign, 2, 7);
            } else {
                Check.fault("lamp k" + sign, isDigit || isSign ? 2 : 1, 6);
            }
        }
    }

    private static void blanks() {
        Sentence.of(Sentence.TERMS, "blanks (32, 10) part them or not");
        Check.sound("lamp a;lamp b;dusk(1)+lit*2<3 or(not(4)and 5);", 2);
        Check.sound("\n lamp\n\na \n;\n", 1);
        Check.sound("lamp a watts5;", 1);
        Check.fault(2, "^la mp a;");
        Check.fault(2, "dusk 1 ^2;");
        Check.fault(2, "lamp a\n^b;");
        Check.fault(1, "lamp^\ta;");
        Check.fault(1, "lamp^\ra;");
        Check.fault(1, "lamp^\u000ba;");
        Check.fault(1, "lamp^\u00a0a;");
        Check.fault(1, "lamp^\0a;");
    }

    private static void asLongAsCanBe() {
        Sentence.of(Sentence.TERMS, "each is as long as can be");
        Check.fault(2, "^lampa;");
        Check.fault(2, "lamp litwatts^");
        Check.fault(2, "lamp a lit ^wattsi;");
        CordLoft x = Check.with("lamp a;dusk 10=9+1;");
        Check.due("10 is ten", x.dusk(), 1);
        Check.fault(2, "dusk ^notlit;");
        Check.sound("lamp lamplamp;lamp notlit;lamp watt;lamp o;lamp ands;", 5);
    }

    private static void noLetterBehind() {
        Sentence.of(Sentence.TERMS, "no letter directly behind an N");
        Check.fault(1, "lamp a watts ^5lit;");
        Check.fault(1, "dusk ^1and 2;");
        Check.fault(1, "dusk 1 and ^2or 3;");
        Check.fault(1, "dusk ^1234z;");
        Check.fault(1, "dusk ^1a");
        Check.sound("dusk 1 and 2\nor 3;", 0);
        Check.sound("dusk 1+lit;", 0);
        // a letter may stand ahead of one, and ends there
        Check.fault(2, "lamp a^1;");
        Check.sound("dusk not1;", 0);
        Check.sound("least8;gusts100;draw999;", 0);
    }

    private static void keptWords() {
        Sentence.of(Sentence.TERMS, "Words that stand for themselves here are no NAMES.");
        Check.due("kept words", Model.KEPT.size(), 18);
        for (String word : new TreeSet<>(Model.KEPT)) {
            Check.fault(2, "lamp ^" + word + ";");
            Check.fault(2, TWO + "cord ^" + word + " turns a;");
            Check.fault(2, TWO + "cord c turns ^" + word + ";");
            Check.fault(2, TWO + "next ^" + word + " a;");
            Check.fault(2, TWO + "next a ^" + word + ";");
            String shorter = word.substring(1);
            Check.sound("lamp " + word + "x;lamp q" + shorter + ";lamp " + word.substring(0, 1) + ";", 3);
        }
        // words of the grammar that no text has
        Check.sound("lamp line;lamp e;lamp both;lamp one;lamp sum;lamp term;lamp unit;lamp loft;", 8);
    }

    private static void lines() {
        Sentence.of(Sentence.TERMS, "line = lamp NAME [lit] [watts N] ;");
        for (String line : List.of("", "lit", "watts 7", "lit watts 7")) {
            CordLoft x = Check.with("lamp z " + line + ";");
            Check.due("lit by '" + line + "'", x.lamp(0, 0), line.contains("lit") ? 1 : 0);
            Check.due("watts by '" + line + "'", x.lamp(0, 1), line.contains("watts") ? 7 : 1);
        }
        places("", "lamp cord next dusk least gusts draw END");
        places("lamp", "NAME");
        places("lamp z", "lit watts ;");
        places("lamp z lit", "watts ;");
        places("lamp z watts", "N");
        places("lamp z watts 1", ";");
        places("lamp z lit watts", "N");
        Sentence.of(Sentence.TERMS, "cord NAME turns NAME {NAME} [costs N] ;");
        places("cord", "NAME");
        places("cord z", "turns");
        places("cord z turns", "NAME");
        places("cord z turns a", "NAME costs ;");
        places("cord z turns a b", "NAME costs ;");
        places("cord z turns a costs", "N");
        places("cord z turns a costs 1", ";");
        Sentence.of(Sentence.TERMS, "next NAME NAME ;");
        places("next", "NAME");
        places("next a", "NAME");
        places("next a b", ";");
        Sentence.of(Sentence.TERMS, "least N ; | gusts N ; | draw N ;.");
        for (String word : List.of("least", "gusts", "draw")) {
            places(word, "N");
            places(word + " 1", ";");
        }
        rules();
    }

    private static void rules() {
        String units = "N lit near cords number watts night (";
        Sentence.of(Sentence.TERMS, "dusk e ;");
        places("dusk", units + " not");
        places("dusk 1", "or and < > = + - * / % ;");
        Sentence.of(Sentence.TERMS, "e = both {or both}. both = one {and one}.");
        places("dusk 1 or", units + " not");
        places("dusk 1 and", units + " not");
        Sentence.of(Sentence.TERMS, "one = not one | sum [(< | > | =) sum].");
        places("dusk not", units + " not");
        places("dusk not 1", "or and < > = + - * / % ;");
        for (String relation : List.of("<", ">", "=")) {
            places("dusk 1 " + relation, units);
            places("dusk 1 " + relation + " 2", "or and + - * / % ;");
        }
        Sentence.of(Sentence.TERMS, "sum = term {(+ | -) term}. term = unit {(* | / | %) unit}.");
        for (String joint : List.of("+", "-", "*", "/", "%")) {
            places("dusk 1 " + joint, units);
            places("dusk 1 " + joint + " 2", "or and < > = + - * / % ;");
        }
        Sentence.of(Sentence.TERMS, "unit = N | lit | near | cords | number | watts | night | ( e ).");
        for (String unit : UNITS) {
            places("dusk " + unit, "or and < > = + - * / % ;");
        }
        places("dusk (", units + " not");
        places("dusk ( 1", "or and < > = + - * / % )");
        places("dusk ( 1 )", "or and < > = + - * / % ;");
    }

    /** Behind the words of a line just these tokens can stand; each other one is a fault 2 at its own place. */
    private static void places(String words, String tokens) {
        Set<String> can = Set.of(tokens.split(" "));
        String ahead = "lamp a;lamp b;lamp c;" + words;
        Check.due("the end behind " + words, isFaultAt(ahead, ahead.length()), !can.contains("END"));
        String name = words.equals("lamp") ? "fresh" : "c";
        place(ahead, name, can.contains("NAME"));
        place(ahead, "1", can.contains("N"));
        for (char sign : ";()<>=+-*/%".toCharArray()) {
            place(ahead, String.valueOf(sign), can.contains(String.valueOf(sign)));
        }
        for (String word : new TreeSet<>(Model.KEPT)) {
            place(ahead, word, can.contains(word));
        }
    }

    private static void place(String ahead, String token, boolean can) {
        String text = ahead + " " + token;
        Check.due(token + " behind " + ahead + " is a fault 2 there", isFaultAt(text, ahead.length() + 1), !can);
    }

    private static boolean isFaultAt(String text, int place) {
        CordLoft x = new CordLoft();
        return Check.read(x, text) == NONE && x.fault(0) == 2 && x.fault(1) == place;
    }

    private static void numbers() {
        Sentence.of(Sentence.TERMS, "(watts 0 .. 99, 1 if not told)");
        Check.due("watts 0", Check.with("lamp a watts 0;").lamp(0, 1), 0);
        Check.due("watts 99", Check.with("lamp a watts 99;").lamp(0, 1), 99);
        Check.due("watts 0099", Check.with("lamp a watts 0099;").lamp(0, 1), 99);
        Check.due("watts not told", Check.with("lamp a;").lamp(0, 1), 1);
        Check.fault(4, "lamp a watts ^100;");
        Check.fault(4, "lamp a watts ^9999;");
        Sentence.of(Sentence.TERMS, "costs 0 .. 20, 1 if not told)");
        Check.due("costs 0", Check.with("lamp a;cord c turns a costs 0;").cord(0, 1), 0);
        Check.due("costs 20", Check.with("lamp a;cord c turns a costs 20;").cord(0, 1), 20);
        Check.due("costs not told", Check.with("lamp a;cord c turns a;").cord(0, 1), 1);
        Check.fault(4, "lamp a;cord c turns a costs ^21;");
        Check.fault(4, "lamp a;cord c turns a costs ^9999;");
        Sentence.of(Sentence.TERMS, "least (0 .. 8; 0)");
        Check.due("least 0", Check.with("least 0;").about(13), 0);
        Check.due("least 8", Check.with("least 8;").about(13), 8);
        Check.due("least not told", Check.with("").about(13), 0);
        Check.fault(4, "least ^9;");
        Sentence.of(Sentence.TERMS, "gusts (0 .. 100 of 100; 0)");
        Check.due("gusts 0", Check.with("gusts 0;").about(14), 0);
        Check.due("gusts 100", Check.with("gusts 100;").about(14), 100);
        Check.due("gusts not told", Check.with("").about(14), 0);
        Check.fault(4, "gusts ^101;");
        Sentence.of(Sentence.TERMS, "draw (0 .. 999; 0)");
        Check.due("draw 0", Check.with("draw 0;").about(5), 0);
        Check.due("draw 999", Check.with("draw 999;").about(5), 999);
        Check.due("draw not told", Check.with("").about(5), 0);
        Check.fault(4, "draw ^1000;");
    }

    private static void amounts() {
        Sentence.of(Sentence.TERMS, "At most 8 LAMPS");
        Check.sound(Lofts.EIGHT_LAMPS, 8);
        Check.fault(2, Lofts.EIGHT_LAMPS + "^lamp i;");
        Sentence.of(Sentence.TERMS, "8 CORDS");
        Check.due("eight cords", Lofts.eight().about(1), 8);
        Check.fault(2, Lofts.EIGHT + "^cord i turns a;");
        Sentence.of(Sentence.TERMS, "(of LAMPS told ahead, each once;");
        Check.due("all eight", Check.with(Lofts.EIGHT_LAMPS + "cord c turns h g f e d c b a;").cord(0, 0), 255);
        Check.fault(3, Lofts.EIGHT_LAMPS + "cord c turns h g f e d c b a ^a;");
        Check.fault(5, "lamp a;cord c turns a ^b;lamp b;");
        Sentence.of(Sentence.TERMS, "numbered as told, each sort by itself;");
        CordLoft x = Check.with("lamp q watts 3;lamp b lit;cord z turns b;lamp a watts 9;cord a turns a q costs 5;");
        Check.due("the third lamp is 2", x.lamp(2, 1), 9);
        Check.due("the first lamp is 0", x.lamp(0, 1), 3);
        Check.due("the first cord is 0", x.cord(0, 0), 2);
        Check.due("the second cord is 1", x.cord(1, 0), 5);
        Sentence.of(Sentence.TERMS, "next (two unlike LAMPS told ahead; each two once, in whatever order)");
        allNext();
        Check.fault(3, TWO + "next a ^a;");
        Check.fault(5, "lamp a;next a ^b;lamp b;");
        Check.fault(5, "lamp a;next ^b a;lamp b;");
        Check.fault(3, TWO + "next a b;next a ^b;");
        Check.fault(3, TWO + "next a b;next b ^a;");
        Sentence.of(Sentence.TERMS, "dusk, least (0 .. 8; 0), gusts (0 .. 100 of 100; 0), draw (0 .. 999; 0) once each;");
        Check.sound("dusk 1;least 1;gusts 1;draw 1;", 0);
        Check.sound("draw 1;gusts 1;least 1;dusk 1;", 0);
        for (String line : List.of("dusk 1;", "least 1;", "gusts 1;", "draw 1;")) {
            Check.fault(2, line + "lamp a;^" + line);
            for (String between : List.of("dusk 0;", "least 0;", "gusts 0;", "draw 0;")) {
                boolean like = line.startsWith(between.substring(0, 4));
                Check.fault(2, line + (like ? "" : between) + "^" + line);
            }
        }
    }

    /** Each of the 28 twos may be told once. */
    private static void allNext() {
        StringBuilder text = new StringBuilder(Lofts.EIGHT_LAMPS);
        for (char a = 'a'; a <= 'h'; a++) {
            for (char b = 'a'; b < a; b++) {
                text.append("next ").append(a).append(' ').append(b).append(';');
            }
        }
        CordLoft x = Check.with(text.toString());
        for (int lamp = 0; lamp < 8; lamp++) {
            Check.due("all the others hang next to it", x.lamp(lamp, 3), 255 ^ 1 << lamp);
        }
    }

    private static void formulas() {
        Sentence.of(Sentence.TERMS, "60 units in all, 30 in one e");
        Check.due("thirty", Check.with("dusk 1" + "+1".repeat(29) + ";").about(11), 30);
        Check.fault(2, "dusk 1" + "+1".repeat(29) + "+^1;");
        Check.fault(2, "dusk 1" + "+1".repeat(29) + " or ^lit;");
        Check.fault(2, "dusk 1" + "+1".repeat(29) + "*^(1);");
        Check.fault(2, "dusk 1" + "+1".repeat(29) + " and not ^1;");
        // ( e ) is one itself, and what stands within it counts
        Check.due("one and 29 within it", Check.with("dusk (1" + "+1".repeat(28) + ");").about(11), 30);
        Check.fault(2, "dusk (1" + "+1".repeat(28) + "+^1);");
        Check.fault(2, "dusk (1" + "+1".repeat(28) + ")*^1;");
        Check.fault(2, "dusk 1" + "+1".repeat(28) + "+(^1);");
        Check.due("28 and ( ) of one", Check.with("dusk 1" + "+1".repeat(27) + "+(1);").about(11), 30);
        // seven nots ahead of each of thirty
        String seven = "not ".repeat(7);
        String nots = "lamp a;dusk " + (seven + "0 and ").repeat(29) + seven;
        Check.due("all thirty", Check.with(nots + "0;").dusk(), 1);
        Check.due("the last of thirty", Check.with(nots + "1;").dusk(), 0);
        // relations, nots and joints are none
        String rule = "dusk not not 1<2 and not 3>4 or 5=6 and 7%8/9;";
        Check.due("nine", Check.with(rule).about(11), 9);
        Sentence.of(Sentence.TERMS, "(a unit ( e ), or a one behind not, within 6 others at most)");
        Check.sound("dusk (((((((1)))))));", 0);
        Check.fault(2, "dusk (((((((^(1))))))));");
        Check.sound("dusk not not not not not not not 1;", 0);
        Check.fault(2, "dusk not not not not not not not ^not 1;");
        Check.sound("dusk (not (not (not (1))));", 0);
        Check.fault(2, "dusk (not (not (not (^not 1))));");
        Check.sound("dusk not (not (not (not 1)));", 0);
        Check.fault(2, "dusk not (not (not (not ^(1))));");
        // beside one another they are not within one another
        Check.sound("dusk (((((((1)))))))*(((((((1)))))))+((((1))));", 0);
        Check.sound("dusk (((((((1))))))) and not not not not not not not 1 or not (1);", 0);
        // a relation's second part is within no more than its first one
        Check.sound("dusk (((((((1<2)))))))=(((((((3>4)))))));", 0);
    }

    private static void faults() {
        firstByPlace();
        leastAtOnePlace();
        noToken();
        cannotStand();
        toldAlready();
        numberThatCannotBe();
        nameOfNoLamp();
    }

    private static void firstByPlace() {
        Sentence.of(Sentence.TERMS, "FAULTS, the first by its place (bytes from 0; the end: the text's length)");
        Check.fault(1, "^$");
        Check.fault(2, "^a");
        Check.fault(2, "lamp^");
        Check.fault(2, "lamp \n  ^");
        Check.fault(2, "lamp a;lamp b^");
        // two faults in one text, the greater one first
        Check.fault(5, "lamp a;cord c turns ^b;lamp a;");
        Check.fault(4, "lamp a watts ^100;$");
        Check.fault(3, "lamp a;lamp ^a watts 100;");
        Check.fault(2, "lamp ^lit;$");
        Check.fault(1, "lamp ^$;lamp lit;");
        Check.fault(4, "least ^9;least 9;");
        Check.fault(5, "lamp a;next ^z z;");
    }

    private static void leastAtOnePlace() {
        Sentence.of(Sentence.TERMS, "at one place the least:");
        // 1 and 2
        Check.fault(1, "lamp a ^$");
        Check.fault(1, "lamp ^12345;");
        Check.fault(1, "^abcdefghi");
        // 1 and 4
        Check.fault(1, "lamp a watts ^12345;");
        Check.fault(1, "draw ^1000a;");
        // 2 and 3
        Check.fault(2, "lamp a ^a;");
        Check.fault(2, TWO + "next a b ^a;");
        // 2 and 4
        Check.fault(2, "lamp ^100;");
        Check.fault(2, "lamp a ^100;");
        Check.fault(2, "least 1 ^9;");
        // 2 and 5
        Check.fault(2, "lamp a ^z;");
        Check.fault(2, "lamp a;cord c ^z;");
        Check.fault(2, TWO + "next a b ^z;");
    }

    private static void noToken() {
        Sentence.of(Sentence.TERMS, "1 no TOKEN;");
        Check.fault(1, "^!");
        Check.fault(1, "lamp a;^_");
        Check.fault(1, "lamp a^,");
        Check.fault(1, "lamp ^wattswatts;");
        Check.fault(1, "gusts ^00100;");
        Check.fault(1, "lamp a watts ^1lit;");
        Check.fault(1, "dusk 1 ^& 2;");
    }

    private static void cannotStand() {
        Sentence.of(Sentence.TERMS, "2 one that can't stand there");
        Check.fault(2, "^5");
        Check.fault(2, "^turns");
        Check.fault(2, "lamp a watts ^x;");
        Check.fault(2, TWO + "cord c ^a;");
        Check.fault(2, "dusk 1<2^<3;");
        Check.fault(2, "dusk ^-1;");
        Check.fault(2, "dusk (^);");
        Check.fault(2, "dusk 1^);");
        Sentence.of(Sentence.TERMS, "(one of a sort too many or a second time: at the line's first word;");
        Check.fault(2, Lofts.EIGHT_LAMPS + " \n^lamp");
        Check.fault(2, Lofts.EIGHT_LAMPS + "^lamp a lit watts 100;");
        Check.fault(2, Lofts.EIGHT + " ^cord a turns z;");
        Check.fault(2, Lofts.EIGHT + "^cord");
        for (String word : List.of("dusk", "least", "gusts", "draw")) {
            Check.fault(2, word + " 0; ^" + word);
            Check.fault(2, word + " 0;" + "lamp a;^" + word + " $;");
        }
        Sentence.of(Sentence.TERMS, "a unit too many, what is within 7 others: at its first TOKEN, or the not)");
        Check.fault(2, "dusk 1" + "+1".repeat(29) + "- ^(1);");
        Check.fault(2, "dusk 1" + "+1".repeat(29) + "-^1$");
        Check.fault(2, "dusk ((((((( ^(1");
        Check.fault(2, "dusk (((((((1+ ^(1");
        Check.fault(2, "dusk not not not not not not not ^not");
        Check.fault(2, "dusk (((((((1 or ^not 1");
    }

    private static void toldAlready() {
        Sentence.of(Sentence.TERMS, "3 a NAME told already (of its sort;");
        Check.fault(3, "lamp a;lamp ^a;");
        Check.fault(3, "lamp a;lamp b;lamp ^a;");
        Check.fault(3, "lamp a;cord c turns a;cord d turns a;cord ^c turns a;");
        Check.sound("lamp a;cord a turns a;", 1);
        Check.sound("lamp a;cord c turns a;lamp c;", 2);
        Sentence.of(Sentence.TERMS, "of a CORD that LAMP;");
        Check.fault(3, TWO + "cord c turns a ^a;");
        Check.fault(3, TWO + "cord c turns a b ^a;");
        Check.sound(TWO + "cord c turns a b;cord d turns b a;", 2);
        Sentence.of(Sentence.TERMS, "of next the first one again, or two told already, at the second NAME)");
        Check.fault(3, TWO + "next b  ^b;");
        Check.fault(3, TWO + "next a b;next b \n^a");
        Check.sound(TWO + "lamp c;next a b;next a c;next c b;", 3);
    }

    private static void numberThatCannotBe() {
        Sentence.of(Sentence.TERMS, "4 a number that can't be;");
        Check.fault(4, "lamp a lit watts ^0100;");
        Check.fault(4, "lamp a;cord c turns a costs  ^21");
        Check.fault(4, "least ^0009");
        Check.fault(4, "gusts \n^0101");
        Check.fault(4, "draw ^1000");
        // in a formula each can be
        Check.sound("dusk 9999*9999;", 0);
    }

    private static void nameOfNoLamp() {
        Sentence.of(Sentence.TERMS, "5 a NAME that no LAMP has.");
        Check.fault(5, "cord c turns ^a;");
        Check.fault(5, TWO + "cord c turns a b ^c;");
        Check.fault(5, TWO + "cord c turns  ^aa;");
        Check.fault(5, TWO + "next ^c");
        Check.fault(5, TWO + "next a ^c");
        // a cord's name is no lamp's
        Check.fault(5, TWO + "cord c turns a;next a ^c;");
    }
}
