/** Texts with their first fault and its place (Terms; promises 4 and 5). */
public final class FaultTest {
    private static final String TWO = "lamp a;lamp b;";

    public static void main(String[] args) {
        soundTexts();
        tokens();
        lampLines();
        cordLines();
        nextLines();
        onceLines();
        formulas();
        firstByPlace();
        Check.end("FaultTest");
    }

    private static void soundTexts() {
        Check.sound("", 0);
        Check.sound(" \n ", 0);
        Check.sound("lamp abcdefgh;", 1);
        Check.sound("lamp a\n;\nlamp\nb lit watts99;", 2);
        Check.sound(Lofts.EIGHT_LAMPS, 8);
        Check.sound("lamp both;lamp one;lamp sum;lamp term;lamp unit;lamp e;lamp line;lamp loft;", 8);
        // names are told apart by each letter, their order and their length
        Check.sound("lamp a;lamp aa;lamp ab;lamp ba;lamp b;lamp aaaaaaaa;lamp aaaaaaab;lamp baaaaaaa;", 8);
        Check.sound("lamp zzzzzzzz;lamp zzzzzzz;lamp yzzzzzzz;lamp zzzzzzzy;", 4);
        // words but for a letter kept
        Check.sound("lamp bit;lamp lamps;lamp lam;lamp xamp;lamp nights;lamp nigh;lamp cor;lamp turn;", 8);
        // a cord may have a lamp's name
        Check.sound("lamp a;cord a turns a;", 1);
        Check.sound("lamp a watts 0;cord c turns a costs 0;least 0;gusts 0;draw 0;", 1);
        Check.sound("lamp a watts 0099;cord c turns a costs 0020;least 0008;gusts 0100;draw 0999;", 1);
        Check.sound("dusk 9999;", 0);
        Check.sound("dusk 1and 2or 3;".replace("1a", "1 a").replace("2o", "2 o"), 0);
        Check.sound("dusk not 1<2 and not 3>4 or(5=6);", 0);
        Check.sound("dusk (((((((1)))))));", 0);
        Check.sound("dusk not not not not not not not 1;", 0);
        Check.sound("dusk not(not(not(not 1)));", 0);
        Check.sound("dusk 1" + "+1".repeat(29) + ";", 0);
        // a lamp may be told behind a dusk, and least behind all
        Check.sound("dusk lit;least 8;lamp a;", 1);
    }

    private static void tokens() {
        Check.fault("$", 1, 0);
        Check.fault("lamp a,", 1, 6);
        Check.fault("lamp A;", 1, 5);
        Check.fault("lamp \u00e9;", 1, 5);
        Check.fault("lamp\ta;", 1, 4);
        Check.fault("lamp\ra;", 1, 4);
        Check.fault("lamp \0", 1, 5);
        Check.fault("lamp abcdefghi;", 1, 5);
        Check.fault("lamps", 2, 0);
        Check.fault("lampslamps", 1, 0);
        Check.fault("dusk 12345;", 1, 5);
        Check.fault("dusk 00001;", 1, 5);
        Check.fault("dusk 12a;", 1, 5);
        Check.fault("dusk 1and 2;", 1, 5);
        Check.fault("lamp a watts 5lit;", 1, 13);
        // as many tokens as there can be bytes
        Check.fault(";".repeat(1600), 2, 0);
        Check.fault("dusk" + "(".repeat(1596), 2, 11);
        Check.fault("lamp a" + " ".repeat(1594), 2, 1600);
        Check.fault("a".repeat(1600), 1, 0);
        Check.fault("9".repeat(1600), 1, 0);
        Check.fault("\n".repeat(1599) + "$", 1, 1599);
        // at one place the least: no token at all, whatever could stand there
        Check.fault("lamp a watts 12345;", 1, 13);
        Check.fault("lamp 12345", 1, 5);
        Check.fault("12345", 1, 0);
    }

    private static void lampLines() {
        Check.fault("lamp", 2, 4);
        Check.fault("lamp   ", 2, 7);
        Check.fault("lamp ;", 2, 5);
        Check.fault("lamp 5;", 2, 5);
        Check.fault("lamp lit;", 2, 5);
        for (String word : Model.KEPT) {
            Check.fault("lamp " + word + ";", 2, 5);
        }
        Check.fault("lamp a", 2, 6);
        Check.fault("lamp a b;", 2, 7);
        Check.fault("lamp a lit lit;", 2, 11);
        Check.fault("lamp a watts;", 2, 12);
        Check.fault("lamp a watts x;", 2, 13);
        Check.fault("lamp a watts 100;", 4, 13);
        Check.fault("lamp a watts 1 lit;", 2, 15);
        Check.fault("lamp a;lamp a;", 3, 12);
        Check.fault(Lofts.EIGHT_LAMPS + "lamp i;", 2, 56);
        Check.fault(Lofts.EIGHT_LAMPS + "lamp a;", 2, 56);
        Check.fault(";", 2, 0);
        Check.fault("lamp a;;", 2, 7);
        Check.fault("5", 2, 0);
        Check.fault("a", 2, 0);
        Check.fault("lit", 2, 0);
    }

    private static void cordLines() {
        Check.fault(TWO + "cord", 2, 18);
        Check.fault(TWO + "cord turns", 2, 19);
        Check.fault(TWO + "cord c", 2, 20);
        Check.fault(TWO + "cord c;", 2, 20);
        Check.fault(TWO + "cord c a", 2, 21);
        Check.fault(TWO + "cord c turns;", 2, 26);
        Check.fault(TWO + "cord c turns costs", 2, 27);
        Check.fault(TWO + "cord c turns z", 5, 27);
        Check.fault(TWO + "cord c turns c", 5, 27);
        Check.fault(TWO + "cord c turns a z", 5, 29);
        Check.fault(TWO + "cord c turns a a", 3, 29);
        Check.fault(TWO + "cord c turns a b a", 3, 31);
        Check.fault(TWO + "cord c turns a lit", 2, 29);
        Check.fault(TWO + "cord c turns a 5", 2, 29);
        Check.fault(TWO + "cord c turns a", 2, 28);
        Check.fault(TWO + "cord c turns a costs;", 2, 34);
        Check.fault(TWO + "cord c turns a costs 21;", 4, 35);
        Check.fault(TWO + "cord c turns a costs 2 b;", 2, 37);
        Check.fault(TWO + "cord c turns a;cord c", 3, 34);
        Check.fault("cord c turns a;lamp a;", 5, 13);
        StringBuilder eight = new StringBuilder("lamp a;");
        for (char c = 'a'; c <= 'h'; c++) {
            eight.append("cord ").append(c).append(" turns a;");
        }
        Check.sound(eight.toString(), 1);
        Check.fault(eight + "cord i turns a;", 2, eight.length());
        Check.fault(eight + " cord", 2, eight.length() + 1);
        Check.fault(Lofts.EIGHT_LAMPS + "cord x turns a b c d e f g h a", 3, 85);
    }

    private static void nextLines() {
        Check.fault(TWO + "next", 2, 18);
        Check.fault(TWO + "next;", 2, 18);
        Check.fault(TWO + "next z", 5, 19);
        Check.fault(TWO + "next lit", 2, 19);
        Check.fault(TWO + "next a", 2, 20);
        Check.fault(TWO + "next a;", 2, 20);
        Check.fault(TWO + "next a z", 5, 21);
        Check.fault(TWO + "next a a", 3, 21);
        Check.fault(TWO + "next a b a", 2, 23);
        Check.fault(TWO + "next a b;next a b", 3, 30);
        Check.fault(TWO + "next a b;next b a", 3, 30);
        Check.fault("lamp a;next a b;lamp b;", 5, 14);
    }

    private static void onceLines() {
        Check.fault("least", 2, 5);
        Check.fault("least x", 2, 6);
        Check.fault("least 9", 4, 6);
        Check.fault("least 1 2", 2, 8);
        Check.fault("least 1;least", 2, 8);
        Check.fault("gusts;", 2, 5);
        Check.fault("gusts 101", 4, 6);
        Check.fault("gusts 1;gusts", 2, 8);
        Check.fault("draw -1", 2, 5);
        Check.fault("draw 1000", 4, 5);
        Check.fault("draw 1;draw", 2, 7);
        Check.fault("dusk 1;dusk", 2, 7);
        Check.sound("least 1;gusts 1;draw 1;dusk 1;", 0);
    }

    private static void formulas() {
        Check.fault("dusk", 2, 4);
        Check.fault("dusk;", 2, 4);
        Check.fault("dusk lamp", 2, 5);
        Check.fault("dusk x;", 2, 5);
        Check.fault("dusk 1 2;", 2, 7);
        Check.fault("dusk 1 lit;", 2, 7);
        Check.fault("dusk -1;", 2, 5);
        Check.fault("dusk 1+;", 2, 7);
        Check.fault("dusk 1+not 1;", 2, 7);
        Check.fault("dusk 1<not 1;", 2, 7);
        Check.fault("dusk 1<2<3;", 2, 8);
        Check.fault("dusk 1=2>3;", 2, 8);
        Check.fault("dusk not;", 2, 8);
        Check.fault("dusk 1 and;", 2, 10);
        Check.fault("dusk 1 or or 2;", 2, 10);
        Check.fault("dusk ();", 2, 6);
        Check.fault("dusk (1;", 2, 7);
        Check.fault("dusk 1);", 2, 6);
        Check.fault("dusk (1", 2, 7);
        Check.fault("dusk ((((((((1))))))));", 2, 12);
        Check.fault("dusk not not not not not not not not 1;", 2, 33);
        Check.fault("dusk not not not not not not not (1);", 2, 33);
        Check.fault("dusk (((((((not 1)))))));", 2, 12);
        Check.fault("dusk (((not not not ((1)))));", 2, 21);
        Check.fault("dusk 1" + "+1".repeat(30) + ";", 2, 65);
        Check.fault("dusk 1" + "+1".repeat(28) + "+(1);", 2, 64);
        Check.fault("dusk 1" + "+1".repeat(29) + "+(1);", 2, 65);
        Check.fault("dusk 1" + "+1".repeat(29) + "+lamp;", 2, 65);
        Check.fault("dusk 1" + "+1".repeat(29) + "+$;", 1, 65);
        Check.sound("dusk 1" + "+1".repeat(27) + "+(1);", 0);
    }

    private static void firstByPlace() {
        Check.fault("lamp a;lamp a;$", 3, 12);
        Check.fault("lamp a watts 100 $", 4, 13);
        Check.fault("lamp $;lamp lit;", 1, 5);
        Check.fault("cord c turns a;cord c", 5, 13);
        // all stays behind a fault, but for the tape
        CordLoft x = Check.with("lamp a lit;lamp b;cord c turns a b;least 1;gusts 7;dusk 1+1;");
        x.pull(0);
        x.tie(0);
        x.seen(1, true);
        x.image(2);
        x.steady(x.picture());
        Check.due("loft() of a fault", Check.read(x, "lamp q;lamp q;"), CordLoft.NONE);
        int[] want = {2, 1, 1, 1, 0, 0, 2, 0, 1, 0, 0, 2, 0, 1, 7};
        for (int what = 0; what < want.length; what++) {
            Check.due("about(" + what + ") behind a fault", x.about(what), want[what]);
        }
        Check.due("back(2) behind a fault", x.back(2), 2);
        Check.due("Check.fault(0)", x.fault(0), 3);
        Check.due("loft() of no bytes", x.loft(), 0);
        Check.due("Check.fault(0) behind a sound one", x.fault(0), 0);
        Check.due("Check.fault(1) behind a sound one", x.fault(1), CordLoft.NONE);
    }
}
