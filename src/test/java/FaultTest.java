/** Texts with their first fault and its place (Terms; promises 4 and 5). */
public final class FaultTest {
    private static final String TWO = "lamp a;lamp b;";

    public static void main(String[] args) {
        soundTexts();
        tokens();
        lampLines();
        cordLines();
        nextLines();
        onceLines();
        formulas();
        firstByPlace();
        Check.end("FaultTest");
    }

    private static void sound(String text, int lamps) {
        CordLoft x = new CordLoft();
        Check.due("loft() of " + text, Check.read(x, text), lamps);
        Check.due("fault(0) of " + text, x.fault(0), 0);
        Check.due("fault(1) of " + text, x.fault(1), CordLoft.NONE);
    }

    private static void fault(String text, int kind, int place) {
        CordLoft x = new CordLoft();
        Check.due("loft() of " + text, Check.read(x, text), CordLoft.NONE);
        Check.due("fault(0) of " + text, x.fault(0), kind);
        Check.due("fault(1) of " + text, x.fault(1), place);
    }

    private static String eightLamps() {
        return "lamp a;lamp b;lamp c;lamp d;lamp e;lamp f;lamp g;lamp h;";
    }

    private static void soundTexts() {
        sound("", 0);
        sound(" \n ", 0);
        sound("lamp abcdefgh;", 1);
        sound("lamp a\n;\nlamp\nb lit watts99;", 2);
        sound(eightLamps(), 8);
        sound("lamp both;lamp one;lamp sum;lamp term;lamp unit;lamp e;lamp line;lamp loft;", 8);
        // names are told apart by each letter, their order and their length
        sound("lamp a;lamp aa;lamp ab;lamp ba;lamp b;lamp aaaaaaaa;lamp aaaaaaab;lamp baaaaaaa;", 8);
        sound("lamp zzzzzzzz;lamp zzzzzzz;lamp yzzzzzzz;lamp zzzzzzzy;", 4);
        // words but for a letter kept
        sound("lamp bit;lamp lamps;lamp lam;lamp xamp;lamp nights;lamp nigh;lamp cor;lamp turn;", 8);
        // a cord may have a lamp's name
        sound("lamp a;cord a turns a;", 1);
        sound("lamp a watts 0;cord c turns a costs 0;least 0;gusts 0;draw 0;", 1);
        sound("lamp a watts 0099;cord c turns a costs 0020;least 0008;gusts 0100;draw 0999;", 1);
        sound("dusk 9999;", 0);
        sound("dusk 1and 2or 3;".replace("1a", "1 a").replace("2o", "2 o"), 0);
        sound("dusk not 1<2 and not 3>4 or(5=6);", 0);
        sound("dusk (((((((1)))))));", 0);
        sound("dusk not not not not not not not 1;", 0);
        sound("dusk not(not(not(not 1)));", 0);
        sound("dusk 1" + "+1".repeat(29) + ";", 0);
        // a lamp may be told behind a dusk, and least behind all
        sound("dusk lit;least 8;lamp a;", 1);
    }

    private static void tokens() {
        fault("$", 1, 0);
        fault("lamp a,", 1, 6);
        fault("lamp A;", 1, 5);
        fault("lamp \u00e9;", 1, 5);
        fault("lamp\ta;", 1, 4);
        fault("lamp\ra;", 1, 4);
        fault("lamp \0", 1, 5);
        fault("lamp abcdefghi;", 1, 5);
        fault("lamps", 2, 0);
        fault("lampslamps", 1, 0);
        fault("dusk 12345;", 1, 5);
        fault("dusk 00001;", 1, 5);
        fault("dusk 12a;", 1, 5);
        fault("dusk 1and 2;", 1, 5);
        fault("lamp a watts 5lit;", 1, 13);
        // as many tokens as there can be bytes
        fault(";".repeat(1600), 2, 0);
        fault("dusk" + "(".repeat(1596), 2, 11);
        fault("lamp a" + " ".repeat(1594), 2, 1600);
        fault("a".repeat(1600), 1, 0);
        fault("9".repeat(1600), 1, 0);
        fault("\n".repeat(1599) + "$", 1, 1599);
        // at one place the least: no token at all, whatever could stand there
        fault("lamp a watts 12345;", 1, 13);
        fault("lamp 12345", 1, 5);
        fault("12345", 1, 0);
    }

    private static void lampLines() {
        fault("lamp", 2, 4);
        fault("lamp   ", 2, 7);
        fault("lamp ;", 2, 5);
        fault("lamp 5;", 2, 5);
        fault("lamp lit;", 2, 5);
        for (String word : Model.KEPT) {
            fault("lamp " + word + ";", 2, 5);
        }
        fault("lamp a", 2, 6);
        fault("lamp a b;", 2, 7);
        fault("lamp a lit lit;", 2, 11);
        fault("lamp a watts;", 2, 12);
        fault("lamp a watts x;", 2, 13);
        fault("lamp a watts 100;", 4, 13);
        fault("lamp a watts 1 lit;", 2, 15);
        fault("lamp a;lamp a;", 3, 12);
        fault(eightLamps() + "lamp i;", 2, 56);
        fault(eightLamps() + "lamp a;", 2, 56);
        fault(";", 2, 0);
        fault("lamp a;;", 2, 7);
        fault("5", 2, 0);
        fault("a", 2, 0);
        fault("lit", 2, 0);
    }

    private static void cordLines() {
        fault(TWO + "cord", 2, 18);
        fault(TWO + "cord turns", 2, 19);
        fault(TWO + "cord c", 2, 20);
        fault(TWO + "cord c;", 2, 20);
        fault(TWO + "cord c a", 2, 21);
        fault(TWO + "cord c turns;", 2, 26);
        fault(TWO + "cord c turns costs", 2, 27);
        fault(TWO + "cord c turns z", 5, 27);
        fault(TWO + "cord c turns c", 5, 27);
        fault(TWO + "cord c turns a z", 5, 29);
        fault(TWO + "cord c turns a a", 3, 29);
        fault(TWO + "cord c turns a b a", 3, 31);
        fault(TWO + "cord c turns a lit", 2, 29);
        fault(TWO + "cord c turns a 5", 2, 29);
        fault(TWO + "cord c turns a", 2, 28);
        fault(TWO + "cord c turns a costs;", 2, 34);
        fault(TWO + "cord c turns a costs 21;", 4, 35);
        fault(TWO + "cord c turns a costs 2 b;", 2, 37);
        fault(TWO + "cord c turns a;cord c", 3, 34);
        fault("cord c turns a;lamp a;", 5, 13);
        StringBuilder eight = new StringBuilder("lamp a;");
        for (char c = 'a'; c <= 'h'; c++) {
            eight.append("cord ").append(c).append(" turns a;");
        }
        sound(eight.toString(), 1);
        fault(eight + "cord i turns a;", 2, eight.length());
        fault(eight + " cord", 2, eight.length() + 1);
        fault(eightLamps() + "cord x turns a b c d e f g h a", 3, 85);
    }

    private static void nextLines() {
        fault(TWO + "next", 2, 18);
        fault(TWO + "next;", 2, 18);
        fault(TWO + "next z", 5, 19);
        fault(TWO + "next lit", 2, 19);
        fault(TWO + "next a", 2, 20);
        fault(TWO + "next a;", 2, 20);
        fault(TWO + "next a z", 5, 21);
        fault(TWO + "next a a", 3, 21);
        fault(TWO + "next a b a", 2, 23);
        fault(TWO + "next a b;next a b", 3, 30);
        fault(TWO + "next a b;next b a", 3, 30);
        fault("lamp a;next a b;lamp b;", 5, 14);
    }

    private static void onceLines() {
        fault("least", 2, 5);
        fault("least x", 2, 6);
        fault("least 9", 4, 6);
        fault("least 1 2", 2, 8);
        fault("least 1;least", 2, 8);
        fault("gusts;", 2, 5);
        fault("gusts 101", 4, 6);
        fault("gusts 1;gusts", 2, 8);
        fault("draw -1", 2, 5);
        fault("draw 1000", 4, 5);
        fault("draw 1;draw", 2, 7);
        fault("dusk 1;dusk", 2, 7);
        sound("least 1;gusts 1;draw 1;dusk 1;", 0);
    }

    private static void formulas() {
        fault("dusk", 2, 4);
        fault("dusk;", 2, 4);
        fault("dusk lamp", 2, 5);
        fault("dusk x;", 2, 5);
        fault("dusk 1 2;", 2, 7);
        fault("dusk 1 lit;", 2, 7);
        fault("dusk -1;", 2, 5);
        fault("dusk 1+;", 2, 7);
        fault("dusk 1+not 1;", 2, 7);
        fault("dusk 1<not 1;", 2, 7);
        fault("dusk 1<2<3;", 2, 8);
        fault("dusk 1=2>3;", 2, 8);
        fault("dusk not;", 2, 8);
        fault("dusk 1 and;", 2, 10);
        fault("dusk 1 or or 2;", 2, 10);
        fault("dusk ();", 2, 6);
        fault("dusk (1;", 2, 7);
        fault("dusk 1);", 2, 6);
        fault("dusk (1", 2, 7);
        fault("dusk ((((((((1))))))));", 2, 12);
        fault("dusk not not not not not not not not 1;", 2, 33);
        fault("dusk not not not not not not not (1);", 2, 33);
        fault("dusk (((((((not 1)))))));", 2, 12);
        fault("dusk (((not not not ((1)))));", 2, 21);
        fault("dusk 1" + "+1".repeat(30) + ";", 2, 65);
        fault("dusk 1" + "+1".repeat(28) + "+(1);", 2, 64);
        fault("dusk 1" + "+1".repeat(29) + "+(1);", 2, 65);
        fault("dusk 1" + "+1".repeat(29) + "+lamp;", 2, 65);
        fault("dusk 1" + "+1".repeat(29) + "+$;", 1, 65);
        sound("dusk 1" + "+1".repeat(27) + "+(1);", 0);
    }

    private static void firstByPlace() {
        fault("lamp a;lamp a;$", 3, 12);
        fault("lamp a watts 100 $", 4, 13);
        fault("lamp $;lamp lit;", 1, 5);
        fault("cord c turns a;cord c", 5, 13);
        // all stays behind a fault, but for the tape
        CordLoft x = Check.with("lamp a lit;lamp b;cord c turns a b;least 1;gusts 7;dusk 1+1;");
        x.pull(0);
        x.tie(0);
        x.seen(1, true);
        x.image(2);
        x.steady(x.picture());
        Check.due("loft() of a fault", Check.read(x, "lamp q;lamp q;"), CordLoft.NONE);
        int[] want = {2, 1, 1, 1, 0, 0, 2, 0, 1, 0, 0, 2, 0, 1, 7};
        for (int what = 0; what < want.length; what++) {
            Check.due("about(" + what + ") behind a fault", x.about(what), want[what]);
        }
        Check.due("back(2) behind a fault", x.back(2), 2);
        Check.due("fault(0)", x.fault(0), 3);
        Check.due("loft() of no bytes", x.loft(), 0);
        Check.due("fault(0) behind a sound one", x.fault(0), 0);
        Check.due("fault(1) behind a sound one", x.fault(1), CordLoft.NONE);
    }
}
