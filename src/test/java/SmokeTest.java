public final class SmokeTest { public static void main(String[] a) { if (new BoxHedge().count(0) != 0) System.exit(1); } }
