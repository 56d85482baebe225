public final class SmokeTest { public static void main(String[] a) { if (new ActSurgery().begin(3) != 1) System.exit(1); } }
