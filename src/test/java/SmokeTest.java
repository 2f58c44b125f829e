public final class SmokeTest { public static void main(String[] a) { new FermionMaps(); } }
