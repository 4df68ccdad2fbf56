public final class FirstSteps { public static void main(String[] a) { if (new QueryTables().length() != 0) System.exit(1); } }
