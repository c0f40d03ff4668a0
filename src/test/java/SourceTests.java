final class SourceTests { static void source(String[] a) {} }
