public final class Checks {}
