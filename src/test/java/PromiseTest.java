public final class PromiseTest {
    public static void main(String[] args) {
        FairRuns x = new FairRuns();
        if (x.depth() != 0) {
            System.out.println("depth() of a new object is not 0");
            System.exit(1);
        }
    }
}
