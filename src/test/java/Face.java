/** The document's face, as ShootDown has it and as the tests' own program has it. */
interface Face {
    int cores(int n);

    int map(int s, int page, int frame, boolean writable);

    int entry(int s, int page);

    int enter(int c, int s);

    int sleep(int c);

    int wake(int c);

    int look(int c, int page, boolean toWrite);

    int how();

    int note(int c, int k, int what);

    int wasSo(int c, int k);

    int unmap(int c, int s, int page);

    int remap(int c, int s, int page, int frame, boolean writable);

    int clear(int c, int s);

    int take(int c);

    int rounds(int c, int n);

    int shoot(int k, int what);

    int underWay(int c);

    int core(int c, int what);

    int history(int s, int page, int k);

    int seen();

    int danger(int s, int page);

    int count(int what);

    long digest();
}
