/** Panels with as much on them as there can be. */
final class Busy {
    /** Cells of a panel 5 cells wide that are not neighbours of one another. */
    static final int[] SIX = {0, 2, 4, 10, 12, 14};
    static final String PAGE = "0-;1-;2-;3-;4-;0-;1-;2-;3-;4-;0-;1-;2-;5";

    private Busy() {
    }

    /** The second panel of its object: six spots, six tracks, eighteen events, a full page, a finger and noise. */
    static FeltGlass panel() {
        FeltGlass x = new FeltGlass();
        x.glass(3, 3);
        x.glass(5, 5);
        x.bound(2, 99);
        x.bound(6, 29);
        x.bound(7, 1);
        x.bound(8, 199);
        Checks.type(x, "4@8,8*10");
        x.fingers();
        for (int cell : SIX) Checks.raise(x, cell, 60);
        x.frames(2);
        for (int cell : SIX) Checks.raise(x, cell, 0);
        x.frames(2);
        for (int cell : SIX) Checks.raise(x, cell, 60);
        x.frames(2);
        x.noise(0, 3);
        x.noise(1, 7);
        x.noise(2, 60);
        x.seed(77);
        Checks.type(x, PAGE);
        return x;
    }

    /** The same after a noisy frame. */
    static FeltGlass noisyPanel() {
        FeltGlass x = panel();
        x.bound(8, 0);
        x.frames(1);
        return x;
    }

    /** A panel with so much noise that tracks come and go in every frame. */
    static FeltGlass roaring() {
        FeltGlass x = new FeltGlass();
        x.glass(8, 8);
        int[] settings = {20, 10, 100, 64, 20, 0, 6, 2, 200};
        for (int what = 0; what <= 8; what++) x.bound(what, settings[what]);
        x.noise(0, 60);
        return x;
    }
}
