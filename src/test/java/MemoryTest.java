/** Promise 3: the data space and the heap. */
public final class MemoryTest {
    public static void main(String[] args) {
        reads();
        allots();
        allocates();
        frees();
        resizes();
        Check.end();
    }

    private static void reads() {
        Check.after("base @ base", "10 0");
        Check.after("variable x 5 x ! x @ 3 x +! x @", "5 8");
        Check.after("variable x 2147483647 x ! 1 x +! x @", "-2147483648");
        Check.after("variable x variable y x y here", "1 2 3");
        Check.after("here 5 , here @ ", "error -9");
        Check.after("here 5 , @ here", "5 2");
        for (String cell : new String[] {"1", "-1", "399", "400", "999", "1000", "2147483647",
            "-2147483648"}) {
            Check.after(cell + " @", "error -9");
            Check.after("5 " + cell + " !", "error -9");
            Check.after("5 " + cell + " +!", "error -9");
        }
        Check.after("create x x here 1 allot x @", "1 1 0");
        Check.after("1 , create x 2 , x x @", "2 2");
    }

    private static void allots() {
        Check.after("399 allot here 399 @", "400 0");
        Check.after("400 allot", "error -8");
        Check.after("-1 allot", "error -8");
        Check.after("2147483647 allot", "error -8");
        Check.after("-2147483648 allot", "error -8");
        Check.after("5 , -1 allot here", "1");
        Check.after("0 allot here", "1");
        Check.after("5 , -1 allot 1 allot 1 @", "0");
        Check.after("399 allot 1 ,", "error -8");
        Check.after("398 allot 7 , here 399 @", "400 7");
        Check.after("399 allot variable x", "error -8");
        Check.after("399 allot create x x", "400");
        Check.after("398 allot 5 399 1 allot ! -1 allot variable x x @", "0");
    }

    private static void allocates() {
        Check.after("10 allocate 5 allocate", "400 0 410 0");
        Check.after("600 allocate 1 allocate", "400 0 0 -59");
        Check.after("601 allocate 0 allocate -1 allocate", "0 -59 0 -59 0 -59");
        Check.after("2147483647 allocate -2147483648 allocate", "0 -59 0 -59");
        Check.after("3 allocate 7 402 ! 402 @ 403 @", "error -9");
        Check.after("3 allocate drop 7 402 ! 402 @", "400 7");
        Bench full = new Bench();
        full.then(": f 600 0 do 1 allocate 2drop loop ; f");
        full.machine.run(5000);
        Check.due("600 blocks", full.machine.told(5) + " " + full.machine.told(6), "600 600");
        Check.due("no more", full.then("1 allocate 999 free 1 allocate"), "0 -59 0 999 0");
    }

    private static void frees() {
        Check.after("10 allocate 10 allocate 10 allocate 410 free 11 allocate 10 allocate",
                "400 0 410 0 420 0 0 430 0 410 0");
        Check.after("2 allocate 7 401 ! 400 free 400 free 401 free", "400 0 0 -60 -60");
        Check.after("2 allocate 7 401 ! 400 free 2 allocate 401 @", "400 0 0 400 0 0");
        Check.after("2 allocate 401 free 399 free 0 free -1 free 1000 free",
                "400 0 -60 -60 -60 -60 -60");
        Check.after("2 allocate 400 free 400 @", "error -9");
        Bench bench = new Bench();
        bench.then("3 allocate 4 allocate 400 free");
        Check.due("blocks and cells", bench.machine.told(5) + " " + bench.machine.told(6), "1 4");
    }

    private static void resizes() {
        Check.after("5 allocate drop 8 resize 4 allocate", "400 0 408 0");
        Check.after("5 allocate drop 2 resize 4 allocate", "400 0 402 0");
        Check.after("5 allocate drop 5 resize 4 allocate", "400 0 405 0");
        Check.after("3 allocate drop 7 over 2 + ! 5 resize 402 @ 403 @ 404 @", "400 0 7 0 0");
        // behind it is no room: it moves, with its cells
        Check.after("2 allocate drop 7 over 1+ ! 1 allocate 2drop 4 resize over 1+ @",
                "403 0 7");
        Check.after("2 allocate 2drop 1 allocate 2drop 400 4 resize 2drop 2 allocate", "400 0");
        Check.after("2 allocate 2drop 1 allocate 2drop 400 4 resize 2drop 400 @", "error -9");
        // a gap below, lowest first
        Check.after("3 allocate 2drop 2 allocate 2drop 1 allocate 2drop 400 free drop"
                + " 8 403 ! 9 404 ! 403 3 resize 400 @ 401 @ 402 @", "400 0 8 9 0");
        // its own cells are not free: the gap of two below does not count with them
        Check.after("2 allocate 2drop 2 allocate 2drop 596 allocate 2drop 400 free drop"
                + " 402 4 resize", "402 -61");
        Check.after("600 allocate drop 601 resize 400 0 resize 400 -1 resize",
                "400 -61 400 -61 400 -61");
        Check.after("400 5 resize 0 5 resize -1 5 resize", "400 -61 0 -61 -1 -61");
        Check.after("5 allocate 2drop 401 2 resize 400 2147483647 resize", "401 -61 400 -61");
        Check.after("1 allocate drop 600 resize 999 @ 1 allocate", "400 0 0 0 -59");
        // what is freed by a shorter size comes back as 0
        Check.after("3 allocate 2drop 9 402 ! 400 2 resize 2drop 400 3 resize 402 @", "400 0 0");
        Check.after("3 allocate 2drop 2 400 ! 400 -1 resize 400 @", "400 -61 2");
        Check.after("3 allocate drop 1 resize 2 allocate", "400 0 401 0");
        Check.after("598 allocate 2drop 2 allocate drop 3 resize", "998 -61");
        Check.after("3 allocate 2drop 3 allocate drop 5 resize 400 free 403 free", "403 0 0 0");
        // cells that are not new go along, and what was there before is 0
        Check.after("2 allocate 2drop 1 allocate 2drop 4 allocate 2drop 8 403 ! 9 406 !"
                + " 403 free drop 400 4 resize 403 @ 406 @", "403 0 0 0");
        Bench bench = new Bench();
        bench.then("5 allocate 2drop 5 allocate 2drop 400 9 resize");
        Check.due("blocks and cells", bench.machine.told(5) + " " + bench.machine.told(6), "2 14");
        bench.then("410 3 resize");
        Check.due("shorter", bench.machine.told(5) + " " + bench.machine.told(6), "2 8");
    }
}
