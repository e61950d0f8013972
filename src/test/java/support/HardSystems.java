/** Systems, found by search, that take many POINTS and PAIRS: by a way to learn, to an END. */
final class HardSystems {
    /** 2 times CARE and ORDER, the END, the text. */
    record Hard(int ways, int end, String text) {
    }

    static final Hard[] ALL = {
        new Hard(1, 4, "var x 0 7;var y 0 4;var z 0 5;start x=4 and y=2 and z=1;bad x=2 and y=1 and z=3;"
                + "step;set x=x-2;set z=z-1;step if z<4;set y=y-2;step;set x=x-2;set y=y-2;"
                + "set z=z+1;step;set x=x+1;set y=y+1;set z=z-3;step if y<z+5;set y=y-2;set z=z+3;"
                + "step;set x=z+0;set z=z+3;step if z>1;set y=y-3;set z=z+1;step;set x=x-1;"
                + "set y=y-1;set z=z+3;test z+z<9;test z<2;test z<1;test y<1;test x=4;test y+y<8;"
                + "test x+x<5;test x<7;test y<3;test z+x<5;test z+z<7;test x<6;test z+x<6;test y<2;"
                + "test z<3;test x<5;"),
        new Hard(0, 1, "var x 0 4;var y 0 5;var z 0 5;start x=2 and y=5 and z=2;bad x=4 and y=1 and z=1;"
                + "step if x<2;set y=y-2;step;set y=y-1;set z=z+3;step if y+x<8;set x=x-3;"
                + "set y=z-3;set z=z+2;step if y+x<10;set x=x-3;set z=z-3;step;set y=y-1;set z=z-1;"
                + "step if x+z>9;set x=x+2;set y=y+2;set z=z+2;step;set z=z+2;step if x<3;"
                + "set x=x+2;set y=z+1;set z=y+1;test z<2;test x+x<1;test y<2;test z<3;test y<1;"
                + "test z<1;test y<z+4;test y=5;test x=1;test y<3;test z<5;test x<3;test z<4;"
                + "test x+z<3;test y=4;test x<4;"),
        new Hard(1, 2, "var x 0 7;var y 0 4;var z 0 5;start x=4 and y=2 and z=1;bad x=2 and y=1 and z=3;"
                + "step;set x=x-2;set z=z-1;step if z<4;set y=y-2;step;set x=x-2;set y=y-2;"
                + "set z=z+1;step;set x=x+1;set y=y+1;set z=z-3;step if y<z+5;set y=y-2;set z=z+3;"
                + "step;set x=z+0;set z=z+3;step if z>1;set y=y-3;set z=z+1;step;set x=x-1;"
                + "set y=y-1;set z=z+3;test z+z<9;test z<2;test z<1;test y<1;test x=4;test y+y<8;"
                + "test x+x<5;test x<7;test y<3;test z+x<5;test z+z<7;test x<6;test z+x<6;test y<2;"
                + "test z<3;test x>4;"),
        new Hard(0, 3, "var x 0 4;var y 0 5;var z 0 5;start x=2 and y=3 and z=4;bad x=4 and y=1 and z=1;"
                + "step if x<2;set y=y-2;step if y>3;set x=x+1;set z=y-3;step if x<y+2;set x=x+1;"
                + "set z=x+3;step if z<6;set x=x+2;set y=y-3;set z=z-0;step;set y=y-1;set z=z-1;"
                + "step if y+y<11;set x=x+3;set y=y+3;step;set z=z+2;step;set y=z+2;test z<2;"
                + "test x+x<1;test y<2;test z<3;test y+y<1;test z<1;test z+x<6;test y=5;test x=1;"
                + "test y+y<5;test y+y<3;test x<x-3;test z+z<9;test x<3;test y=4;test x+x<7;"),
        new Hard(1, 4, "var x 0 5;var y 0 4;var z 0 6;start x=0 and y=1 and z=2;bad x=4 and y=0 and z=3;"
                + "step if x<5;set x=x-3;set y=z+2;set z=z-1;step if z<4;set y=y-1;set z=z-2;step;"
                + "set x=x+1;set y=y-3;set z=z-3;step;set x=x-1;set z=z-1;step;set x=x-1;set z=z-3;"
                + "step;set x=x+1;set y=y-1;set z=z-1;step;set z=z+2;step;set x=z-2;test y=1;"
                + "test z<2;test x=3;test z<1;test x<3;test z<5;test z>5;test y<2;test x<1;"
                + "test y+y<8;test z<3;test x+x<10;test y+z<5;test x<2;test y<3;test z<4;"),
        new Hard(1, 1, "var x 0 5;var y 0 4;var z 0 6;start x=0 and y=1 and z=2;bad x=4 and y=0 and z=3;"
                + "step if x<5;set x=x-3;set y=z+2;set z=z-1;step if z<4;set y=y-1;set z=z-2;step;"
                + "set x=x+1;set y=y-3;set z=z-3;step;set x=x-1;set z=z-1;step;set x=x-1;set z=z-3;"
                + "step;set x=x+1;set y=y-1;set z=z-1;step;set z=z+2;step;set x=z-2;test y=1;"
                + "test z<2;test x=3;test z<1;test x<3;test z<5;test z>5;test y<2;test x<1;"
                + "test y+y<8;test z<3;test x+x<10;test x<x-6;test x<2;test y<3;test z<4;"),
        new Hard(3, 3, "var x 0 6;var y 0 4;var z 0 4;start x=0 and y=2 and z=1;bad x=5 and y=1 and z=1;"
                + "step;set x=x-3;set z=z+3;step if y<x-2;set x=x+3;set y=y+1;set z=y-3;"
                + "step if x<5;set x=x+1;set z=z-3;step;set y=y-2;set z=z+1;step;set x=x-2;"
                + "set y=y+1;set z=z-2;step if z<5;set x=x+2;step if y<0;set x=y+0;set y=y-1;step;"
                + "set x=x-2;set y=y-1;set z=z-1;test z>3;test x>5;test x<3;test z<3;test y<0;"
                + "test z=0;test x<z-4;test x<2;test y=2;test z<2;test y=4;test y<3;test x<4;"
                + "test y=0;test x<5;test x<y-0;"),
        new Hard(3, 4, "var x 0 5;var y 0 7;var z 0 5;start x=3 and y=2 and z=3;bad x=2 and y=1 and z=0;"
                + "step if z+z<1;set y=y+0;set z=z+2;step if x<0;set x=x+3;set z=z-0;step;"
                + "set x=x-1;set y=y+1;step;set x=x-3;set y=y+1;step if z=3;set x=x+1;set z=z-3;"
                + "step;set x=x-1;set z=z+1;step if x<y-1;set x=x-3;set y=y-1;set z=z-1;step;"
                + "set x=x-1;set y=z-3;set z=z-3;test x<4;test z<4;test y<1;test y+y<9;test z<5;"
                + "test y+y=14;test x+x<5;test y+y<5;test y<6;test x=1;test x<5;test z=2;test z<1;"
                + "test x+z<5;test y<4;test y<2;"),
        new Hard(3, 4, "var x 0 6;var y 0 4;var z 0 5;start x=0 and y=2 and z=4;bad x=2 and y=0 and z=0;"
                + "step;set y=y-3;set z=y-2;step if y<y+4;set x=x-0;set y=y-3;step;set x=x+1;"
                + "set z=z+1;step;set z=z-3;step;set x=x-1;set y=y-1;step if x<0;set x=x+1;"
                + "set y=y-1;set z=z-3;step;set x=x-2;set y=y-3;set z=z+1;step if y<z-1;set x=z+0;"
                + "set y=y-3;set z=z-2;test y=1;test x+x<9;test x+x<3;test y<1;test y+y<7;"
                + "test z+z>4;test z=2;test z<1;test x<1;test z<5;test x+x<8;test y<3;test z<4;"
                + "test x<3;test z=4;test x=5;"),
        new Hard(1, 4, "var x 0 5;var y 0 4;var z 0 6;start x=0 and y=0 and z=4;bad x=0 and y=1 and z=0;"
                + "step;set z=z-3;step;set y=y+1;set z=z-2;step if z+y<9;set x=x+3;set y=y-1;"
                + "set z=z+1;step;set y=y+3;set z=z-2;step if y<3;set x=x+2;step if x<2;set x=x-3;"
                + "set y=y+2;set z=x-0;step;set x=x-2;set y=y-2;set z=z-1;step;set x=x+2;set y=x+1;"
                + "set z=z-2;test x=x-3;test x<2;test y<3;test x+x<1;test z+z<7;test z+z<4;"
                + "test y<4;test z+z<9;test x=4;test z<3;test x=3;test x+x<10;test y<2;test z<1;"
                + "test y<1;test z<6;"),
        new Hard(3, 1, "var x 0 6;var y 0 4;var z 0 5;start x=1 and y=3 and z=4;bad x=2 and y=0 and z=0;"
                + "step;set y=y-3;set z=y-2;step if y<y+4;set x=x-0;set y=y-3;step;set x=x+1;"
                + "set z=z+1;step;set z=z-3;step;set x=x-1;set y=y-1;step if x<0;set x=x+1;"
                + "set y=y-1;set z=z-3;step;set x=x-2;set y=y-3;set z=z+1;step;set y=y-3;set z=x+2;"
                + "test y=1;test x+x<9;test x+x<3;test y<1;test y<4;test z+z>4;test z=2;test z<1;"
                + "test x<1;test z<5;test x+x<8;test y<3;test z<4;test x<3;test z=4;test x=5;"),
        new Hard(3, 2, "var x 0 6;var y 0 4;var z 0 5;start x=0 and y=2 and z=4;bad x=2 and y=0 and z=0;"
                + "step;set y=y-3;set z=y-2;step if y<y+4;set x=x-0;set y=y-3;step;set x=x+1;"
                + "set z=z+1;step;set z=z-3;step;set x=x-1;set y=y-1;step if x<0;set x=x+1;"
                + "set y=y-1;set z=z-3;step;set x=x-2;set y=y-3;set z=z+1;step;set x=x+3;set y=x+3;"
                + "set z=z+1;test y=1;test x+x<9;test x+x<3;test y<1;test y+y<7;test z+z>4;"
                + "test z=2;test z<1;test x<1;test z<5;test x+x<8;test y<3;test z<4;test x<3;"
                + "test z=4;test x=5;"),
        new Hard(3, 3, "var x 0 4;var y 0 6;var z 0 6;start x=0 and y=3 and z=3;bad x=3 and y=0 and z=6;"
                + "step;set y=y-3;set z=z-1;step;set x=y+1;set y=x-1;set z=z+1;step if x=1;"
                + "set x=z-3;set y=y-2;set z=y+0;step if x<4;set x=x+1;set y=y-2;step;set z=z-2;"
                + "step;set y=y-3;set z=z+2;step;set x=x-2;set y=y-2;set z=x-2;step;set x=x-2;"
                + "set z=z+2;test z+z<9;test z>0;test y<1;test y<2;test z<6;test z+x<4;test z<2;"
                + "test z<3;test x<2;test x<4;test y>2;test x<3;test y<5;test z+z<7;test y+y<7;"
                + "test y+z<10;"),
        new Hard(1, 4, "var x 0 7;var y 0 7;var z 0 5;start x=5 and y=4 and z=1;bad x=7 and y=1 and z=2;"
                + "step;set x=x-1;set z=z+2;step if y<0;set x=z-2;set y=x-2;step if x<8;set x=x-1;"
                + "set y=y+1;step;set x=x+3;set z=z+1;step;set x=x+1;set y=y+1;set z=z+3;step;"
                + "set x=x-2;set y=y-1;set z=z-1;step if y<4;set y=y+1;set z=z+3;step if z<3;"
                + "set x=x+3;set y=x-0;test y<4;test y<7;test z<5;test y<3;test z=0;test y+z<4;"
                + "test x<4;test x+x<14;test y<6;test y<2;test z=3;test x<6;test y<5;test z<2;"
                + "test z<3;test x<5;"),
        new Hard(1, 1, "var x 0 4;var y 0 4;var z 0 5;start x=1 and y=0 and z=2;bad x=2 and y=2 and z=3;"
                + "step;set x=x+2;step;set x=x-1;set y=y-3;set z=z+1;step if z<y+5;set x=x-2;"
                + "set y=y+2;set z=x-0;step if y<x+4;set x=x+1;set y=x+0;set z=z-1;step if z+x<2;"
                + "set x=x-3;set y=y-2;step if y<5;set y=x+1;step;set x=x+0;set z=z+1;step if y<5;"
                + "set y=y+2;set z=z+3;test z<2;test y+y>6;test y<4;test y<2;test x+x=8;test z<4;"
                + "test z=1;test z<1;test y+y<2;test z<5;test y<3;test x<1;test x<3;test x+x<4;"
                + "test y<3;test z+z<5;"),
        new Hard(1, 3, "var x 0 7;var y 0 7;var z 0 5;start x=5 and y=4 and z=1;bad x=7 and y=1 and z=2;"
                + "step;set x=x-1;set z=z+2;step if y<4;set x=x+3;set z=y+3;step if x<8;set x=x-1;"
                + "set y=y+1;step;set x=x+3;set z=z+1;step;set x=x+1;set y=y+1;set z=z+3;step;"
                + "set x=x-2;set y=y-1;set z=z-1;step if y<4;set y=y+1;set z=z+3;step if z<3;"
                + "set x=x+3;set y=x-0;test y<4;test y<7;test z<5;test y<3;test z=0;test y+z<4;"
                + "test x<4;test x+x<14;test y<6;test x<6;test z=3;test y+y<7;test y<5;test z<2;"
                + "test z<3;test x+x<9;"),
        new Hard(0, 1, "var x 0 6;var y 0 5;var z 0 4;start x=6 and y=4 and z=3;bad x=6 and y=3 and z=1;"
                + "step;set y=y-2;set z=z+1;step;set x=x-2;set y=y+2;set z=z+1;step if x<y+3;"
                + "set x=x+3;set y=y+1;set z=x+0;step if y+z<7;set x=x+3;set y=y+3;set z=z-3;"
                + "step if y<6;set x=x-3;set y=y+1;set z=z-1;step if x+y=5;set y=y+1;step if z<x+2;"
                + "set y=y-0;set z=y+3;step;set x=x-1;set y=y-3;set z=z+1;test x=4;test z<2;"
                + "test z<4;test x<1;test y<2;test y<3;test z<2;test x=5;test y+y<1;test z<1;"
                + "test y>3;test x<2;test z>2;test y<5;test x+x<5;test x+x<7;"),
        new Hard(1, 2, "var x 0 5;var y 0 4;var z 0 6;start x=0 and y=1 and z=2;bad x=5 and y=4 and z=6;"
                + "step;set x=x+1;set y=y-2;step;set x=x+1;set y=y+3;step;set x=x-1;set y=y-3;"
                + "set z=z+2;step;set x=x-3;set y=z+3;set z=z+2;step if z<z+2;set x=y-3;set z=z-2;"
                + "step;set x=x+2;set z=y+3;step if z+z<4;set x=x-3;set y=y-3;step if x+x<9;"
                + "set z=z+2;test y<1;test x<5;test y+y<8;test z<4;test y+y<6;test z<5;test z<2;"
                + "test y<2;test y<0;test x>2;test x<4;test z<3;test x<2;test x<1;test z<6;"
                + "test z<1;"),
        new Hard(2, 3, "var x 0 4;var y 0 6;var z 0 6;start x=3 and y=3 and z=4;bad x=3 and y=0 and z=1;"
                + "step;set x=x+2;set y=y-1;set z=y-1;step;set x=y-1;set y=z+1;step if y+y<9;"
                + "set x=x+3;set y=y-2;set z=z-1;step if x<x+2;set x=x+3;set y=x+3;set z=z+2;"
                + "step if y>0;set x=x+3;set z=z-1;step;set y=y+2;set z=z-1;step;set y=y-2;step;"
                + "set x=x-2;set y=y+2;set z=z-3;test y<6;test y<1;test y<z+0;test z<2;test x+x<1;"
                + "test x<z+0;test x<2;test y<2;test y<3;test y+y<9;test z>3;test z+z<1;test z+x<3;"
                + "test y+z<9;test x<3;test x<0;"),
        new Hard(2, 4, "var x 0 7;var y 0 5;var z 0 5;start x=6 and y=4 and z=2;bad x=1 and y=4 and z=5;"
                + "step if z+x<12;set y=y-2;set z=z+3;step;set x=x-1;set y=y+1;step if z+x<11;"
                + "set x=x+2;step if x<5;set x=x+3;set y=y+2;set z=z+1;step;set x=x+3;set y=y-1;"
                + "set z=z+3;step;set x=y+2;set y=y+3;set z=z-3;step;set y=y+1;set z=z+1;"
                + "step if y<6;set x=y+0;set z=z+3;test y+y<9;test z<1;test y<3;test z<2;test z<4;"
                + "test z<x-1;test x>2;test y<1;test z>4;test x>1;test x<4;test x+x>8;test x=0;"
                + "test y>1;test y>3;test z<3;"),
        new Hard(1, 1, "var x 0 5;var y 0 4;var z 0 4;start x=1 and y=1 and z=1;bad x=3 and y=0 and z=2;"
                + "step;set x=x+2;set y=y-1;step;set y=y-3;step if z+x<3;set x=x+3;set y=y+3;"
                + "set z=z+3;step;set x=x-3;set z=z+2;step;set x=z-2;set y=y-3;set z=z+2;"
                + "step if y<4;set y=y-1;set z=x-3;step if x<5;set x=x-2;set y=y-3;set z=z-1;"
                + "step if z<4;set x=x+1;set y=z-0;set z=z-3;test z<3;test x<5;test z<1;test z<4;"
                + "test y<5;test x<1;test y+y=8;test x<3;test z>1;test y=0;test y+y<4;test x<2;"
                + "test x<z-4;test y<3;test x<4;test z<4;"),
        new Hard(1, 2, "var x 0 5;var y 0 4;var z 0 4;start x=1 and y=1 and z=1;bad x=0 and y=0 and z=1;"
                + "step;set x=x+2;set y=y-1;step;set y=y-3;step;set x=x-3;set y=z+1;set z=y-0;step;"
                + "set x=x-3;set z=z+2;step;set x=z-2;set y=y-3;set z=z+2;step if y<4;set y=y-1;"
                + "set z=x-3;step;set y=y-2;step if z<4;set x=x+1;set y=z-0;set z=z-3;test z<4;"
                + "test x<5;test x<1;test z<1;test y<z-0;test x<1;test y+y=8;test x<3;test z>1;"
                + "test y=0;test z<3;test x<2;test x>2;test y<3;test x<4;test y<2;"),
        new Hard(2, 3, "var x 0 7;var y 0 5;var z 0 5;start x=6 and y=4 and z=2;bad x=1 and y=4 and z=5;"
                + "step if z+x<12;set y=y-2;set z=z+3;step;set x=x-1;set y=y+1;step if z+x<11;"
                + "set x=x+2;step if y+x<4;set x=z+2;set z=z+1;step;set x=x+3;set y=y-1;set z=z+3;"
                + "step;set x=y+2;set y=y+3;set z=z-3;step;set y=y+1;set z=z+1;step if y<6;"
                + "set x=y+0;set z=z+3;test y+y<9;test z<1;test y<3;test z<2;test z<4;test z<x-1;"
                + "test x>2;test y<1;test z>4;test x>1;test x<4;test x+x>8;test x=0;test y>1;"
                + "test y>3;test z<3;"),
    };

    private HardSystems() {
    }
}
