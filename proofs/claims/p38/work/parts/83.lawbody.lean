def P_L_law_34 (X : HX) (M : Mem) (a2 : Int32) (s0 : Int32) : Prop := SW mdL_law X 183 2065 34 [(0, .ref (bX X)), (1, .ref (BX X + 0)), (2, .int a2)] [.int s0] (w0 M)
def P_L_law_46 (X : HX) (M : Mem) (a2 : Int32) (a4 : Int32) (s0 : Int32) : Prop := SW mdL_law X 183 2065 46 [(0, .ref (bX X)), (1, .ref (BX X + 0)), (2, .int a2), (4, .int a4)] [.int s0] (w0 M)
def P_L_law_51 (X : HX) (M : Mem) (a2 : Int32) (a4 : Int32) (a5 : Int32) (a6 : Int32) : Prop := SW mdL_law X 183 2065 51 [(0, .ref (bX X)), (1, .ref (BX X + 0)), (2, .int a2), (4, .int a4), (5, .int a5), (6, .int a6)] [] (w0 M)
def P_L_law_143 (X : HX) (M : Mem) (a2 : Int32) (a4 : Int32) (a6 : Int32) (a8 : Int32) (a9 : Int32) (a10 : Int32) (a11 : Int32) : Prop := SW mdL_law X 183 2065 143 [(0, .ref (bX X)), (1, .ref (BX X + 0)), (2, .int a2), (4, .int a4), (6, .int a6), (8, .int a8), (9, .int a9), (10, .int a10), (11, .int a11)] [] (w0 M)
def P_L_law_147 (X : HX) (M : Mem) (a2 : Int32) (a4 : Int32) (a6 : Int32) (a8 : Int32) (a9 : Int32) (a10 : Int32) (a11 : Int32) : Prop := SW mdL_law X 183 2065 147 [(0, .ref (bX X)), (1, .ref (BX X + 0)), (2, .int a2), (4, .int a4), (6, .int a6), (8, .int a8), (9, .int a9), (10, .int a10), (11, .int a11)] [] (w0 M)
def P_L_law_148 (X : HX) (M : Mem) (a2 : Int32) (a4 : Int32) (a6 : Int32) (a8 : Int32) (a9 : Int32) (a10 : Int32) (a11 : Int32) (s0 : Int32) : Prop := SW mdL_law X 183 2065 148 [(0, .ref (bX X)), (1, .ref (BX X + 0)), (2, .int a2), (4, .int a4), (6, .int a6), (8, .int a8), (9, .int a9), (10, .int a10), (11, .int a11)] [.int s0] (w0 M)
def P_L_law_154 (X : HX) (M : Mem) (a2 : Int32) (a4 : Int32) (a5 : Int32) (a6 : Int32) (a8 : Int32) (a9 : Int32) (a10 : Int32) (a11 : Int32) (a13 : Int32) : Prop := SW mdL_law X 183 2065 154 [(0, .ref (bX X)), (1, .ref (BX X + 0)), (2, .int a2), (4, .int a4), (5, .int a5), (6, .int a6), (8, .int a8), (9, .int a9), (10, .int a10), (11, .int a11), (13, .int a13)] [] (w0 M)
def P_L_law_191 (X : HX) (M : Mem) (a2 : Int32) (a4 : Int32) (a6 : Int32) (a8 : Int32) (a9 : Int32) (a10 : Int32) (a11 : Int32) (a13 : Int32) (a14 : Int32) (s0 : Int32) : Prop := SW mdL_law X 183 2065 191 [(0, .ref (bX X)), (1, .ref (BX X + 0)), (2, .int a2), (4, .int a4), (6, .int a6), (8, .int a8), (9, .int a9), (10, .int a10), (11, .int a11), (13, .int a13), (14, .int a14)] [.int s0] (w0 M)
def P_L_law_196 (X : HX) (M : Mem) (a2 : Int32) (a4 : Int32) (a5 : Int32) (a6 : Int32) (a8 : Int32) (a9 : Int32) (a10 : Int32) (a11 : Int32) (a13 : Int32) (a14 : Int32) (a15 : Int32) : Prop := SW mdL_law X 183 2065 196 [(0, .ref (bX X)), (1, .ref (BX X + 0)), (2, .int a2), (4, .int a4), (5, .int a5), (6, .int a6), (8, .int a8), (9, .int a9), (10, .int a10), (11, .int a11), (13, .int a13), (14, .int a14), (15, .int a15)] [] (w0 M)
def P_L_law_226 (X : HX) (M : Mem) (a2 : Int32) (a4 : Int32) (a6 : Int32) (a8 : Int32) (a9 : Int32) (a10 : Int32) (a11 : Int32) (a13 : Int32) (a14 : Int32) (a15 : Int32) (s0 : Int32) : Prop := SW mdL_law X 183 2065 226 [(0, .ref (bX X)), (1, .ref (BX X + 0)), (2, .int a2), (4, .int a4), (6, .int a6), (8, .int a8), (9, .int a9), (10, .int a10), (11, .int a11), (13, .int a13), (14, .int a14), (15, .int a15)] [.int s0] (w0 M)
def P_L_law_285 (X : HX) (M : Mem) (a2 : Int32) (a4 : Int32) (a6 : Int32) (a8 : Int32) (a9 : Int32) (a10 : Int32) (a11 : Int32) (a13 : Int32) (a14 : Int32) (a15 : Int32) : Prop := SW mdL_law X 183 2065 285 [(0, .ref (bX X)), (1, .ref (BX X + 0)), (2, .int a2), (4, .int a4), (6, .int a6), (8, .int a8), (9, .int a9), (10, .int a10), (11, .int a11), (13, .int a13), (14, .int a14), (15, .int a15)] [] (w0 M)
def P_L_law_289 (X : HX) (M : Mem) (a2 : Int32) (a4 : Int32) (a6 : Int32) (a8 : Int32) (a9 : Int32) (a10 : Int32) (a11 : Int32) (a13 : Int32) (a14 : Int32) (a15 : Int32) : Prop := SW mdL_law X 183 2065 289 [(0, .ref (bX X)), (1, .ref (BX X + 0)), (2, .int a2), (4, .int a4), (6, .int a6), (8, .int a8), (9, .int a9), (10, .int a10), (11, .int a11), (13, .int a13), (14, .int a14), (15, .int a15)] [] (w0 M)
def P_L_law_290 (X : HX) (M : Mem) (a2 : Int32) (a4 : Int32) (a6 : Int32) (a8 : Int32) (a9 : Int32) (a10 : Int32) (a11 : Int32) (a13 : Int32) (a14 : Int32) (a15 : Int32) (s0 : Int32) : Prop := SW mdL_law X 183 2065 290 [(0, .ref (bX X)), (1, .ref (BX X + 0)), (2, .int a2), (4, .int a4), (6, .int a6), (8, .int a8), (9, .int a9), (10, .int a10), (11, .int a11), (13, .int a13), (14, .int a14), (15, .int a15)] [.int s0] (w0 M)
def P_L_law_292 (X : HX) (M : Mem) (a2 : Int32) (a4 : Int32) (a5 : Int32) (a6 : Int32) (a8 : Int32) (a9 : Int32) (a10 : Int32) (a11 : Int32) (a13 : Int32) (a14 : Int32) (a15 : Int32) : Prop := SW mdL_law X 183 2065 292 [(0, .ref (bX X)), (1, .ref (BX X + 0)), (2, .int a2), (4, .int a4), (5, .int a5), (6, .int a6), (8, .int a8), (9, .int a9), (10, .int a10), (11, .int a11), (13, .int a13), (14, .int a14), (15, .int a15)] [] (w0 M)
def P_L_law_298 (X : HX) (M : Mem) (a2 : Int32) (a4 : Int32) (a5 : Int32) (a6 : Int32) (a8 : Int32) (a9 : Int32) (a10 : Int32) (a11 : Int32) (a13 : Int32) : Prop := SW mdL_law X 183 2065 298 [(0, .ref (bX X)), (1, .ref (BX X + 0)), (2, .int a2), (4, .int a4), (5, .int a5), (6, .int a6), (8, .int a8), (9, .int a9), (10, .int a10), (11, .int a11), (13, .int a13)] [] (w0 M)
def P_L_law_304 (X : HX) (M : Mem) (a2 : Int32) (a4 : Int32) (a5 : Int32) (a6 : Int32) : Prop := SW mdL_law X 183 2065 304 [(0, .ref (bX X)), (1, .ref (BX X + 0)), (2, .int a2), (4, .int a4), (5, .int a5), (6, .int a6)] [] (w0 M)
def P_L_law_310 (X : HX) (M : Mem) (a2 : Int32) (a5 : Int32) : Prop := SW mdL_law X 183 2065 310 [(0, .ref (bX X)), (1, .ref (BX X + 0)), (2, .int a2), (5, .int a5)] [] (w0 M)
def P_L_law_325 (X : HX) (M : Mem) (a2 : Int32) (a5 : Int32) (s0 : Int32) : Prop := SW mdL_law X 183 2065 325 [(0, .ref (bX X)), (1, .ref (BX X + 0)), (2, .int a2), (5, .int a5)] [.int s0] (w0 M)
def P_L_law_341 (X : HX) (M : Mem) (a2 : Int32) (a6 : Int32) : Prop := SW mdL_law X 183 2065 341 [(0, .ref (bX X)), (1, .ref (BX X + 0)), (2, .int a2), (6, .int a6)] [] (w0 M)
def P_L_law_342 (X : HX) (M : Mem) (a2 : Int32) (a6 : Int32) (s0 : Int32) : Prop := SW mdL_law X 183 2065 342 [(0, .ref (bX X)), (1, .ref (BX X + 0)), (2, .int a2), (6, .int a6)] [.int s0] (w0 M)
def P_L_law_361 (X : HX) (M : Mem) (a2 : Int32) (a5 : Int32) (a6 : Int32) (a7 : Int32) (a8 : Int32) (a9 : Int32) : Prop := SW mdL_law X 183 2065 361 [(0, .ref (bX X)), (1, .ref (BX X + 0)), (2, .int a2), (5, .int a5), (6, .int a6), (7, .int a7), (8, .int a8), (9, .int a9)] [] (w0 M)
def P_L_law_414 (X : HX) (M : Mem) (a2 : Int32) (a6 : Int32) (a7 : Int32) (a8 : Int32) (a9 : Int32) : Prop := SW mdL_law X 183 2065 414 [(0, .ref (bX X)), (1, .ref (BX X + 0)), (2, .int a2), (6, .int a6), (7, .int a7), (8, .int a8), (9, .int a9)] [] (w0 M)
def P_L_law_415 (X : HX) (M : Mem) (a2 : Int32) (a6 : Int32) (a7 : Int32) (a8 : Int32) (a9 : Int32) (s0 : Int32) : Prop := SW mdL_law X 183 2065 415 [(0, .ref (bX X)), (1, .ref (BX X + 0)), (2, .int a2), (6, .int a6), (7, .int a7), (8, .int a8), (9, .int a9)] [.int s0] (w0 M)
def P_L_law_423 (X : HX) (M : Mem) (a2 : Int32) (a5 : Int32) (a6 : Int32) (a7 : Int32) : Prop := SW mdL_law X 183 2065 423 [(0, .ref (bX X)), (1, .ref (BX X + 0)), (2, .int a2), (5, .int a5), (6, .int a6), (7, .int a7)] [] (w0 M)
def P_L_law_440 (X : HX) (M : Mem) (a2 : Int32) (a6 : Int32) (a7 : Int32) : Prop := SW mdL_law X 183 2065 440 [(0, .ref (bX X)), (1, .ref (BX X + 0)), (2, .int a2), (6, .int a6), (7, .int a7)] [] (w0 M)
def P_L_law_441 (X : HX) (M : Mem) (a2 : Int32) (a6 : Int32) (a7 : Int32) (s0 : Int32) : Prop := SW mdL_law X 183 2065 441 [(0, .ref (bX X)), (1, .ref (BX X + 0)), (2, .int a2), (6, .int a6), (7, .int a7)] [.int s0] (w0 M)
def P_L_law_446 (X : HX) (M : Mem) (a2 : Int32) (a5 : Int32) (a6 : Int32) (a7 : Int32) (a9 : Int32) : Prop := SW mdL_law X 183 2065 446 [(0, .ref (bX X)), (1, .ref (BX X + 0)), (2, .int a2), (5, .int a5), (6, .int a6), (7, .int a7), (9, .int a9)] [] (w0 M)
def P_L_law_507 (X : HX) (M : Mem) (a2 : Int32) (a6 : Int32) (a7 : Int32) (a9 : Int32) : Prop := SW mdL_law X 183 2065 507 [(0, .ref (bX X)), (1, .ref (BX X + 0)), (2, .int a2), (6, .int a6), (7, .int a7), (9, .int a9)] [] (w0 M)
def P_L_law_508 (X : HX) (M : Mem) (a2 : Int32) (a6 : Int32) (a7 : Int32) (a9 : Int32) (s0 : Int32) : Prop := SW mdL_law X 183 2065 508 [(0, .ref (bX X)), (1, .ref (BX X + 0)), (2, .int a2), (6, .int a6), (7, .int a7), (9, .int a9)] [.int s0] (w0 M)
def P_L_law_516 (X : HX) (M : Mem) (a2 : Int32) (a5 : Int32) : Prop := SW mdL_law X 183 2065 516 [(0, .ref (bX X)), (1, .ref (BX X + 0)), (2, .int a2), (5, .int a5)] [] (w0 M)
def P_L_law_547 (X : HX) (M : Mem) (a2 : Int32) (a5 : Int32) (a9 : Int32) (a13 : Int32) : Prop := SW mdL_law X 186 2099 547 [(0, .ref (bX X)), (1, .ref (BX X + 0)), (2, .int a2), (5, .int a5), (9, .int a9), (10, .ref (BX X + 183)), (11, .ref (BX X + 184)), (12, .ref (BX X + 185)), (13, .int a13)] [] (w0 M)
def P_L_law_574 (X : HX) (M : Mem) (a2 : Int32) (a9 : Int32) (a13 : Int32) (s0 : Int32) : Prop := SW mdL_law X 186 2099 574 [(0, .ref (bX X)), (1, .ref (BX X + 0)), (2, .int a2), (9, .int a9), (10, .ref (BX X + 183)), (11, .ref (BX X + 184)), (12, .ref (BX X + 185)), (13, .int a13)] [.int s0] (w0 M)
def P_L_law_610 (X : HX) (M : Mem) (a2 : Int32) (a5 : Int32) (a9 : Int32) : Prop := SW mdL_law X 186 2099 610 [(0, .ref (bX X)), (1, .ref (BX X + 0)), (2, .int a2), (5, .int a5), (9, .int a9), (10, .ref (BX X + 183)), (11, .ref (BX X + 184)), (12, .ref (BX X + 185))] [] (w0 M)
def P_L_law_626 (X : HX) (M : Mem) (a2 : Int32) (a5 : Int32) (a9 : Int32) (a13 : Int32) (a14 : Int32) (a15 : Int32) : Prop := SW mdL_law X 186 2099 626 [(0, .ref (bX X)), (1, .ref (BX X + 0)), (2, .int a2), (5, .int a5), (9, .int a9), (10, .ref (BX X + 183)), (11, .ref (BX X + 184)), (12, .ref (BX X + 185)), (13, .int a13), (14, .int a14), (15, .int a15)] [] (w0 M)
def P_L_law_644 (X : HX) (M : Mem) (a2 : Int32) (a5 : Int32) (a9 : Int32) (a13 : Int32) (a14 : Int32) (a15 : Int32) (a16 : Int32) (a17 : Int32) : Prop := SW mdL_law X 186 2099 644 [(0, .ref (bX X)), (1, .ref (BX X + 0)), (2, .int a2), (5, .int a5), (9, .int a9), (10, .ref (BX X + 183)), (11, .ref (BX X + 184)), (12, .ref (BX X + 185)), (13, .int a13), (14, .int a14), (15, .int a15), (16, .int a16), (17, .int a17)] [] (w0 M)
def P_L_law_715 (X : HX) (M : Mem) (a2 : Int32) (a5 : Int32) (a9 : Int32) (a13 : Int32) (a14 : Int32) (a15 : Int32) (a16 : Int32) (a17 : Int32) (s1 : Int32) : Prop := SW mdL_law X 186 2099 715 [(0, .ref (bX X)), (1, .ref (BX X + 0)), (2, .int a2), (5, .int a5), (9, .int a9), (10, .ref (BX X + 183)), (11, .ref (BX X + 184)), (12, .ref (BX X + 185)), (13, .int a13), (14, .int a14), (15, .int a15), (16, .int a16), (17, .int a17)] [.int s1, .ref (BX X + 184)] (w0 M)
def P_L_law_720 (X : HX) (M : Mem) (a2 : Int32) (a5 : Int32) (a9 : Int32) (a13 : Int32) (a14 : Int32) (a15 : Int32) (a16 : Int32) (a17 : Int32) (s1 : Int32) (s2 : Int32) : Prop := SW mdL_law X 186 2099 720 [(0, .ref (bX X)), (1, .ref (BX X + 0)), (2, .int a2), (5, .int a5), (9, .int a9), (10, .ref (BX X + 183)), (11, .ref (BX X + 184)), (12, .ref (BX X + 185)), (13, .int a13), (14, .int a14), (15, .int a15), (16, .int a16), (17, .int a17)] [.int s2, .int s1, .ref (BX X + 184)] (w0 M)
def P_L_law_741 (X : HX) (M : Mem) (a2 : Int32) (a5 : Int32) (a9 : Int32) (a13 : Int32) (a14 : Int32) (a15 : Int32) (a17 : Int32) (s0 : Int32) (s1 : Int32) : Prop := SW mdL_law X 186 2099 741 [(0, .ref (bX X)), (1, .ref (BX X + 0)), (2, .int a2), (5, .int a5), (9, .int a9), (10, .ref (BX X + 183)), (11, .ref (BX X + 184)), (12, .ref (BX X + 185)), (13, .int a13), (14, .int a14), (15, .int a15), (17, .int a17)] [.int s1, .int s0] (w0 M)
def P_L_law_760 (X : HX) (M : Mem) (a2 : Int32) (a5 : Int32) (a9 : Int32) (a13 : Int32) (a14 : Int32) (a15 : Int32) (a17 : Int32) : Prop := SW mdL_law X 186 2099 760 [(0, .ref (bX X)), (1, .ref (BX X + 0)), (2, .int a2), (5, .int a5), (9, .int a9), (10, .ref (BX X + 183)), (11, .ref (BX X + 184)), (12, .ref (BX X + 185)), (13, .int a13), (14, .int a14), (15, .int a15), (17, .int a17)] [] (w0 M)
def P_L_law_783 (X : HX) (M : Mem) (a2 : Int32) (a5 : Int32) (a9 : Int32) (a13 : Int32) (a14 : Int32) (a15 : Int32) (a17 : Int32) (a18 : Int32) : Prop := SW mdL_law X 186 2099 783 [(0, .ref (bX X)), (1, .ref (BX X + 0)), (2, .int a2), (5, .int a5), (9, .int a9), (10, .ref (BX X + 183)), (11, .ref (BX X + 184)), (12, .ref (BX X + 185)), (13, .int a13), (14, .int a14), (15, .int a15), (17, .int a17), (18, .int a18)] [] (w0 M)
def P_L_law_842 (X : HX) (M : Mem) (a2 : Int32) (a9 : Int32) (a13 : Int32) (a14 : Int32) (a15 : Int32) (a17 : Int32) (a18 : Int32) (s0 : Int32) : Prop := SW mdL_law X 186 2099 842 [(0, .ref (bX X)), (1, .ref (BX X + 0)), (2, .int a2), (9, .int a9), (10, .ref (BX X + 183)), (11, .ref (BX X + 184)), (12, .ref (BX X + 185)), (13, .int a13), (14, .int a14), (15, .int a15), (17, .int a17), (18, .int a18)] [.int s0] (w0 M)
def P_L_law_844 (X : HX) (M : Mem) (a2 : Int32) (a5 : Int32) (a9 : Int32) (a13 : Int32) (a14 : Int32) (a15 : Int32) (a17 : Int32) (a18 : Int32) : Prop := SW mdL_law X 186 2099 844 [(0, .ref (bX X)), (1, .ref (BX X + 0)), (2, .int a2), (5, .int a5), (9, .int a9), (10, .ref (BX X + 183)), (11, .ref (BX X + 184)), (12, .ref (BX X + 185)), (13, .int a13), (14, .int a14), (15, .int a15), (17, .int a17), (18, .int a18)] [] (w0 M)
def P_L_law_850 (X : HX) (M : Mem) (a2 : Int32) (a5 : Int32) (a9 : Int32) (a13 : Int32) (a14 : Int32) (a15 : Int32) (a17 : Int32) : Prop := SW mdL_law X 186 2099 850 [(0, .ref (bX X)), (1, .ref (BX X + 0)), (2, .int a2), (5, .int a5), (9, .int a9), (10, .ref (BX X + 183)), (11, .ref (BX X + 184)), (12, .ref (BX X + 185)), (13, .int a13), (14, .int a14), (15, .int a15), (17, .int a17)] [] (w0 M)
def P_L_law_856 (X : HX) (M : Mem) (a2 : Int32) (a5 : Int32) (a9 : Int32) (a13 : Int32) (a14 : Int32) (a15 : Int32) : Prop := SW mdL_law X 186 2099 856 [(0, .ref (bX X)), (1, .ref (BX X + 0)), (2, .int a2), (5, .int a5), (9, .int a9), (10, .ref (BX X + 183)), (11, .ref (BX X + 184)), (12, .ref (BX X + 185)), (13, .int a13), (14, .int a14), (15, .int a15)] [] (w0 M)
def P_L_law_862 (X : HX) (M : Mem) (a5 : Int32) (a9 : Int32) (a13 : Int32) (a14 : Int32) : Prop := SW mdL_law X 186 2099 862 [(1, .ref (BX X + 0)), (5, .int a5), (9, .int a9), (10, .ref (BX X + 183)), (12, .ref (BX X + 185)), (13, .int a13), (14, .int a14)] [] (w0 M)
def P_L_law_891 (X : HX) (M : Mem) (a9 : Int32) (a13 : Int32) (a14 : Int32) : Prop := SW mdL_law X 186 2099 891 [(1, .ref (BX X + 0)), (9, .int a9), (10, .ref (BX X + 183)), (12, .ref (BX X + 185)), (13, .int a13), (14, .int a14)] [] (w0 M)
def P_L_law_892 (X : HX) (M : Mem) (a9 : Int32) (a13 : Int32) (a14 : Int32) (s0 : Int32) : Prop := SW mdL_law X 186 2099 892 [(1, .ref (BX X + 0)), (9, .int a9), (10, .ref (BX X + 183)), (12, .ref (BX X + 185)), (13, .int a13), (14, .int a14)] [.int s0] (w0 M)
def P_L_law_903 (X : HX) (M : Mem) (a5 : Int32) (a9 : Int32) (a13 : Int32) (a14 : Int32) (a15 : Int32) (a16 : Int32) : Prop := SW mdL_law X 186 2099 903 [(1, .ref (BX X + 0)), (5, .int a5), (9, .int a9), (10, .ref (BX X + 183)), (12, .ref (BX X + 185)), (13, .int a13), (14, .int a14), (15, .int a15), (16, .int a16)] [] (w0 M)
def P_L_law_918 (X : HX) (M : Mem) (a5 : Int32) (a9 : Int32) (a13 : Int32) (a14 : Int32) (a15 : Int32) (a16 : Int32) (a17 : Int32) : Prop := SW mdL_law X 186 2099 918 [(1, .ref (BX X + 0)), (5, .int a5), (9, .int a9), (10, .ref (BX X + 183)), (12, .ref (BX X + 185)), (13, .int a13), (14, .int a14), (15, .int a15), (16, .int a16), (17, .int a17)] [] (w0 M)
def P_L_law_947 (X : HX) (M : Mem) (a5 : Int32) (a9 : Int32) (a13 : Int32) (a15 : Int32) (a16 : Int32) (a17 : Int32) (s0 : Int32) (s1 : Int32) : Prop := SW mdL_law X 186 2099 947 [(1, .ref (BX X + 0)), (5, .int a5), (9, .int a9), (10, .ref (BX X + 183)), (12, .ref (BX X + 185)), (13, .int a13), (15, .int a15), (16, .int a16), (17, .int a17)] [.int s1, .int s0] (w0 M)
def P_L_law_985 (X : HX) (M : Mem) (a9 : Int32) (a13 : Int32) (a14 : Int32) (a15 : Int32) (a16 : Int32) (a17 : Int32) : Prop := SW mdL_law X 186 2099 985 [(1, .ref (BX X + 0)), (9, .int a9), (10, .ref (BX X + 183)), (12, .ref (BX X + 185)), (13, .int a13), (14, .int a14), (15, .int a15), (16, .int a16), (17, .int a17)] [] (w0 M)
def P_L_law_1009 (X : HX) (M : Mem) (a9 : Int32) (a13 : Int32) (a14 : Int32) (a15 : Int32) (a16 : Int32) (a17 : Int32) : Prop := SW mdL_law X 186 2099 1009 [(1, .ref (BX X + 0)), (9, .int a9), (10, .ref (BX X + 183)), (12, .ref (BX X + 185)), (13, .int a13), (14, .int a14), (15, .int a15), (16, .int a16), (17, .int a17)] [] (w0 M)
def P_L_law_1013 (X : HX) (M : Mem) (a9 : Int32) (a13 : Int32) (a14 : Int32) (a15 : Int32) (a16 : Int32) (a17 : Int32) : Prop := SW mdL_law X 186 2099 1013 [(1, .ref (BX X + 0)), (9, .int a9), (10, .ref (BX X + 183)), (12, .ref (BX X + 185)), (13, .int a13), (14, .int a14), (15, .int a15), (16, .int a16), (17, .int a17)] [] (w0 M)
def P_L_law_1014 (X : HX) (M : Mem) (a9 : Int32) (a13 : Int32) (a14 : Int32) (a15 : Int32) (a16 : Int32) (a17 : Int32) (s0 : Int32) : Prop := SW mdL_law X 186 2099 1014 [(1, .ref (BX X + 0)), (9, .int a9), (10, .ref (BX X + 183)), (12, .ref (BX X + 185)), (13, .int a13), (14, .int a14), (15, .int a15), (16, .int a16), (17, .int a17)] [.int s0] (w0 M)
def P_L_law_1028 (X : HX) (M : Mem) (a5 : Int32) (a9 : Int32) (a14 : Int32) (a15 : Int32) : Prop := SW mdL_law X 186 2099 1028 [(1, .ref (BX X + 0)), (5, .int a5), (9, .int a9), (14, .int a14), (15, .int a15)] [] (w0 M)
def P_L_law_1031 (X : HX) (M : Mem) (a5 : Int32) (a9 : Int32) (a14 : Int32) (a15 : Int32) (a16 : Int32) : Prop := SW mdL_law X 186 2099 1031 [(1, .ref (BX X + 0)), (5, .int a5), (9, .int a9), (14, .int a14), (15, .int a15), (16, .int a16)] [] (w0 M)
def P_L_law_1087 (X : HX) (M : Mem) (a9 : Int32) (a14 : Int32) (a15 : Int32) (a16 : Int32) (s0 : Int32) : Prop := SW mdL_law X 186 2099 1087 [(1, .ref (BX X + 0)), (9, .int a9), (14, .int a14), (15, .int a15), (16, .int a16)] [.int s0] (w0 M)
def P_L_law_1095 (X : HX) (M : Mem) (a5 : Int32) (a14 : Int32) (a15 : Int32) : Prop := SW mdL_law X 186 2099 1095 [(5, .int a5), (14, .int a14), (15, .int a15)] [] (w0 M)
def P_L_law_1114 (X : HX) (M : Mem)  : Prop := SW mdL_law X 186 2099 1114 [] [] (w0 M)
def P_L_law_1115 (X : HX) (M : Mem) (s0 : Int32) : Prop := SW mdL_law X 186 2099 1115 [] [.int s0] (w0 M)
theorem T_L_law {X : HX} {L : Nat} {xs : Nat → Int32} {M : Mem}  {Q : Int32 → Mem → Prop} (C : LC mdL_law 9 600000 7302250 X L xs) (R : RT mdL_law X 186 2099 Q) (h : C_L_lays L xs M (fun r0 M0 => (gx M0 = 0 ∧ ∀ j, M0 182 j = nI 0) ∧ (((r0 ≤ 0) → (P_L_law_34 X (wr M0 999 0 (nI 1)) r0 (-1))) ∧ ((¬ r0 ≤ 0) → (C_L_walks L xs (wr M0 999 0 (nI 1)) r0 (fun r3 M3 => P_L_law_34 X M3 r0 r3)))))) : SW mdL_law X 182 2017 8 [(0, .ref (bX X)), (1, .ref (BX X + 0))] [] (w0 M) := by
  refine lr_aload_n (pc' := 9) 1 C rfl dL_law_8 rfl rfl ?_
  refine lr_aload_n (pc' := 10) 0 C rfl dL_law_9 rfl rfl ?_
  refine lr_callS (As := (fun B b => [.ref (B + 0), .ref b])) (rest := []) (pc' := 13) 2 C rfl dL_law_10 cs_L_lays ml_L_51 (by decide) (fun _ _ => rfl) rfl (by decide) (Nat.le_of_ble_eq_true rfl) (Nat.le_of_ble_eq_true rfl) (Nat.le_of_ble_eq_true rfl) (HLc.mono h ?_)
  intro r0 M0 h
  refine lr_istore_n (pc' := 14) (lv' := [(0, .ref (bX X)), (1, .ref (BX X + 0)), (2, .int r0)]) [1, 2, 0] C rfl dL_law_13 rfl (by decide) rfl ?_
  refine lr_bipush (pc' := 16) C rfl dL_law_14 cb_48 ?_
  obtain ⟨g1, h⟩ := h
  refine lr_newa (n := 0) (N := 48) (pc' := 18) (nc' := 183) (ns' := 2065) C rfl rfl rfl g1.1 rfl g1.2 (by omega) (by omega) (Nat.le_of_ble_eq_true rfl) (Nat.le_of_ble_eq_true rfl) dL_law_16 aw_c ?_
  refine lr_astore_n (pc' := 19) (lv' := [(0, .ref (bX X)), (1, .ref (BX X + 0)), (2, .int r0), (3, .ref (BX X + 182))]) [1, 2, 3, 0] C rfl dL_law_18 rfl (by decide) rfl ?_
  refine lr_iload_n (pc' := 20) 2 C rfl dL_law_19 rfl rfl ?_
  refine lr_if_le (tgt := 33) (pc' := 23) C rfl dL_law_20 (by decide) (fun q2 => ?_) (fun q2 => ?_)
  · have h := h.1 q2
    refine lr_iconst (pc' := 34) C rfl dL_law_33 ci_m1 ?_
    exact lr_sub [0, 1, 2] rfl h
  · have h := h.2 q2
    refine lr_aload_n (pc' := 24) 1 C rfl dL_law_23 rfl rfl ?_
    refine lr_aload_n (pc' := 25) 0 C rfl dL_law_24 rfl rfl ?_
    refine lr_iload_n (pc' := 26) 2 C rfl dL_law_25 rfl rfl ?_
    refine lr_aload_n (pc' := 27) 3 C rfl dL_law_26 rfl rfl ?_
    refine lr_callS (As := (fun B b => [.ref (B + 0), .ref b, .int r0, .ref (B + 182)])) (rest := []) (pc' := 30) 4 C rfl dL_law_27 cs_L_walks ml_L_55 (by decide) (fun _ _ => rfl) rfl (by decide) (Nat.le_of_ble_eq_true rfl) (Nat.le_of_ble_eq_true rfl) (Nat.le_of_ble_eq_true rfl) (HLc.mono h ?_)
    intro r3 M3 h
    refine lr_goto (tgt := 34) C dL_law_30 (by decide) ?_
    exact lr_sub [0, 1, 2] rfl h
theorem T_L_law_34 {X : HX} {L : Nat} {xs : Nat → Int32} {M : Mem} {a2 : Int32} {s0 : Int32} {Q : Int32 → Mem → Prop} (C : LC mdL_law 9 600000 7302250 X L xs) (R : RT mdL_law X 186 2099 Q) (h : ((s0 < 0) → (P_L_law_46 X M a2 s0 (nI 0))) ∧ ((¬ s0 < 0) → (P_L_law_46 X M a2 s0 (nI 1)))) : P_L_law_34 X M a2 s0 := by
  refine lr_istore (pc' := 36) (lv' := [(0, .ref (bX X)), (1, .ref (BX X + 0)), (2, .int a2), (4, .int s0)]) [1, 2, 3, 0] C rfl dL_law_34 (by decide) rfl ?_
  refine lr_iload (pc' := 38) 3 C rfl dL_law_36 rfl ?_
  refine lr_if_lt (tgt := 45) (pc' := 41) C rfl dL_law_38 (by decide) (fun q0 => ?_) (fun q0 => ?_)
  · have h := h.1 q0
    refine lr_iconst (pc' := 46) C rfl dL_law_45 ci_0 ?_
    exact lr_sub [0, 1, 2, 3] rfl h
  · have h := h.2 q0
    refine lr_iconst (pc' := 42) C rfl dL_law_41 ci_1 ?_
    refine lr_goto (tgt := 46) C dL_law_42 (by decide) ?_
    exact lr_sub [0, 1, 2, 3] rfl h
theorem T_L_law_46 {X : HX} {L : Nat} {xs : Nat → Int32} {M : Mem} {a2 : Int32} {a4 : Int32} {s0 : Int32} {Q : Int32 → Mem → Prop} (C : LC mdL_law 9 600000 7302250 X L xs) (R : RT mdL_law X 186 2099 Q) (h : P_L_law_51 X M a2 a4 s0 (nI 0)) : P_L_law_46 X M a2 a4 s0 := by
  refine lr_istore (pc' := 48) (lv' := [(0, .ref (bX X)), (1, .ref (BX X + 0)), (2, .int a2), (4, .int a4), (5, .int s0)]) [1, 2, 3, 4, 0] C rfl dL_law_46 (by decide) rfl ?_
  refine lr_iconst (pc' := 49) C rfl dL_law_48 ci_0 ?_
  refine lr_istore (pc' := 51) (lv' := [(0, .ref (bX X)), (1, .ref (BX X + 0)), (2, .int a2), (4, .int a4), (5, .int s0), (6, .int (nI 0))]) [1, 2, 3, 4, 5, 0] C rfl dL_law_49 (by decide) rfl ?_
  exact lr_sub [0, 1, 2, 3, 4, 5] rfl h
theorem T_L_law_51 {X : HX} {L : Nat} {xs : Nat → Int32} {M : Mem} {a2 : Int32} {a4 : Int32} {a5 : Int32} {a6 : Int32} {Q : Int32 → Mem → Prop} (C : LC mdL_law 9 600000 7302250 X L xs) (R : RT mdL_law X 186 2099 Q) (h : (((nI 6) ≤ a6) → (P_L_law_310 X M a2 a5)) ∧ ((¬ (nI 6) ≤ a6) → (((a5 = 0) → (P_L_law_310 X M a2 a5)) ∧ ((¬ a5 = 0) → (¬ ((nI 9) + a6) < 0 ∧ (¬ a2 = 0 ∧ (C_X9_trip M (remI (clI L xs ((nI 9) + a6)) a2) (remI ((clI L xs ((nI 9) + a6)) >>> ((nI 8) &&& 31)) (nI 24)) (remI ((clI L xs ((nI 9) + a6)) >>> ((nI 4) &&& 31)) a2) (nI 1) (-1) (fun r4 M4 => C_X9_trip M4 (remI (clI L xs ((nI 9) + a6)) a2) (remI ((clI L xs ((nI 9) + a6)) >>> ((nI 8) &&& 31)) (nI 24)) (remI ((clI L xs ((nI 9) + a6)) >>> ((nI 4) &&& 31)) a2) (nI 0) (-1) (fun r5 M5 => ((r4 < 0) → (P_L_law_143 X M5 a2 a4 a6 (remI (clI L xs ((nI 9) + a6)) a2) (remI ((clI L xs ((nI 9) + a6)) >>> ((nI 4) &&& 31)) a2) (remI ((clI L xs ((nI 9) + a6)) >>> ((nI 8) &&& 31)) (nI 24)) r4)) ∧ ((¬ r4 < 0) → (((r5 < 0) → (P_L_law_147 X M5 a2 a4 a6 (remI (clI L xs ((nI 9) + a6)) a2) (remI ((clI L xs ((nI 9) + a6)) >>> ((nI 4) &&& 31)) a2) (remI ((clI L xs ((nI 9) + a6)) >>> ((nI 8) &&& 31)) (nI 24)) r4)) ∧ ((¬ r5 < 0) → (((r4 < r5) → (P_L_law_147 X M5 a2 a4 a6 (remI (clI L xs ((nI 9) + a6)) a2) (remI ((clI L xs ((nI 9) + a6)) >>> ((nI 4) &&& 31)) a2) (remI ((clI L xs ((nI 9) + a6)) >>> ((nI 8) &&& 31)) (nI 24)) r4)) ∧ ((¬ r4 < r5) → (P_L_law_143 X M5 a2 a4 a6 (remI (clI L xs ((nI 9) + a6)) a2) (remI ((clI L xs ((nI 9) + a6)) >>> ((nI 4) &&& 31)) a2) (remI ((clI L xs ((nI 9) + a6)) >>> ((nI 8) &&& 31)) (nI 24)) r4))))))))))))))) : P_L_law_51 X M a2 a4 a5 a6 := by
  refine lr_iload (pc' := 53) 5 C rfl dL_law_51 rfl ?_
  refine lr_bipush (pc' := 55) C rfl dL_law_53 cb_6 ?_
  refine lr_icmp_ge (tgt := 310) (pc' := 58) C rfl dL_law_55 (by decide) (fun q0 => ?_) (fun q0 => ?_)
  · have h := h.1 q0
    exact lr_sub [0, 1, 2, 4] rfl h
  · have h := h.2 q0
    refine lr_iload (pc' := 60) 4 C rfl dL_law_58 rfl ?_
    refine lr_if_eq (tgt := 310) (pc' := 63) C rfl dL_law_60 (by decide) (fun q1 => ?_) (fun q1 => ?_)
    · have h := h.1 q1
      exact lr_sub [0, 1, 2, 4] rfl h
    · have h := h.2 q1
      refine lr_aload_n (pc' := 64) 0 C rfl dL_law_63 rfl rfl ?_
      refine lr_bipush (pc' := 66) C rfl dL_law_64 cb_9 ?_
      refine lr_iload (pc' := 68) 5 C rfl dL_law_66 rfl ?_
      refine lr_iadd (pc' := 69) C rfl dL_law_68 ?_
      obtain ⟨b2, h⟩ := h
      refine lr_callS (As := (fun B b => [.ref b, .int ((nI 9) + a6)])) (rest := []) (pc' := 72) 2 C rfl dL_law_69 cs_L_cell ml_L_9 (by decide) (fun _ _ => rfl) rfl (by decide) (Nat.le_of_ble_eq_true rfl) (Nat.le_of_ble_eq_true rfl) (Nat.le_of_ble_eq_true rfl) (u_cell (LC_L C) b2 ?_)
      refine lr_istore (pc' := 74) (lv' := [(0, .ref (bX X)), (1, .ref (BX X + 0)), (2, .int a2), (4, .int a4), (5, .int a5), (6, .int a6), (7, .int (clI L xs ((nI 9) + a6)))]) [1, 2, 3, 4, 5, 6, 0] C rfl dL_law_72 (by decide) rfl ?_
      refine lr_iload (pc' := 76) 6 C rfl dL_law_74 rfl ?_
      refine lr_iload_n (pc' := 77) 2 C rfl dL_law_76 rfl rfl ?_
      obtain ⟨z3, h⟩ := h
      refine lr_irem (pc' := 78) C rfl dL_law_77 z3 ?_
      refine lr_istore (pc' := 80) (lv' := [(0, .ref (bX X)), (1, .ref (BX X + 0)), (2, .int a2), (4, .int a4), (5, .int a5), (6, .int a6), (7, .int (clI L xs ((nI 9) + a6))), (8, .int (remI (clI L xs ((nI 9) + a6)) a2))]) [1, 2, 3, 4, 5, 6, 7, 0] C rfl dL_law_78 (by decide) rfl ?_
      refine lr_iload (pc' := 82) 6 C rfl dL_law_80 rfl ?_
      refine lr_iconst (pc' := 83) C rfl dL_law_82 ci_4 ?_
      refine lr_ishr (pc' := 84) C rfl dL_law_83 ?_
      refine lr_iload_n (pc' := 85) 2 C rfl dL_law_84 rfl rfl ?_
      refine lr_irem (pc' := 86) C rfl dL_law_85 z3 ?_
      refine lr_istore (pc' := 88) (lv' := [(0, .ref (bX X)), (1, .ref (BX X + 0)), (2, .int a2), (4, .int a4), (5, .int a5), (6, .int a6), (7, .int (clI L xs ((nI 9) + a6))), (8, .int (remI (clI L xs ((nI 9) + a6)) a2)), (9, .int (remI ((clI L xs ((nI 9) + a6)) >>> ((nI 4) &&& 31)) a2))]) [1, 2, 3, 4, 5, 6, 7, 8, 0] C rfl dL_law_86 (by decide) rfl ?_
      refine lr_iload (pc' := 90) 6 C rfl dL_law_88 rfl ?_
      refine lr_bipush (pc' := 92) C rfl dL_law_90 cb_8 ?_
      refine lr_ishr (pc' := 93) C rfl dL_law_92 ?_
      refine lr_bipush (pc' := 95) C rfl dL_law_93 cb_24 ?_
      refine lr_irem (pc' := 96) C rfl dL_law_95 (by decide) ?_
      refine lr_istore (pc' := 98) (lv' := [(0, .ref (bX X)), (1, .ref (BX X + 0)), (2, .int a2), (4, .int a4), (5, .int a5), (6, .int a6), (7, .int (clI L xs ((nI 9) + a6))), (8, .int (remI (clI L xs ((nI 9) + a6)) a2)), (9, .int (remI ((clI L xs ((nI 9) + a6)) >>> ((nI 4) &&& 31)) a2)), (10, .int (remI ((clI L xs ((nI 9) + a6)) >>> ((nI 8) &&& 31)) (nI 24)))]) [1, 2, 3, 4, 5, 6, 7, 8, 9, 0] C rfl dL_law_96 (by decide) rfl ?_
      refine lr_aload_n (pc' := 99) 1 C rfl dL_law_98 rfl rfl ?_
      refine lr_iload (pc' := 101) 7 C rfl dL_law_99 rfl ?_
      refine lr_iload (pc' := 103) 9 C rfl dL_law_101 rfl ?_
      refine lr_iload (pc' := 105) 8 C rfl dL_law_103 rfl ?_
      refine lr_iconst (pc' := 106) C rfl dL_law_105 ci_1 ?_
      refine lr_iconst (pc' := 107) C rfl dL_law_106 ci_m1 ?_
      refine lr_callV (As := [.int (remI (clI L xs ((nI 9) + a6)) a2), .int (remI ((clI L xs ((nI 9) + a6)) >>> ((nI 8) &&& 31)) (nI 24)), .int (remI ((clI L xs ((nI 9) + a6)) >>> ((nI 4) &&& 31)) a2), .int (nI 1), .int (-1)]) (rest := []) (c0 := 0) (cT := (RX9, TX9, 14)) (pc' := 110) 5 C rfl dL_law_107 cv_X9_trip ml_L_59 (by decide) rfl rfl (by decide) (Nat.le_of_ble_eq_true rfl) ob_0 rfl rfl (Nat.le_of_ble_eq_true rfl) (Nat.le_of_ble_eq_true rfl) (CA.monoI h ?_)
      intro r4 M4 h
      refine lr_istore (pc' := 112) (lv' := [(0, .ref (bX X)), (1, .ref (BX X + 0)), (2, .int a2), (4, .int a4), (5, .int a5), (6, .int a6), (7, .int (clI L xs ((nI 9) + a6))), (8, .int (remI (clI L xs ((nI 9) + a6)) a2)), (9, .int (remI ((clI L xs ((nI 9) + a6)) >>> ((nI 4) &&& 31)) a2)), (10, .int (remI ((clI L xs ((nI 9) + a6)) >>> ((nI 8) &&& 31)) (nI 24))), (11, .int r4)]) [1, 2, 3, 4, 5, 6, 7, 8, 9, 10, 0] C rfl dL_law_110 (by decide) rfl ?_
      refine lr_aload_n (pc' := 113) 1 C rfl dL_law_112 rfl rfl ?_
      refine lr_iload (pc' := 115) 7 C rfl dL_law_113 rfl ?_
      refine lr_iload (pc' := 117) 9 C rfl dL_law_115 rfl ?_
      refine lr_iload (pc' := 119) 8 C rfl dL_law_117 rfl ?_
      refine lr_iconst (pc' := 120) C rfl dL_law_119 ci_0 ?_
      refine lr_iconst (pc' := 121) C rfl dL_law_120 ci_m1 ?_
      refine lr_callV (As := [.int (remI (clI L xs ((nI 9) + a6)) a2), .int (remI ((clI L xs ((nI 9) + a6)) >>> ((nI 8) &&& 31)) (nI 24)), .int (remI ((clI L xs ((nI 9) + a6)) >>> ((nI 4) &&& 31)) a2), .int (nI 0), .int (-1)]) (rest := []) (c0 := 0) (cT := (RX9, TX9, 14)) (pc' := 124) 5 C rfl dL_law_121 cv_X9_trip ml_L_59 (by decide) rfl rfl (by decide) (Nat.le_of_ble_eq_true rfl) ob_0 rfl rfl (Nat.le_of_ble_eq_true rfl) (Nat.le_of_ble_eq_true rfl) (CA.monoI h ?_)
      intro r5 M5 h
      refine lr_istore (pc' := 126) (lv' := [(0, .ref (bX X)), (1, .ref (BX X + 0)), (2, .int a2), (4, .int a4), (5, .int a5), (6, .int a6), (7, .int (clI L xs ((nI 9) + a6))), (8, .int (remI (clI L xs ((nI 9) + a6)) a2)), (9, .int (remI ((clI L xs ((nI 9) + a6)) >>> ((nI 4) &&& 31)) a2)), (10, .int (remI ((clI L xs ((nI 9) + a6)) >>> ((nI 8) &&& 31)) (nI 24))), (11, .int r4), (12, .int r5)]) [1, 2, 3, 4, 5, 6, 7, 8, 9, 10, 11, 0] C rfl dL_law_124 (by decide) rfl ?_
      refine lr_iload (pc' := 128) 10 C rfl dL_law_126 rfl ?_
      refine lr_if_lt (tgt := 143) (pc' := 131) C rfl dL_law_128 (by decide) (fun q6 => ?_) (fun q6 => ?_)
      · have h := h.1 q6
        exact lr_sub [0, 1, 2, 3, 5, 7, 8, 9, 10] rfl h
      · have h := h.2 q6
        refine lr_iload (pc' := 133) 11 C rfl dL_law_131 rfl ?_
        refine lr_if_lt (tgt := 147) (pc' := 136) C rfl dL_law_133 (by decide) (fun q7 => ?_) (fun q7 => ?_)
        · have h := h.1 q7
          exact lr_sub [0, 1, 2, 3, 5, 7, 8, 9, 10] rfl h
        · have h := h.2 q7
          refine lr_iload (pc' := 138) 11 C rfl dL_law_136 rfl ?_
          refine lr_iload (pc' := 140) 10 C rfl dL_law_138 rfl ?_
          refine lr_icmp_gt (tgt := 147) (pc' := 143) C rfl dL_law_140 (by decide) (fun q8 => ?_) (fun q8 => ?_)
          · have h := h.1 q8
            exact lr_sub [0, 1, 2, 3, 5, 7, 8, 9, 10] rfl h
          · have h := h.2 q8
            exact lr_sub [0, 1, 2, 3, 5, 7, 8, 9, 10] rfl h
theorem T_L_law_143 {X : HX} {L : Nat} {xs : Nat → Int32} {M : Mem} {a2 : Int32} {a4 : Int32} {a6 : Int32} {a8 : Int32} {a9 : Int32} {a10 : Int32} {a11 : Int32} {Q : Int32 → Mem → Prop} (C : LC mdL_law 9 600000 7302250 X L xs) (R : RT mdL_law X 186 2099 Q) (h : P_L_law_148 X M a2 a4 a6 a8 a9 a10 a11 (nI 1)) : P_L_law_143 X M a2 a4 a6 a8 a9 a10 a11 := by
  refine lr_iconst (pc' := 144) C rfl dL_law_143 ci_1 ?_
  refine lr_goto (tgt := 148) C dL_law_144 (by decide) ?_
  exact lr_sub [0, 1, 2, 3, 4, 5, 6, 7, 8] rfl h
theorem T_L_law_147 {X : HX} {L : Nat} {xs : Nat → Int32} {M : Mem} {a2 : Int32} {a4 : Int32} {a6 : Int32} {a8 : Int32} {a9 : Int32} {a10 : Int32} {a11 : Int32} {Q : Int32 → Mem → Prop} (C : LC mdL_law 9 600000 7302250 X L xs) (R : RT mdL_law X 186 2099 Q) (h : P_L_law_148 X M a2 a4 a6 a8 a9 a10 a11 (nI 0)) : P_L_law_147 X M a2 a4 a6 a8 a9 a10 a11 := by
  refine lr_iconst (pc' := 148) C rfl dL_law_147 ci_0 ?_
  exact lr_sub [0, 1, 2, 3, 4, 5, 6, 7, 8] rfl h
theorem T_L_law_148 {X : HX} {L : Nat} {xs : Nat → Int32} {M : Mem} {a2 : Int32} {a4 : Int32} {a6 : Int32} {a8 : Int32} {a9 : Int32} {a10 : Int32} {a11 : Int32} {s0 : Int32} {Q : Int32 → Mem → Prop} (C : LC mdL_law 9 600000 7302250 X L xs) (R : RT mdL_law X 186 2099 Q) (h : P_L_law_154 X M a2 a4 s0 a6 a8 a9 a10 a11 a10) : P_L_law_148 X M a2 a4 a6 a8 a9 a10 a11 s0 := by
  refine lr_istore (pc' := 150) (lv' := [(0, .ref (bX X)), (1, .ref (BX X + 0)), (2, .int a2), (4, .int a4), (5, .int s0), (6, .int a6), (8, .int a8), (9, .int a9), (10, .int a10), (11, .int a11)]) [1, 2, 3, 4, 0, 5, 6, 7, 8, 9] C rfl dL_law_148 (by decide) rfl ?_
  refine lr_iload (pc' := 152) 8 C rfl dL_law_150 rfl ?_
  refine lr_istore (pc' := 154) (lv' := [(0, .ref (bX X)), (1, .ref (BX X + 0)), (2, .int a2), (4, .int a4), (5, .int s0), (6, .int a6), (8, .int a8), (9, .int a9), (10, .int a10), (11, .int a11), (13, .int a10)]) [1, 2, 3, 4, 5, 6, 7, 8, 9, 10, 0] C rfl dL_law_152 (by decide) rfl ?_
  exact lr_sub [0, 1, 2, 3, 4, 5, 6, 7, 8, 9, 10] rfl h
theorem T_L_law_154 {X : HX} {L : Nat} {xs : Nat → Int32} {M : Mem} {a2 : Int32} {a4 : Int32} {a5 : Int32} {a6 : Int32} {a8 : Int32} {a9 : Int32} {a10 : Int32} {a11 : Int32} {a13 : Int32} {Q : Int32 → Mem → Prop} (C : LC mdL_law 9 600000 7302250 X L xs) (R : RT mdL_law X 186 2099 Q) (h : ((a11 < a13) → (P_L_law_304 X M a2 a4 a5 a6)) ∧ ((¬ a11 < a13) → (((a5 = 0) → (P_L_law_304 X M a2 a4 a5 a6)) ∧ ((¬ a5 = 0) → (C_X9_trip M a8 a10 a9 (nI 1) a13 (fun r2 M2 => ((r2 < 0) → (P_L_law_191 X M2 a2 a4 a6 a8 a9 a10 a11 a13 r2 (nI 0))) ∧ ((¬ r2 < 0) → (P_L_law_191 X M2 a2 a4 a6 a8 a9 a10 a11 a13 r2 (nI 1))))))))) : P_L_law_154 X M a2 a4 a5 a6 a8 a9 a10 a11 a13 := by
  refine lr_iload (pc' := 156) 10 C rfl dL_law_154 rfl ?_
  refine lr_iload (pc' := 158) 9 C rfl dL_law_156 rfl ?_
  refine lr_icmp_gt (tgt := 304) (pc' := 161) C rfl dL_law_158 (by decide) (fun q0 => ?_) (fun q0 => ?_)
  · have h := h.1 q0
    exact lr_sub [0, 1, 2, 3, 4, 5] rfl h
  · have h := h.2 q0
    refine lr_iload (pc' := 163) 4 C rfl dL_law_161 rfl ?_
    refine lr_if_eq (tgt := 304) (pc' := 166) C rfl dL_law_163 (by decide) (fun q1 => ?_) (fun q1 => ?_)
    · have h := h.1 q1
      exact lr_sub [0, 1, 2, 3, 4, 5] rfl h
    · have h := h.2 q1
      refine lr_aload_n (pc' := 167) 1 C rfl dL_law_166 rfl rfl ?_
      refine lr_iload (pc' := 169) 6 C rfl dL_law_167 rfl ?_
      refine lr_iload (pc' := 171) 8 C rfl dL_law_169 rfl ?_
      refine lr_iload (pc' := 173) 7 C rfl dL_law_171 rfl ?_
      refine lr_iconst (pc' := 174) C rfl dL_law_173 ci_1 ?_
      refine lr_iload (pc' := 176) 10 C rfl dL_law_174 rfl ?_
      refine lr_callV (As := [.int a8, .int a10, .int a9, .int (nI 1), .int a13]) (rest := []) (c0 := 0) (cT := (RX9, TX9, 14)) (pc' := 179) 5 C rfl dL_law_176 cv_X9_trip ml_L_59 (by decide) rfl rfl (by decide) (Nat.le_of_ble_eq_true rfl) ob_0 rfl rfl (Nat.le_of_ble_eq_true rfl) (Nat.le_of_ble_eq_true rfl) (CA.monoI h ?_)
      intro r2 M2 h
      refine lr_istore (pc' := 181) (lv' := [(0, .ref (bX X)), (1, .ref (BX X + 0)), (2, .int a2), (4, .int a4), (5, .int a5), (6, .int a6), (8, .int a8), (9, .int a9), (10, .int a10), (11, .int a11), (13, .int a13), (14, .int r2)]) [1, 2, 3, 4, 5, 6, 7, 8, 9, 10, 11, 0] C rfl dL_law_179 (by decide) rfl ?_
      refine lr_iload (pc' := 183) 11 C rfl dL_law_181 rfl ?_
      refine lr_if_lt (tgt := 190) (pc' := 186) C rfl dL_law_183 (by decide) (fun q3 => ?_) (fun q3 => ?_)
      · have h := h.1 q3
        refine lr_iconst (pc' := 191) C rfl dL_law_190 ci_0 ?_
        exact lr_sub [0, 1, 2, 3, 5, 6, 7, 8, 9, 10, 11] rfl h
      · have h := h.2 q3
        refine lr_iconst (pc' := 187) C rfl dL_law_186 ci_1 ?_
        refine lr_goto (tgt := 191) C dL_law_187 (by decide) ?_
        exact lr_sub [0, 1, 2, 3, 5, 6, 7, 8, 9, 10, 11] rfl h
theorem T_L_law_191 {X : HX} {L : Nat} {xs : Nat → Int32} {M : Mem} {a2 : Int32} {a4 : Int32} {a6 : Int32} {a8 : Int32} {a9 : Int32} {a10 : Int32} {a11 : Int32} {a13 : Int32} {a14 : Int32} {s0 : Int32} {Q : Int32 → Mem → Prop} (C : LC mdL_law 9 600000 7302250 X L xs) (R : RT mdL_law X 186 2099 Q) (h : P_L_law_196 X M a2 a4 s0 a6 a8 a9 a10 a11 a13 a14 (nI 0)) : P_L_law_191 X M a2 a4 a6 a8 a9 a10 a11 a13 a14 s0 := by
  refine lr_istore (pc' := 193) (lv' := [(0, .ref (bX X)), (1, .ref (BX X + 0)), (2, .int a2), (4, .int a4), (5, .int s0), (6, .int a6), (8, .int a8), (9, .int a9), (10, .int a10), (11, .int a11), (13, .int a13), (14, .int a14)]) [1, 2, 3, 4, 0, 5, 6, 7, 8, 9, 10, 11] C rfl dL_law_191 (by decide) rfl ?_
  refine lr_iconst (pc' := 194) C rfl dL_law_193 ci_0 ?_
  refine lr_istore (pc' := 196) (lv' := [(0, .ref (bX X)), (1, .ref (BX X + 0)), (2, .int a2), (4, .int a4), (5, .int s0), (6, .int a6), (8, .int a8), (9, .int a9), (10, .int a10), (11, .int a11), (13, .int a13), (14, .int a14), (15, .int (nI 0))]) [1, 2, 3, 4, 5, 6, 7, 8, 9, 10, 11, 12, 0] C rfl dL_law_194 (by decide) rfl ?_
  exact lr_sub [0, 1, 2, 3, 4, 5, 6, 7, 8, 9, 10, 11, 12] rfl h
theorem T_L_law_196 {X : HX} {L : Nat} {xs : Nat → Int32} {M : Mem} {a2 : Int32} {a4 : Int32} {a5 : Int32} {a6 : Int32} {a8 : Int32} {a9 : Int32} {a10 : Int32} {a11 : Int32} {a13 : Int32} {a14 : Int32} {a15 : Int32} {Q : Int32 → Mem → Prop} (C : LC mdL_law 9 600000 7302250 X L xs) (R : RT mdL_law X 186 2099 Q) (h : ((a4 ≤ a15) → (P_L_law_298 X M a2 a4 a5 a6 a8 a9 a10 a11 a13)) ∧ ((¬ a4 ≤ a15) → (((a5 = 0) → (P_L_law_298 X M a2 a4 a5 a6 a8 a9 a10 a11 a13)) ∧ ((¬ a5 = 0) → (C_X9_guest M a15 a13 (fun r2 M2 => ((r2 = a14) → (P_L_law_226 X M2 a2 a4 a6 a8 a9 a10 a11 a13 a14 a15 (nI 0))) ∧ ((¬ r2 = a14) → (P_L_law_226 X M2 a2 a4 a6 a8 a9 a10 a11 a13 a14 a15 (nI 1))))))))) : P_L_law_196 X M a2 a4 a5 a6 a8 a9 a10 a11 a13 a14 a15 := by
  refine lr_iload (pc' := 198) 12 C rfl dL_law_196 rfl ?_
  refine lr_iload (pc' := 200) 3 C rfl dL_law_198 rfl ?_
  refine lr_icmp_ge (tgt := 298) (pc' := 203) C rfl dL_law_200 (by decide) (fun q0 => ?_) (fun q0 => ?_)
  · have h := h.1 q0
    exact lr_sub [0, 1, 2, 3, 4, 5, 6, 7, 8, 9, 10] rfl h
  · have h := h.2 q0
    refine lr_iload (pc' := 205) 4 C rfl dL_law_203 rfl ?_
    refine lr_if_eq (tgt := 298) (pc' := 208) C rfl dL_law_205 (by decide) (fun q1 => ?_) (fun q1 => ?_)
    · have h := h.1 q1
      exact lr_sub [0, 1, 2, 3, 4, 5, 6, 7, 8, 9, 10] rfl h
    · have h := h.2 q1
      refine lr_aload_n (pc' := 209) 1 C rfl dL_law_208 rfl rfl ?_
      refine lr_iload (pc' := 211) 12 C rfl dL_law_209 rfl ?_
      refine lr_iload (pc' := 213) 10 C rfl dL_law_211 rfl ?_
      refine lr_callV (As := [.int a15, .int a13]) (rest := []) (c0 := 0) (cT := (RX9, TX9, 14)) (pc' := 216) 2 C rfl dL_law_213 cv_X9_guest ml_L_63 (by decide) rfl rfl (by decide) (Nat.le_of_ble_eq_true rfl) ob_0 rfl rfl (Nat.le_of_ble_eq_true rfl) (Nat.le_of_ble_eq_true rfl) (CA.monoI h ?_)
      intro r2 M2 h
      refine lr_iload (pc' := 218) 11 C rfl dL_law_216 rfl ?_
      refine lr_icmp_eq (tgt := 225) (pc' := 221) C rfl dL_law_218 (by decide) (fun q3 => ?_) (fun q3 => ?_)
      · have h := h.1 q3
        refine lr_iconst (pc' := 226) C rfl dL_law_225 ci_0 ?_
        exact lr_sub [0, 1, 2, 3, 5, 6, 7, 8, 9, 10, 11, 12] rfl h
      · have h := h.2 q3
        refine lr_iconst (pc' := 222) C rfl dL_law_221 ci_1 ?_
        refine lr_goto (tgt := 226) C dL_law_222 (by decide) ?_
        exact lr_sub [0, 1, 2, 3, 5, 6, 7, 8, 9, 10, 11, 12] rfl h
theorem T_L_law_226 {X : HX} {L : Nat} {xs : Nat → Int32} {M : Mem} {a2 : Int32} {a4 : Int32} {a6 : Int32} {a8 : Int32} {a9 : Int32} {a10 : Int32} {a11 : Int32} {a13 : Int32} {a14 : Int32} {a15 : Int32} {s0 : Int32} {Q : Int32 → Mem → Prop} (C : LC mdL_law 9 600000 7302250 X L xs) (R : RT mdL_law X 186 2099 Q) (h : ((a11 ≤ a13) → (P_L_law_292 X M a2 a4 s0 a6 a8 a9 a10 a11 a13 a14 a15)) ∧ ((¬ a11 ≤ a13) → (C_X9_trip M a8 a10 a9 (nI 1) (a13 + (nI 1)) (fun r1 M1 => ((s0 = 0) → (P_L_law_289 X M1 a2 a4 a6 a8 a9 a10 a11 a13 a14 a15)) ∧ ((¬ s0 = 0) → (C_X9_guest M1 a15 a13 (fun r3 M3 => ((¬ r3 = r1) → (P_L_law_285 X M3 a2 a4 a6 a8 a9 a10 a11 a13 a14 a15)) ∧ ((r3 = r1) → (C_X9_guest M3 a15 (a13 + (nI 1)) (fun r5 M5 => ((r5 = a14) → (P_L_law_289 X M5 a2 a4 a6 a8 a9 a10 a11 a13 a14 a15)) ∧ ((¬ r5 = a14) → (P_L_law_285 X M5 a2 a4 a6 a8 a9 a10 a11 a13 a14 a15)))))))))))) : P_L_law_226 X M a2 a4 a6 a8 a9 a10 a11 a13 a14 a15 s0 := by
  refine lr_istore (pc' := 228) (lv' := [(0, .ref (bX X)), (1, .ref (BX X + 0)), (2, .int a2), (4, .int a4), (5, .int s0), (6, .int a6), (8, .int a8), (9, .int a9), (10, .int a10), (11, .int a11), (13, .int a13), (14, .int a14), (15, .int a15)]) [1, 2, 3, 4, 0, 5, 6, 7, 8, 9, 10, 11, 12] C rfl dL_law_226 (by decide) rfl ?_
  refine lr_iload (pc' := 230) 10 C rfl dL_law_228 rfl ?_
  refine lr_iload (pc' := 232) 9 C rfl dL_law_230 rfl ?_
  refine lr_icmp_ge (tgt := 292) (pc' := 235) C rfl dL_law_232 (by decide) (fun q0 => ?_) (fun q0 => ?_)
  · have h := h.1 q0
    exact lr_sub [0, 1, 2, 3, 4, 5, 6, 7, 8, 9, 10, 11, 12] rfl h
  · have h := h.2 q0
    refine lr_aload_n (pc' := 236) 1 C rfl dL_law_235 rfl rfl ?_
    refine lr_iload (pc' := 238) 6 C rfl dL_law_236 rfl ?_
    refine lr_iload (pc' := 240) 8 C rfl dL_law_238 rfl ?_
    refine lr_iload (pc' := 242) 7 C rfl dL_law_240 rfl ?_
    refine lr_iconst (pc' := 243) C rfl dL_law_242 ci_1 ?_
    refine lr_iload (pc' := 245) 10 C rfl dL_law_243 rfl ?_
    refine lr_iconst (pc' := 246) C rfl dL_law_245 ci_1 ?_
    refine lr_iadd (pc' := 247) C rfl dL_law_246 ?_
    refine lr_callV (As := [.int a8, .int a10, .int a9, .int (nI 1), .int (a13 + (nI 1))]) (rest := []) (c0 := 0) (cT := (RX9, TX9, 14)) (pc' := 250) 5 C rfl dL_law_247 cv_X9_trip ml_L_59 (by decide) rfl rfl (by decide) (Nat.le_of_ble_eq_true rfl) ob_0 rfl rfl (Nat.le_of_ble_eq_true rfl) (Nat.le_of_ble_eq_true rfl) (CA.monoI h ?_)
    intro r1 M1 h
    refine lr_istore (pc' := 252) (lv' := [(0, .ref (bX X)), (1, .ref (BX X + 0)), (2, .int a2), (4, .int a4), (5, .int s0), (6, .int a6), (8, .int a8), (9, .int a9), (10, .int a10), (11, .int a11), (13, .int a13), (14, .int a14), (15, .int a15), (16, .int r1)]) [1, 2, 3, 4, 5, 6, 7, 8, 9, 10, 11, 12, 13, 0] C rfl dL_law_250 (by decide) rfl ?_
    refine lr_iload (pc' := 254) 4 C rfl dL_law_252 rfl ?_
    refine lr_if_eq (tgt := 289) (pc' := 257) C rfl dL_law_254 (by decide) (fun q2 => ?_) (fun q2 => ?_)
    · have h := h.1 q2
      exact lr_sub [0, 1, 2, 3, 5, 6, 7, 8, 9, 10, 11, 12] rfl h
    · have h := h.2 q2
      refine lr_aload_n (pc' := 258) 1 C rfl dL_law_257 rfl rfl ?_
      refine lr_iload (pc' := 260) 12 C rfl dL_law_258 rfl ?_
      refine lr_iload (pc' := 262) 10 C rfl dL_law_260 rfl ?_
      refine lr_callV (As := [.int a15, .int a13]) (rest := []) (c0 := 0) (cT := (RX9, TX9, 14)) (pc' := 265) 2 C rfl dL_law_262 cv_X9_guest ml_L_63 (by decide) rfl rfl (by decide) (Nat.le_of_ble_eq_true rfl) ob_0 rfl rfl (Nat.le_of_ble_eq_true rfl) (Nat.le_of_ble_eq_true rfl) (CA.monoI h ?_)
      intro r3 M3 h
      refine lr_iload (pc' := 267) 13 C rfl dL_law_265 rfl ?_
      refine lr_icmp_ne (tgt := 285) (pc' := 270) C rfl dL_law_267 (by decide) (fun q4 => ?_) (fun q4 => ?_)
      · have h := h.1 q4
        exact lr_sub [0, 1, 2, 3, 5, 6, 7, 8, 9, 10, 11, 12] rfl h
      · have h := h.2 q4
        refine lr_aload_n (pc' := 271) 1 C rfl dL_law_270 rfl rfl ?_
        refine lr_iload (pc' := 273) 12 C rfl dL_law_271 rfl ?_
        refine lr_iload (pc' := 275) 10 C rfl dL_law_273 rfl ?_
        refine lr_iconst (pc' := 276) C rfl dL_law_275 ci_1 ?_
        refine lr_iadd (pc' := 277) C rfl dL_law_276 ?_
        refine lr_callV (As := [.int a15, .int (a13 + (nI 1))]) (rest := []) (c0 := 0) (cT := (RX9, TX9, 14)) (pc' := 280) 2 C rfl dL_law_277 cv_X9_guest ml_L_63 (by decide) rfl rfl (by decide) (Nat.le_of_ble_eq_true rfl) ob_0 rfl rfl (Nat.le_of_ble_eq_true rfl) (Nat.le_of_ble_eq_true rfl) (CA.monoI h ?_)
        intro r5 M5 h
        refine lr_iload (pc' := 282) 11 C rfl dL_law_280 rfl ?_
        refine lr_icmp_eq (tgt := 289) (pc' := 285) C rfl dL_law_282 (by decide) (fun q6 => ?_) (fun q6 => ?_)
        · have h := h.1 q6
          exact lr_sub [0, 1, 2, 3, 5, 6, 7, 8, 9, 10, 11, 12] rfl h
        · have h := h.2 q6
          exact lr_sub [0, 1, 2, 3, 5, 6, 7, 8, 9, 10, 11, 12] rfl h
theorem T_L_law_285 {X : HX} {L : Nat} {xs : Nat → Int32} {M : Mem} {a2 : Int32} {a4 : Int32} {a6 : Int32} {a8 : Int32} {a9 : Int32} {a10 : Int32} {a11 : Int32} {a13 : Int32} {a14 : Int32} {a15 : Int32} {Q : Int32 → Mem → Prop} (C : LC mdL_law 9 600000 7302250 X L xs) (R : RT mdL_law X 186 2099 Q) (h : P_L_law_290 X M a2 a4 a6 a8 a9 a10 a11 a13 a14 a15 (nI 1)) : P_L_law_285 X M a2 a4 a6 a8 a9 a10 a11 a13 a14 a15 := by
  refine lr_iconst (pc' := 286) C rfl dL_law_285 ci_1 ?_
  refine lr_goto (tgt := 290) C dL_law_286 (by decide) ?_
  exact lr_sub [0, 1, 2, 3, 4, 5, 6, 7, 8, 9, 10, 11] rfl h
theorem T_L_law_289 {X : HX} {L : Nat} {xs : Nat → Int32} {M : Mem} {a2 : Int32} {a4 : Int32} {a6 : Int32} {a8 : Int32} {a9 : Int32} {a10 : Int32} {a11 : Int32} {a13 : Int32} {a14 : Int32} {a15 : Int32} {Q : Int32 → Mem → Prop} (C : LC mdL_law 9 600000 7302250 X L xs) (R : RT mdL_law X 186 2099 Q) (h : P_L_law_290 X M a2 a4 a6 a8 a9 a10 a11 a13 a14 a15 (nI 0)) : P_L_law_289 X M a2 a4 a6 a8 a9 a10 a11 a13 a14 a15 := by
  refine lr_iconst (pc' := 290) C rfl dL_law_289 ci_0 ?_
  exact lr_sub [0, 1, 2, 3, 4, 5, 6, 7, 8, 9, 10, 11] rfl h
theorem T_L_law_290 {X : HX} {L : Nat} {xs : Nat → Int32} {M : Mem} {a2 : Int32} {a4 : Int32} {a6 : Int32} {a8 : Int32} {a9 : Int32} {a10 : Int32} {a11 : Int32} {a13 : Int32} {a14 : Int32} {a15 : Int32} {s0 : Int32} {Q : Int32 → Mem → Prop} (C : LC mdL_law 9 600000 7302250 X L xs) (R : RT mdL_law X 186 2099 Q) (h : P_L_law_292 X M a2 a4 s0 a6 a8 a9 a10 a11 a13 a14 a15) : P_L_law_290 X M a2 a4 a6 a8 a9 a10 a11 a13 a14 a15 s0 := by
  refine lr_istore (pc' := 292) (lv' := [(0, .ref (bX X)), (1, .ref (BX X + 0)), (2, .int a2), (4, .int a4), (5, .int s0), (6, .int a6), (8, .int a8), (9, .int a9), (10, .int a10), (11, .int a11), (13, .int a13), (14, .int a14), (15, .int a15)]) [1, 2, 3, 4, 0, 5, 6, 7, 8, 9, 10, 11, 12] C rfl dL_law_290 (by decide) rfl ?_
  exact lr_sub [0, 1, 2, 3, 4, 5, 6, 7, 8, 9, 10, 11, 12] rfl h
theorem T_L_law_292 {X : HX} {L : Nat} {xs : Nat → Int32} {M : Mem} {a2 : Int32} {a4 : Int32} {a5 : Int32} {a6 : Int32} {a8 : Int32} {a9 : Int32} {a10 : Int32} {a11 : Int32} {a13 : Int32} {a14 : Int32} {a15 : Int32} {Q : Int32 → Mem → Prop} (C : LC mdL_law 9 600000 7302250 X L xs) (R : RT mdL_law X 186 2099 Q) (h : P_L_law_196 X M a2 a4 a5 a6 a8 a9 a10 a11 a13 a14 (a15 + (nI 1))) : P_L_law_292 X M a2 a4 a5 a6 a8 a9 a10 a11 a13 a14 a15 := by
  refine lr_iinc (pc' := 295) (lv' := [(0, .ref (bX X)), (1, .ref (BX X + 0)), (2, .int a2), (4, .int a4), (5, .int a5), (6, .int a6), (8, .int a8), (9, .int a9), (10, .int a10), (11, .int a11), (13, .int a13), (14, .int a14), (15, .int (a15 + (nI 1)))]) 12 [1, 2, 3, 4, 5, 6, 7, 8, 9, 10, 11, 12, 0] C rfl dL_law_292 rfl (ii_1 _) (by decide) rfl ?_
  refine lr_goto (tgt := 196) C dL_law_295 (by decide) ?_
  exact lr_sub [0, 1, 2, 3, 4, 5, 6, 7, 8, 9, 10, 11, 12] rfl h
theorem T_L_law_298 {X : HX} {L : Nat} {xs : Nat → Int32} {M : Mem} {a2 : Int32} {a4 : Int32} {a5 : Int32} {a6 : Int32} {a8 : Int32} {a9 : Int32} {a10 : Int32} {a11 : Int32} {a13 : Int32} {Q : Int32 → Mem → Prop} (C : LC mdL_law 9 600000 7302250 X L xs) (R : RT mdL_law X 186 2099 Q) (h : P_L_law_154 X M a2 a4 a5 a6 a8 a9 a10 a11 (a13 + (nI 1))) : P_L_law_298 X M a2 a4 a5 a6 a8 a9 a10 a11 a13 := by
  refine lr_iinc (pc' := 301) (lv' := [(0, .ref (bX X)), (1, .ref (BX X + 0)), (2, .int a2), (4, .int a4), (5, .int a5), (6, .int a6), (8, .int a8), (9, .int a9), (10, .int a10), (11, .int a11), (13, .int (a13 + (nI 1)))]) 10 [1, 2, 3, 4, 5, 6, 7, 8, 9, 10, 0] C rfl dL_law_298 rfl (ii_1 _) (by decide) rfl ?_
  refine lr_goto (tgt := 154) C dL_law_301 (by decide) ?_
  exact lr_sub [0, 1, 2, 3, 4, 5, 6, 7, 8, 9, 10] rfl h
theorem T_L_law_304 {X : HX} {L : Nat} {xs : Nat → Int32} {M : Mem} {a2 : Int32} {a4 : Int32} {a5 : Int32} {a6 : Int32} {Q : Int32 → Mem → Prop} (C : LC mdL_law 9 600000 7302250 X L xs) (R : RT mdL_law X 186 2099 Q) (h : P_L_law_51 X M a2 a4 a5 (a6 + (nI 1))) : P_L_law_304 X M a2 a4 a5 a6 := by
  refine lr_iinc (pc' := 307) (lv' := [(0, .ref (bX X)), (1, .ref (BX X + 0)), (2, .int a2), (4, .int a4), (5, .int a5), (6, .int (a6 + (nI 1)))]) 5 [1, 2, 3, 4, 5, 0] C rfl dL_law_304 rfl (ii_1 _) (by decide) rfl ?_
  refine lr_goto (tgt := 51) C dL_law_307 (by decide) ?_
  exact lr_sub [0, 1, 2, 3, 4, 5] rfl h
theorem T_L_law_310 {X : HX} {L : Nat} {xs : Nat → Int32} {M : Mem} {a2 : Int32} {a5 : Int32} {Q : Int32 → Mem → Prop} (C : LC mdL_law 9 600000 7302250 X L xs) (R : RT mdL_law X 186 2099 Q) (h : ((a5 = 0) → (P_L_law_325 X M a2 a5 (-1))) ∧ ((¬ a5 = 0) → (C_L_hires L xs M a2 (fun r1 M1 => P_L_law_325 X M1 a2 a5 r1)))) : P_L_law_310 X M a2 a5 := by
  refine lr_iload (pc' := 312) 3 C rfl dL_law_310 rfl ?_
  refine lr_if_eq (tgt := 324) (pc' := 315) C rfl dL_law_312 (by decide) (fun q0 => ?_) (fun q0 => ?_)
  · have h := h.1 q0
    refine lr_iconst (pc' := 325) C rfl dL_law_324 ci_m1 ?_
    exact lr_sub [0, 1, 2, 3] rfl h
  · have h := h.2 q0
    refine lr_aload_n (pc' := 316) 1 C rfl dL_law_315 rfl rfl ?_
    refine lr_aload_n (pc' := 317) 0 C rfl dL_law_316 rfl rfl ?_
    refine lr_iload_n (pc' := 318) 2 C rfl dL_law_317 rfl rfl ?_
    refine lr_callS (As := (fun B b => [.ref (B + 0), .ref b, .int a2])) (rest := []) (pc' := 321) 3 C rfl dL_law_318 cs_L_hires ml_L_67 (by decide) (fun _ _ => rfl) rfl (by decide) (Nat.le_of_ble_eq_true rfl) (Nat.le_of_ble_eq_true rfl) (Nat.le_of_ble_eq_true rfl) (HLc.mono h ?_)
    intro r1 M1 h
    refine lr_goto (tgt := 325) C dL_law_321 (by decide) ?_
    exact lr_sub [0, 1, 2, 3] rfl h
theorem T_L_law_325 {X : HX} {L : Nat} {xs : Nat → Int32} {M : Mem} {a2 : Int32} {a5 : Int32} {s0 : Int32} {Q : Int32 → Mem → Prop} (C : LC mdL_law 9 600000 7302250 X L xs) (R : RT mdL_law X 186 2099 Q) (h : ((a5 = 0) → (P_L_law_341 X M a2 s0)) ∧ ((¬ a5 = 0) → (((s0 ≤ 0) → (P_L_law_341 X M a2 s0)) ∧ ((¬ s0 ≤ 0) → (P_L_law_342 X M a2 s0 (nI 1)))))) : P_L_law_325 X M a2 a5 s0 := by
  refine lr_istore (pc' := 327) (lv' := [(0, .ref (bX X)), (1, .ref (BX X + 0)), (2, .int a2), (5, .int a5), (6, .int s0)]) [1, 2, 3, 4, 0] C rfl dL_law_325 (by decide) rfl ?_
  refine lr_iload (pc' := 329) 3 C rfl dL_law_327 rfl ?_
  refine lr_if_eq (tgt := 341) (pc' := 332) C rfl dL_law_329 (by decide) (fun q0 => ?_) (fun q0 => ?_)
  · have h := h.1 q0
    exact lr_sub [0, 1, 2, 4] rfl h
  · have h := h.2 q0
    refine lr_iload (pc' := 334) 4 C rfl dL_law_332 rfl ?_
    refine lr_if_le (tgt := 341) (pc' := 337) C rfl dL_law_334 (by decide) (fun q1 => ?_) (fun q1 => ?_)
    · have h := h.1 q1
      exact lr_sub [0, 1, 2, 4] rfl h
    · have h := h.2 q1
      refine lr_iconst (pc' := 338) C rfl dL_law_337 ci_1 ?_
      refine lr_goto (tgt := 342) C dL_law_338 (by decide) ?_
      exact lr_sub [0, 1, 2, 4] rfl h
theorem T_L_law_341 {X : HX} {L : Nat} {xs : Nat → Int32} {M : Mem} {a2 : Int32} {a6 : Int32} {Q : Int32 → Mem → Prop} (C : LC mdL_law 9 600000 7302250 X L xs) (R : RT mdL_law X 186 2099 Q) (h : P_L_law_342 X M a2 a6 (nI 0)) : P_L_law_341 X M a2 a6 := by
  refine lr_iconst (pc' := 342) C rfl dL_law_341 ci_0 ?_
  exact lr_sub [0, 1, 2, 3] rfl h
theorem T_L_law_342 {X : HX} {L : Nat} {xs : Nat → Int32} {M : Mem} {a2 : Int32} {a6 : Int32} {s0 : Int32} {Q : Int32 → Mem → Prop} (C : LC mdL_law 9 600000 7302250 X L xs) (R : RT mdL_law X 186 2099 Q) (h : C_X9_cost M (nI 0) (fun r0 M0 => C_X9_count M0 (nI 3) (fun r1 M1 => P_L_law_361 X M1 a2 s0 a6 r0 r1 (nI 0)))) : P_L_law_342 X M a2 a6 s0 := by
  refine lr_istore (pc' := 344) (lv' := [(0, .ref (bX X)), (1, .ref (BX X + 0)), (2, .int a2), (5, .int s0), (6, .int a6)]) [1, 2, 3, 0, 4] C rfl dL_law_342 (by decide) rfl ?_
  refine lr_aload_n (pc' := 345) 1 C rfl dL_law_344 rfl rfl ?_
  refine lr_iconst (pc' := 346) C rfl dL_law_345 ci_0 ?_
  refine lr_callV (As := [.int (nI 0)]) (rest := []) (c0 := 0) (cT := (RX9, TX9, 14)) (pc' := 349) 1 C rfl dL_law_346 cv_X9_cost ml_L_71 (by decide) rfl rfl (by decide) (Nat.le_of_ble_eq_true rfl) ob_0 rfl rfl (Nat.le_of_ble_eq_true rfl) (Nat.le_of_ble_eq_true rfl) (CA.monoI h ?_)
  intro r0 M0 h
  refine lr_istore (pc' := 351) (lv' := [(0, .ref (bX X)), (1, .ref (BX X + 0)), (2, .int a2), (5, .int s0), (6, .int a6), (7, .int r0)]) [1, 2, 3, 4, 5, 0] C rfl dL_law_349 (by decide) rfl ?_
  refine lr_aload_n (pc' := 352) 1 C rfl dL_law_351 rfl rfl ?_
  refine lr_iconst (pc' := 353) C rfl dL_law_352 ci_3 ?_
  refine lr_callV (As := [.int (nI 3)]) (rest := []) (c0 := 0) (cT := (RX9, TX9, 14)) (pc' := 356) 1 C rfl dL_law_353 cv_X9_count ml_L_74 (by decide) rfl rfl (by decide) (Nat.le_of_ble_eq_true rfl) ob_0 rfl rfl (Nat.le_of_ble_eq_true rfl) (Nat.le_of_ble_eq_true rfl) (CA.monoI h ?_)
  intro r1 M1 h
  refine lr_istore (pc' := 358) (lv' := [(0, .ref (bX X)), (1, .ref (BX X + 0)), (2, .int a2), (5, .int s0), (6, .int a6), (7, .int r0), (8, .int r1)]) [1, 2, 3, 4, 5, 6, 0] C rfl dL_law_356 (by decide) rfl ?_
  refine lr_iconst (pc' := 359) C rfl dL_law_358 ci_0 ?_
  refine lr_istore (pc' := 361) (lv' := [(0, .ref (bX X)), (1, .ref (BX X + 0)), (2, .int a2), (5, .int s0), (6, .int a6), (7, .int r0), (8, .int r1), (9, .int (nI 0))]) [1, 2, 3, 4, 5, 6, 7, 0] C rfl dL_law_359 (by decide) rfl ?_
  exact lr_sub [0, 1, 2, 3, 4, 5, 6, 7] rfl h
theorem T_L_law_361 {X : HX} {L : Nat} {xs : Nat → Int32} {M : Mem} {a2 : Int32} {a5 : Int32} {a6 : Int32} {a7 : Int32} {a8 : Int32} {a9 : Int32} {Q : Int32 → Mem → Prop} (C : LC mdL_law 9 600000 7302250 X L xs) (R : RT mdL_law X 186 2099 Q) (h : ((a8 ≤ a9) → (P_L_law_423 X M a2 a5 a6 a7)) ∧ ((¬ a8 ≤ a9) → (((a5 = 0) → (P_L_law_423 X M a2 a5 a6 a7)) ∧ ((¬ a5 = 0) → (((a8 ≤ (nI 1)) → (P_L_law_423 X M a2 a5 a6 a7)) ∧ ((¬ a8 ≤ (nI 1)) → (C_X9_ill M a9 (nI 1) (fun r3 M3 => ((¬ r3 = 0) → (P_L_law_414 X M3 a2 a6 a7 a8 a9)) ∧ ((r3 = 0) → (C_X9_cost M3 (nI 0) (fun r5 M5 => ((r5 < a7) → (P_L_law_414 X M5 a2 a6 a7 a8 a9)) ∧ ((¬ r5 < a7) → (C_X9_ill M5 a9 (nI 0) (fun r7 M7 => ((¬ r7 = (nI 1)) → (P_L_law_414 X M7 a2 a6 a7 a8 a9)) ∧ ((r7 = (nI 1)) → (P_L_law_415 X M7 a2 a6 a7 a8 a9 (nI 1))))))))))))))))) : P_L_law_361 X M a2 a5 a6 a7 a8 a9 := by
  refine lr_iload (pc' := 363) 7 C rfl dL_law_361 rfl ?_
  refine lr_iload (pc' := 365) 6 C rfl dL_law_363 rfl ?_
  refine lr_icmp_ge (tgt := 423) (pc' := 368) C rfl dL_law_365 (by decide) (fun q0 => ?_) (fun q0 => ?_)
  · have h := h.1 q0
    exact lr_sub [0, 1, 2, 3, 4, 5] rfl h
  · have h := h.2 q0
    refine lr_iload (pc' := 370) 3 C rfl dL_law_368 rfl ?_
    refine lr_if_eq (tgt := 423) (pc' := 373) C rfl dL_law_370 (by decide) (fun q1 => ?_) (fun q1 => ?_)
    · have h := h.1 q1
      exact lr_sub [0, 1, 2, 3, 4, 5] rfl h
    · have h := h.2 q1
      refine lr_iload (pc' := 375) 6 C rfl dL_law_373 rfl ?_
      refine lr_iconst (pc' := 376) C rfl dL_law_375 ci_1 ?_
      refine lr_icmp_le (tgt := 423) (pc' := 379) C rfl dL_law_376 (by decide) (fun q2 => ?_) (fun q2 => ?_)
      · have h := h.1 q2
        exact lr_sub [0, 1, 2, 3, 4, 5] rfl h
      · have h := h.2 q2
        refine lr_aload_n (pc' := 380) 1 C rfl dL_law_379 rfl rfl ?_
        refine lr_iload (pc' := 382) 7 C rfl dL_law_380 rfl ?_
        refine lr_iconst (pc' := 383) C rfl dL_law_382 ci_1 ?_
        refine lr_callV (As := [.int a9, .int (nI 1)]) (rest := []) (c0 := 0) (cT := (RX9, TX9, 14)) (pc' := 386) 2 C rfl dL_law_383 cv_X9_ill ml_L_77 (by decide) rfl rfl (by decide) (Nat.le_of_ble_eq_true rfl) ob_0 rfl rfl (Nat.le_of_ble_eq_true rfl) (Nat.le_of_ble_eq_true rfl) (CA.monoI h ?_)
        intro r3 M3 h
        refine lr_if_ne (tgt := 414) (pc' := 389) C rfl dL_law_386 (by decide) (fun q4 => ?_) (fun q4 => ?_)
        · have h := h.1 q4
          exact lr_sub [0, 1, 2, 4, 5, 6, 7] rfl h
        · have h := h.2 q4
          refine lr_aload_n (pc' := 390) 1 C rfl dL_law_389 rfl rfl ?_
          refine lr_iconst (pc' := 391) C rfl dL_law_390 ci_0 ?_
          refine lr_callV (As := [.int (nI 0)]) (rest := []) (c0 := 0) (cT := (RX9, TX9, 14)) (pc' := 394) 1 C rfl dL_law_391 cv_X9_cost ml_L_71 (by decide) rfl rfl (by decide) (Nat.le_of_ble_eq_true rfl) ob_0 rfl rfl (Nat.le_of_ble_eq_true rfl) (Nat.le_of_ble_eq_true rfl) (CA.monoI h ?_)
          intro r5 M5 h
          refine lr_iload (pc' := 396) 5 C rfl dL_law_394 rfl ?_
          refine lr_icmp_lt (tgt := 414) (pc' := 399) C rfl dL_law_396 (by decide) (fun q6 => ?_) (fun q6 => ?_)
          · have h := h.1 q6
            exact lr_sub [0, 1, 2, 4, 5, 6, 7] rfl h
          · have h := h.2 q6
            refine lr_aload_n (pc' := 400) 1 C rfl dL_law_399 rfl rfl ?_
            refine lr_iload (pc' := 402) 7 C rfl dL_law_400 rfl ?_
            refine lr_iconst (pc' := 403) C rfl dL_law_402 ci_0 ?_
            refine lr_callV (As := [.int a9, .int (nI 0)]) (rest := []) (c0 := 0) (cT := (RX9, TX9, 14)) (pc' := 406) 2 C rfl dL_law_403 cv_X9_ill ml_L_77 (by decide) rfl rfl (by decide) (Nat.le_of_ble_eq_true rfl) ob_0 rfl rfl (Nat.le_of_ble_eq_true rfl) (Nat.le_of_ble_eq_true rfl) (CA.monoI h ?_)
            intro r7 M7 h
            refine lr_iconst (pc' := 407) C rfl dL_law_406 ci_1 ?_
            refine lr_icmp_ne (tgt := 414) (pc' := 410) C rfl dL_law_407 (by decide) (fun q8 => ?_) (fun q8 => ?_)
            · have h := h.1 q8
              exact lr_sub [0, 1, 2, 4, 5, 6, 7] rfl h
            · have h := h.2 q8
              refine lr_iconst (pc' := 411) C rfl dL_law_410 ci_1 ?_
              refine lr_goto (tgt := 415) C dL_law_411 (by decide) ?_
              exact lr_sub [0, 1, 2, 4, 5, 6, 7] rfl h
theorem T_L_law_414 {X : HX} {L : Nat} {xs : Nat → Int32} {M : Mem} {a2 : Int32} {a6 : Int32} {a7 : Int32} {a8 : Int32} {a9 : Int32} {Q : Int32 → Mem → Prop} (C : LC mdL_law 9 600000 7302250 X L xs) (R : RT mdL_law X 186 2099 Q) (h : P_L_law_415 X M a2 a6 a7 a8 a9 (nI 0)) : P_L_law_414 X M a2 a6 a7 a8 a9 := by
  refine lr_iconst (pc' := 415) C rfl dL_law_414 ci_0 ?_
  exact lr_sub [0, 1, 2, 3, 4, 5, 6] rfl h
theorem T_L_law_415 {X : HX} {L : Nat} {xs : Nat → Int32} {M : Mem} {a2 : Int32} {a6 : Int32} {a7 : Int32} {a8 : Int32} {a9 : Int32} {s0 : Int32} {Q : Int32 → Mem → Prop} (C : LC mdL_law 9 600000 7302250 X L xs) (R : RT mdL_law X 186 2099 Q) (h : P_L_law_361 X M a2 s0 a6 a7 a8 (a9 + (nI 1))) : P_L_law_415 X M a2 a6 a7 a8 a9 s0 := by
  refine lr_istore (pc' := 417) (lv' := [(0, .ref (bX X)), (1, .ref (BX X + 0)), (2, .int a2), (5, .int s0), (6, .int a6), (7, .int a7), (8, .int a8), (9, .int a9)]) [1, 2, 3, 0, 4, 5, 6, 7] C rfl dL_law_415 (by decide) rfl ?_
  refine lr_iinc (pc' := 420) (lv' := [(0, .ref (bX X)), (1, .ref (BX X + 0)), (2, .int a2), (5, .int s0), (6, .int a6), (7, .int a7), (8, .int a8), (9, .int (a9 + (nI 1)))]) 7 [1, 2, 3, 4, 5, 6, 7, 0] C rfl dL_law_417 rfl (ii_1 _) (by decide) rfl ?_
  refine lr_goto (tgt := 361) C dL_law_420 (by decide) ?_
  exact lr_sub [0, 1, 2, 3, 4, 5, 6, 7] rfl h
theorem T_L_law_423 {X : HX} {L : Nat} {xs : Nat → Int32} {M : Mem} {a2 : Int32} {a5 : Int32} {a6 : Int32} {a7 : Int32} {Q : Int32 → Mem → Prop} (C : LC mdL_law 9 600000 7302250 X L xs) (R : RT mdL_law X 186 2099 Q) (h : ((a5 = 0) → (P_L_law_440 X M a2 a6 a7)) ∧ ((¬ a5 = 0) → (C_X9_image M (fun r1 M1 => ((¬ r1 = (nI 1)) → (P_L_law_440 X M1 a2 a6 a7)) ∧ ((r1 = (nI 1)) → (P_L_law_441 X M1 a2 a6 a7 (nI 1))))))) : P_L_law_423 X M a2 a5 a6 a7 := by
  refine lr_iload (pc' := 425) 3 C rfl dL_law_423 rfl ?_
  refine lr_if_eq (tgt := 440) (pc' := 428) C rfl dL_law_425 (by decide) (fun q0 => ?_) (fun q0 => ?_)
  · have h := h.1 q0
    exact lr_sub [0, 1, 2, 4, 5] rfl h
  · have h := h.2 q0
    refine lr_aload_n (pc' := 429) 1 C rfl dL_law_428 rfl rfl ?_
    refine lr_callV (As := []) (rest := []) (c0 := 0) (cT := (RX9, TX9, 14)) (pc' := 432) 0 C rfl dL_law_429 cv_X9_image ml_L_81 (by decide) rfl rfl (by decide) (Nat.le_of_ble_eq_true rfl) ob_0 rfl rfl (Nat.le_of_ble_eq_true rfl) (Nat.le_of_ble_eq_true rfl) (CA.monoI h ?_)
    intro r1 M1 h
    refine lr_iconst (pc' := 433) C rfl dL_law_432 ci_1 ?_
    refine lr_icmp_ne (tgt := 440) (pc' := 436) C rfl dL_law_433 (by decide) (fun q2 => ?_) (fun q2 => ?_)
    · have h := h.1 q2
      exact lr_sub [0, 1, 2, 4, 5] rfl h
    · have h := h.2 q2
      refine lr_iconst (pc' := 437) C rfl dL_law_436 ci_1 ?_
      refine lr_goto (tgt := 441) C dL_law_437 (by decide) ?_
      exact lr_sub [0, 1, 2, 4, 5] rfl h
theorem T_L_law_440 {X : HX} {L : Nat} {xs : Nat → Int32} {M : Mem} {a2 : Int32} {a6 : Int32} {a7 : Int32} {Q : Int32 → Mem → Prop} (C : LC mdL_law 9 600000 7302250 X L xs) (R : RT mdL_law X 186 2099 Q) (h : P_L_law_441 X M a2 a6 a7 (nI 0)) : P_L_law_440 X M a2 a6 a7 := by
  refine lr_iconst (pc' := 441) C rfl dL_law_440 ci_0 ?_
  exact lr_sub [0, 1, 2, 3, 4] rfl h
theorem T_L_law_441 {X : HX} {L : Nat} {xs : Nat → Int32} {M : Mem} {a2 : Int32} {a6 : Int32} {a7 : Int32} {s0 : Int32} {Q : Int32 → Mem → Prop} (C : LC mdL_law 9 600000 7302250 X L xs) (R : RT mdL_law X 186 2099 Q) (h : P_L_law_446 X M a2 s0 a6 a7 (nI 0)) : P_L_law_441 X M a2 a6 a7 s0 := by
  refine lr_istore (pc' := 443) (lv' := [(0, .ref (bX X)), (1, .ref (BX X + 0)), (2, .int a2), (5, .int s0), (6, .int a6), (7, .int a7)]) [1, 2, 3, 0, 4, 5] C rfl dL_law_441 (by decide) rfl ?_
  refine lr_iconst (pc' := 444) C rfl dL_law_443 ci_0 ?_
  refine lr_istore (pc' := 446) (lv' := [(0, .ref (bX X)), (1, .ref (BX X + 0)), (2, .int a2), (5, .int s0), (6, .int a6), (7, .int a7), (9, .int (nI 0))]) [1, 2, 3, 4, 5, 6, 0] C rfl dL_law_444 (by decide) rfl ?_
  exact lr_sub [0, 1, 2, 3, 4, 5, 6] rfl h
theorem T_L_law_446 {X : HX} {L : Nat} {xs : Nat → Int32} {M : Mem} {a2 : Int32} {a5 : Int32} {a6 : Int32} {a7 : Int32} {a9 : Int32} {Q : Int32 → Mem → Prop} (C : LC mdL_law 9 600000 7302250 X L xs) (R : RT mdL_law X 186 2099 Q) (h : ((a6 ≤ a9) → (P_L_law_516 X M a2 a5)) ∧ ((¬ a6 ≤ a9) → (((a5 = 0) → (P_L_law_516 X M a2 a5)) ∧ ((¬ a5 = 0) → (((a6 ≤ (nI 1)) → (P_L_law_516 X M a2 a5)) ∧ ((¬ a6 ≤ (nI 1)) → (C_X9_drop M a9 (fun r3 M3 => ((¬ r3 = (a6 - (nI 1))) → (P_L_law_507 X M3 a2 a6 a7 a9)) ∧ ((r3 = (a6 - (nI 1))) → (C_X9_cost M3 (nI 0) (fun r5 M5 => ((r5 < 0) → (P_L_law_507 X M5 a2 a6 a7 a9)) ∧ ((¬ r5 < 0) → (C_X9_restore M5 (fun r7 M7 => ((¬ r7 = (nI 1)) → (P_L_law_507 X M7 a2 a6 a7 a9)) ∧ ((r7 = (nI 1)) → (C_X9_cost M7 (nI 0) (fun r9 M9 => ((¬ r9 = a7) → (P_L_law_507 X M9 a2 a6 a7 a9)) ∧ ((r9 = a7) → (P_L_law_508 X M9 a2 a6 a7 a9 (nI 1)))))))))))))))))))) : P_L_law_446 X M a2 a5 a6 a7 a9 := by
  refine lr_iload (pc' := 448) 6 C rfl dL_law_446 rfl ?_
  refine lr_iload (pc' := 450) 4 C rfl dL_law_448 rfl ?_
  refine lr_icmp_ge (tgt := 516) (pc' := 453) C rfl dL_law_450 (by decide) (fun q0 => ?_) (fun q0 => ?_)
  · have h := h.1 q0
    exact lr_sub [0, 1, 2, 3] rfl h
  · have h := h.2 q0
    refine lr_iload (pc' := 455) 3 C rfl dL_law_453 rfl ?_
    refine lr_if_eq (tgt := 516) (pc' := 458) C rfl dL_law_455 (by decide) (fun q1 => ?_) (fun q1 => ?_)
    · have h := h.1 q1
      exact lr_sub [0, 1, 2, 3] rfl h
    · have h := h.2 q1
      refine lr_iload (pc' := 460) 4 C rfl dL_law_458 rfl ?_
      refine lr_iconst (pc' := 461) C rfl dL_law_460 ci_1 ?_
      refine lr_icmp_le (tgt := 516) (pc' := 464) C rfl dL_law_461 (by decide) (fun q2 => ?_) (fun q2 => ?_)
      · have h := h.1 q2
        exact lr_sub [0, 1, 2, 3] rfl h
      · have h := h.2 q2
        refine lr_aload_n (pc' := 465) 1 C rfl dL_law_464 rfl rfl ?_
        refine lr_iload (pc' := 467) 6 C rfl dL_law_465 rfl ?_
        refine lr_callV (As := [.int a9]) (rest := []) (c0 := 0) (cT := (RX9, TX9, 14)) (pc' := 470) 1 C rfl dL_law_467 cv_X9_drop ml_L_84 (by decide) rfl rfl (by decide) (Nat.le_of_ble_eq_true rfl) ob_0 rfl rfl (Nat.le_of_ble_eq_true rfl) (Nat.le_of_ble_eq_true rfl) (CA.monoI h ?_)
        intro r3 M3 h
        refine lr_iload (pc' := 472) 4 C rfl dL_law_470 rfl ?_
        refine lr_iconst (pc' := 473) C rfl dL_law_472 ci_1 ?_
        refine lr_isub (pc' := 474) C rfl dL_law_473 ?_
        refine lr_icmp_ne (tgt := 507) (pc' := 477) C rfl dL_law_474 (by decide) (fun q4 => ?_) (fun q4 => ?_)
        · have h := h.1 q4
          exact lr_sub [0, 1, 2, 4, 5, 6] rfl h
        · have h := h.2 q4
          refine lr_aload_n (pc' := 478) 1 C rfl dL_law_477 rfl rfl ?_
          refine lr_iconst (pc' := 479) C rfl dL_law_478 ci_0 ?_
          refine lr_callV (As := [.int (nI 0)]) (rest := []) (c0 := 0) (cT := (RX9, TX9, 14)) (pc' := 482) 1 C rfl dL_law_479 cv_X9_cost ml_L_71 (by decide) rfl rfl (by decide) (Nat.le_of_ble_eq_true rfl) ob_0 rfl rfl (Nat.le_of_ble_eq_true rfl) (Nat.le_of_ble_eq_true rfl) (CA.monoI h ?_)
          intro r5 M5 h
          refine lr_if_lt (tgt := 507) (pc' := 485) C rfl dL_law_482 (by decide) (fun q6 => ?_) (fun q6 => ?_)
          · have h := h.1 q6
            exact lr_sub [0, 1, 2, 4, 5, 6] rfl h
          · have h := h.2 q6
            refine lr_aload_n (pc' := 486) 1 C rfl dL_law_485 rfl rfl ?_
            refine lr_callV (As := []) (rest := []) (c0 := 0) (cT := (RX9, TX9, 14)) (pc' := 489) 0 C rfl dL_law_486 cv_X9_restore ml_L_87 (by decide) rfl rfl (by decide) (Nat.le_of_ble_eq_true rfl) ob_0 rfl rfl (Nat.le_of_ble_eq_true rfl) (Nat.le_of_ble_eq_true rfl) (CA.monoI h ?_)
            intro r7 M7 h
            refine lr_iconst (pc' := 490) C rfl dL_law_489 ci_1 ?_
            refine lr_icmp_ne (tgt := 507) (pc' := 493) C rfl dL_law_490 (by decide) (fun q8 => ?_) (fun q8 => ?_)
            · have h := h.1 q8
              exact lr_sub [0, 1, 2, 4, 5, 6] rfl h
            · have h := h.2 q8
              refine lr_aload_n (pc' := 494) 1 C rfl dL_law_493 rfl rfl ?_
              refine lr_iconst (pc' := 495) C rfl dL_law_494 ci_0 ?_
              refine lr_callV (As := [.int (nI 0)]) (rest := []) (c0 := 0) (cT := (RX9, TX9, 14)) (pc' := 498) 1 C rfl dL_law_495 cv_X9_cost ml_L_71 (by decide) rfl rfl (by decide) (Nat.le_of_ble_eq_true rfl) ob_0 rfl rfl (Nat.le_of_ble_eq_true rfl) (Nat.le_of_ble_eq_true rfl) (CA.monoI h ?_)
              intro r9 M9 h
              refine lr_iload (pc' := 500) 5 C rfl dL_law_498 rfl ?_
              refine lr_icmp_ne (tgt := 507) (pc' := 503) C rfl dL_law_500 (by decide) (fun q10 => ?_) (fun q10 => ?_)
              · have h := h.1 q10
                exact lr_sub [0, 1, 2, 4, 5, 6] rfl h
              · have h := h.2 q10
                refine lr_iconst (pc' := 504) C rfl dL_law_503 ci_1 ?_
                refine lr_goto (tgt := 508) C dL_law_504 (by decide) ?_
                exact lr_sub [0, 1, 2, 4, 5, 6] rfl h
theorem T_L_law_507 {X : HX} {L : Nat} {xs : Nat → Int32} {M : Mem} {a2 : Int32} {a6 : Int32} {a7 : Int32} {a9 : Int32} {Q : Int32 → Mem → Prop} (C : LC mdL_law 9 600000 7302250 X L xs) (R : RT mdL_law X 186 2099 Q) (h : P_L_law_508 X M a2 a6 a7 a9 (nI 0)) : P_L_law_507 X M a2 a6 a7 a9 := by
  refine lr_iconst (pc' := 508) C rfl dL_law_507 ci_0 ?_
  exact lr_sub [0, 1, 2, 3, 4, 5] rfl h
theorem T_L_law_508 {X : HX} {L : Nat} {xs : Nat → Int32} {M : Mem} {a2 : Int32} {a6 : Int32} {a7 : Int32} {a9 : Int32} {s0 : Int32} {Q : Int32 → Mem → Prop} (C : LC mdL_law 9 600000 7302250 X L xs) (R : RT mdL_law X 186 2099 Q) (h : P_L_law_446 X M a2 s0 a6 a7 (a9 + (nI 1))) : P_L_law_508 X M a2 a6 a7 a9 s0 := by
  refine lr_istore (pc' := 510) (lv' := [(0, .ref (bX X)), (1, .ref (BX X + 0)), (2, .int a2), (5, .int s0), (6, .int a6), (7, .int a7), (9, .int a9)]) [1, 2, 3, 0, 4, 5, 6] C rfl dL_law_508 (by decide) rfl ?_
  refine lr_iinc (pc' := 513) (lv' := [(0, .ref (bX X)), (1, .ref (BX X + 0)), (2, .int a2), (5, .int s0), (6, .int a6), (7, .int a7), (9, .int (a9 + (nI 1)))]) 6 [1, 2, 3, 4, 5, 6, 0] C rfl dL_law_510 rfl (ii_1 _) (by decide) rfl ?_
  refine lr_goto (tgt := 446) C dL_law_513 (by decide) ?_
  exact lr_sub [0, 1, 2, 3, 4, 5, 6] rfl h
theorem T_L_law_516 {X : HX} {L : Nat} {xs : Nat → Int32} {M : Mem} {a2 : Int32} {a5 : Int32} {Q : Int32 → Mem → Prop} (C : LC mdL_law 9 600000 7302250 X L xs) (R : RT mdL_law X 186 2099 Q) (h : (gx M = 1 ∧ ∀ j, M 183 j = nI 0) ∧ ((gx (wr M 999 0 (nI 2)) = 2 ∧ ∀ j, (wr M 999 0 (nI 2)) 184 j = nI 0) ∧ ((gx (wr (wr M 999 0 (nI 2)) 999 0 (nI 3)) = 3 ∧ ∀ j, (wr (wr M 999 0 (nI 2)) 999 0 (nI 3)) 185 j = nI 0) ∧ (P_L_law_547 X (wr (wr (wr M 999 0 (nI 2)) 999 0 (nI 3)) 999 0 (nI 4)) a2 a5 ((nI 2) + (remI (clI L xs (nI 15)) (nI 3))) (nI 0))))) : P_L_law_516 X M a2 a5 := by
  refine lr_iconst (pc' := 517) C rfl dL_law_516 ci_2 ?_
  refine lr_aload_n (pc' := 518) 0 C rfl dL_law_517 rfl rfl ?_
  refine lr_bipush (pc' := 520) C rfl dL_law_518 cb_15 ?_
  refine lr_callS (As := (fun B b => [.ref b, .int (nI 15)])) (rest := [.int (nI 2)]) (pc' := 523) 2 C rfl dL_law_520 cs_L_cell ml_L_9 (by decide) (fun _ _ => rfl) rfl (by decide) (Nat.le_of_ble_eq_true rfl) (Nat.le_of_ble_eq_true rfl) (Nat.le_of_ble_eq_true rfl) (u_cell (LC_L C) (by decide) ?_)
  refine lr_iconst (pc' := 524) C rfl dL_law_523 ci_3 ?_
  refine lr_irem (pc' := 525) C rfl dL_law_524 (by decide) ?_
  refine lr_iadd (pc' := 526) C rfl dL_law_525 ?_
  refine lr_istore (pc' := 528) (lv' := [(0, .ref (bX X)), (1, .ref (BX X + 0)), (2, .int a2), (5, .int a5), (9, .int ((nI 2) + (remI (clI L xs (nI 15)) (nI 3))))]) [1, 2, 3, 4, 0] C rfl dL_law_526 (by decide) rfl ?_
  refine lr_bipush (pc' := 530) C rfl dL_law_528 cb_24 ?_
  obtain ⟨g1, h⟩ := h
  refine lr_newa (n := 1) (N := 24) (pc' := 532) (nc' := 184) (ns' := 2089) C rfl rfl rfl g1.1 rfl g1.2 (by omega) (by omega) (Nat.le_of_ble_eq_true rfl) (Nat.le_of_ble_eq_true rfl) dL_law_530 aw_c ?_
  refine lr_astore (pc' := 534) (lv' := [(0, .ref (bX X)), (1, .ref (BX X + 0)), (2, .int a2), (5, .int a5), (9, .int ((nI 2) + (remI (clI L xs (nI 15)) (nI 3)))), (10, .ref (BX X + 183))]) [1, 2, 3, 4, 5, 0] C rfl dL_law_532 (by decide) rfl ?_
  refine lr_iconst (pc' := 535) C rfl dL_law_534 ci_5 ?_
  obtain ⟨g2, h⟩ := h
  refine lr_newa (n := 2) (N := 5) (pc' := 537) (nc' := 185) (ns' := 2094) C rfl rfl rfl g2.1 rfl g2.2 (by omega) (by omega) (Nat.le_of_ble_eq_true rfl) (Nat.le_of_ble_eq_true rfl) dL_law_535 aw_c ?_
  refine lr_astore (pc' := 539) (lv' := [(0, .ref (bX X)), (1, .ref (BX X + 0)), (2, .int a2), (5, .int a5), (9, .int ((nI 2) + (remI (clI L xs (nI 15)) (nI 3)))), (10, .ref (BX X + 183)), (11, .ref (BX X + 184))]) [1, 2, 3, 4, 5, 6, 0] C rfl dL_law_537 (by decide) rfl ?_
  refine lr_iconst (pc' := 540) C rfl dL_law_539 ci_5 ?_
  obtain ⟨g3, h⟩ := h
  refine lr_newa (n := 3) (N := 5) (pc' := 542) (nc' := 186) (ns' := 2099) C rfl rfl rfl g3.1 rfl g3.2 (by omega) (by omega) (Nat.le_of_ble_eq_true rfl) (Nat.le_of_ble_eq_true rfl) dL_law_540 aw_c ?_
  refine lr_astore (pc' := 544) (lv' := [(0, .ref (bX X)), (1, .ref (BX X + 0)), (2, .int a2), (5, .int a5), (9, .int ((nI 2) + (remI (clI L xs (nI 15)) (nI 3)))), (10, .ref (BX X + 183)), (11, .ref (BX X + 184)), (12, .ref (BX X + 185))]) [1, 2, 3, 4, 5, 6, 7, 0] C rfl dL_law_542 (by decide) rfl ?_
  refine lr_iconst (pc' := 545) C rfl dL_law_544 ci_0 ?_
  refine lr_istore (pc' := 547) (lv' := [(0, .ref (bX X)), (1, .ref (BX X + 0)), (2, .int a2), (5, .int a5), (9, .int ((nI 2) + (remI (clI L xs (nI 15)) (nI 3)))), (10, .ref (BX X + 183)), (11, .ref (BX X + 184)), (12, .ref (BX X + 185)), (13, .int (nI 0))]) [1, 2, 3, 4, 5, 6, 7, 8, 0] C rfl dL_law_545 (by decide) rfl ?_
  exact lr_sub [0, 1, 2, 3, 4, 5, 6, 7, 8] rfl h
theorem T_L_law_547 {X : HX} {L : Nat} {xs : Nat → Int32} {M : Mem} {a2 : Int32} {a5 : Int32} {a9 : Int32} {a13 : Int32} {Q : Int32 → Mem → Prop} (C : LC mdL_law 9 600000 7302250 X L xs) (R : RT mdL_law X 186 2099 Q) (h : ((a9 ≤ a13) → (P_L_law_610 X M a2 a5 a9)) ∧ ((¬ a9 ≤ a13) → (((a5 = 0) → (P_L_law_610 X M a2 a5 a9)) ∧ ((¬ a5 = 0) → (C_X9_folk M (nI 1) (fun r2 M2 => ((¬ r2 = a13) → (P_L_law_574 X M2 a2 a9 a13 (nI 0))) ∧ ((r2 = a13) → (P_L_law_574 X M2 a2 a9 a13 (nI 1))))))))) : P_L_law_547 X M a2 a5 a9 a13 := by
  refine lr_iload (pc' := 549) 8 C rfl dL_law_547 rfl ?_
  refine lr_iload (pc' := 551) 4 C rfl dL_law_549 rfl ?_
  refine lr_icmp_ge (tgt := 610) (pc' := 554) C rfl dL_law_551 (by decide) (fun q0 => ?_) (fun q0 => ?_)
  · have h := h.1 q0
    exact lr_sub [0, 1, 2, 3, 4, 5, 6, 7] rfl h
  · have h := h.2 q0
    refine lr_iload (pc' := 556) 3 C rfl dL_law_554 rfl ?_
    refine lr_if_eq (tgt := 610) (pc' := 559) C rfl dL_law_556 (by decide) (fun q1 => ?_) (fun q1 => ?_)
    · have h := h.1 q1
      exact lr_sub [0, 1, 2, 3, 4, 5, 6, 7] rfl h
    · have h := h.2 q1
      refine lr_aload_n (pc' := 560) 1 C rfl dL_law_559 rfl rfl ?_
      refine lr_iconst (pc' := 561) C rfl dL_law_560 ci_1 ?_
      refine lr_callV (As := [.int (nI 1)]) (rest := []) (c0 := 0) (cT := (RX9, TX9, 14)) (pc' := 564) 1 C rfl dL_law_561 cv_X9_folk ml_L_90 (by decide) rfl rfl (by decide) (Nat.le_of_ble_eq_true rfl) ob_0 rfl rfl (Nat.le_of_ble_eq_true rfl) (Nat.le_of_ble_eq_true rfl) (CA.monoI h ?_)
      intro r2 M2 h
      refine lr_iload (pc' := 566) 8 C rfl dL_law_564 rfl ?_
      refine lr_icmp_ne (tgt := 573) (pc' := 569) C rfl dL_law_566 (by decide) (fun q3 => ?_) (fun q3 => ?_)
      · have h := h.1 q3
        refine lr_iconst (pc' := 574) C rfl dL_law_573 ci_0 ?_
        exact lr_sub [0, 1, 2, 4, 5, 6, 7, 8] rfl h
      · have h := h.2 q3
        refine lr_iconst (pc' := 570) C rfl dL_law_569 ci_1 ?_
        refine lr_goto (tgt := 574) C dL_law_570 (by decide) ?_
        exact lr_sub [0, 1, 2, 4, 5, 6, 7, 8] rfl h
theorem T_L_law_574 {X : HX} {L : Nat} {xs : Nat → Int32} {M : Mem} {a2 : Int32} {a9 : Int32} {a13 : Int32} {s0 : Int32} {Q : Int32 → Mem → Prop} (C : LC mdL_law 9 600000 7302250 X L xs) (R : RT mdL_law X 186 2099 Q) (h : ¬ a2 = 0 ∧ ((184 < 182 + gx M ∧ vp_in a13 5) ∧ ((184 < 182 + gx (wr M 184 (ix a13) (remI ((clI L xs (nI 16)) >>> (((nI 4) * a13) &&& 31)) a2)) ∧ vp_in a13 5) ∧ ((185 < 182 + gx (wr M 184 (ix a13) (remI ((clI L xs (nI 16)) >>> (((nI 4) * a13) &&& 31)) a2)) ∧ vp_in a13 5) ∧ (P_L_law_547 X (wr (wr M 184 (ix a13) (remI ((clI L xs (nI 16)) >>> (((nI 4) * a13) &&& 31)) a2)) 185 (ix a13) ((wr M 184 (ix a13) (remI ((clI L xs (nI 16)) >>> (((nI 4) * a13) &&& 31)) a2)) 184 (ix a13))) a2 s0 a9 (a13 + (nI 1))))))) : P_L_law_574 X M a2 a9 a13 s0 := by
  refine lr_istore (pc' := 576) (lv' := [(0, .ref (bX X)), (1, .ref (BX X + 0)), (2, .int a2), (5, .int s0), (9, .int a9), (10, .ref (BX X + 183)), (11, .ref (BX X + 184)), (12, .ref (BX X + 185)), (13, .int a13)]) [1, 2, 3, 0, 4, 5, 6, 7, 8] C rfl dL_law_574 (by decide) rfl ?_
  refine lr_aload (pc' := 578) 6 C rfl dL_law_576 rfl ?_
  refine lr_iload (pc' := 580) 8 C rfl dL_law_578 rfl ?_
  refine lr_aload_n (pc' := 581) 0 C rfl dL_law_580 rfl rfl ?_
  refine lr_bipush (pc' := 583) C rfl dL_law_581 cb_16 ?_
  refine lr_callS (As := (fun B b => [.ref b, .int (nI 16)])) (rest := [.int a13, .ref (BX X + 184)]) (pc' := 586) 2 C rfl dL_law_583 cs_L_cell ml_L_9 (by decide) (fun _ _ => rfl) rfl (by decide) (Nat.le_of_ble_eq_true rfl) (Nat.le_of_ble_eq_true rfl) (Nat.le_of_ble_eq_true rfl) (u_cell (LC_L C) (by decide) ?_)
  refine lr_iconst (pc' := 587) C rfl dL_law_586 ci_4 ?_
  refine lr_iload (pc' := 589) 8 C rfl dL_law_587 rfl ?_
  refine lr_imul (pc' := 590) C rfl dL_law_589 ?_
  refine lr_ishr (pc' := 591) C rfl dL_law_590 ?_
  refine lr_iload_n (pc' := 592) 2 C rfl dL_law_591 rfl rfl ?_
  obtain ⟨z1, h⟩ := h
  refine lr_irem (pc' := 593) C rfl dL_law_592 z1 ?_
  obtain ⟨b2, h⟩ := h
  refine lr_iast (n := 5) (pc' := 594) C rfl dL_law_593 b2.1 (by omega) rfl b2.2 ?_
  refine lr_aload (pc' := 596) 7 C rfl dL_law_594 rfl ?_
  refine lr_iload (pc' := 598) 8 C rfl dL_law_596 rfl ?_
  refine lr_aload (pc' := 600) 6 C rfl dL_law_598 rfl ?_
  refine lr_iload (pc' := 602) 8 C rfl dL_law_600 rfl ?_
  obtain ⟨b3, h⟩ := h
  refine lr_iald (n := 5) (pc' := 603) C rfl dL_law_602 b3.1 rfl b3.2 rfl ?_
  obtain ⟨b4, h⟩ := h
  refine lr_iast (n := 5) (pc' := 604) C rfl dL_law_603 b4.1 (by omega) rfl b4.2 ?_
  refine lr_iinc (pc' := 607) (lv' := [(0, .ref (bX X)), (1, .ref (BX X + 0)), (2, .int a2), (5, .int s0), (9, .int a9), (10, .ref (BX X + 183)), (11, .ref (BX X + 184)), (12, .ref (BX X + 185)), (13, .int (a13 + (nI 1)))]) 8 [1, 2, 3, 4, 5, 6, 7, 8, 0] C rfl dL_law_604 rfl (ii_1 _) (by decide) rfl ?_
  refine lr_goto (tgt := 547) C dL_law_607 (by decide) ?_
  exact lr_sub [0, 1, 2, 3, 4, 5, 6, 7, 8] rfl h
theorem T_L_law_610 {X : HX} {L : Nat} {xs : Nat → Int32} {M : Mem} {a2 : Int32} {a5 : Int32} {a9 : Int32} {Q : Int32 → Mem → Prop} (C : LC mdL_law 9 600000 7302250 X L xs) (R : RT mdL_law X 186 2099 Q) (h : ¬ a2 = 0 ∧ (P_L_law_626 X M a2 a5 a9 (remI (clI L xs (nI 17)) a2) (nI 0) (nI 0))) : P_L_law_610 X M a2 a5 a9 := by
  refine lr_aload_n (pc' := 611) 0 C rfl dL_law_610 rfl rfl ?_
  refine lr_bipush (pc' := 613) C rfl dL_law_611 cb_17 ?_
  refine lr_callS (As := (fun B b => [.ref b, .int (nI 17)])) (rest := []) (pc' := 616) 2 C rfl dL_law_613 cs_L_cell ml_L_9 (by decide) (fun _ _ => rfl) rfl (by decide) (Nat.le_of_ble_eq_true rfl) (Nat.le_of_ble_eq_true rfl) (Nat.le_of_ble_eq_true rfl) (u_cell (LC_L C) (by decide) ?_)
  refine lr_iload_n (pc' := 617) 2 C rfl dL_law_616 rfl rfl ?_
  obtain ⟨z1, h⟩ := h
  refine lr_irem (pc' := 618) C rfl dL_law_617 z1 ?_
  refine lr_istore (pc' := 620) (lv' := [(0, .ref (bX X)), (1, .ref (BX X + 0)), (2, .int a2), (5, .int a5), (9, .int a9), (10, .ref (BX X + 183)), (11, .ref (BX X + 184)), (12, .ref (BX X + 185)), (13, .int (remI (clI L xs (nI 17)) a2))]) [1, 2, 3, 4, 5, 6, 7, 8, 0] C rfl dL_law_618 (by decide) rfl ?_
  refine lr_iconst (pc' := 621) C rfl dL_law_620 ci_0 ?_
  refine lr_istore (pc' := 623) (lv' := [(0, .ref (bX X)), (1, .ref (BX X + 0)), (2, .int a2), (5, .int a5), (9, .int a9), (10, .ref (BX X + 183)), (11, .ref (BX X + 184)), (12, .ref (BX X + 185)), (13, .int (remI (clI L xs (nI 17)) a2)), (14, .int (nI 0))]) [1, 2, 3, 4, 5, 6, 7, 8, 9, 0] C rfl dL_law_621 (by decide) rfl ?_
  refine lr_iconst (pc' := 624) C rfl dL_law_623 ci_0 ?_
  refine lr_istore (pc' := 626) (lv' := [(0, .ref (bX X)), (1, .ref (BX X + 0)), (2, .int a2), (5, .int a5), (9, .int a9), (10, .ref (BX X + 183)), (11, .ref (BX X + 184)), (12, .ref (BX X + 185)), (13, .int (remI (clI L xs (nI 17)) a2)), (14, .int (nI 0)), (15, .int (nI 0))]) [1, 2, 3, 4, 5, 6, 7, 8, 9, 10, 0] C rfl dL_law_624 (by decide) rfl ?_
  exact lr_sub [0, 1, 2, 3, 4, 5, 6, 7, 8, 9, 10] rfl h
theorem T_L_law_626 {X : HX} {L : Nat} {xs : Nat → Int32} {M : Mem} {a2 : Int32} {a5 : Int32} {a9 : Int32} {a13 : Int32} {a14 : Int32} {a15 : Int32} {Q : Int32 → Mem → Prop} (C : LC mdL_law 9 600000 7302250 X L xs) (R : RT mdL_law X 186 2099 Q) (h : (((nI 24) ≤ a15) → (P_L_law_862 X M a5 a9 a13 a14)) ∧ ((¬ (nI 24) ≤ a15) → (((a5 = 0) → (P_L_law_862 X M a5 a9 a13 a14)) ∧ ((¬ a5 = 0) → (P_L_law_644 X M a2 a5 a9 a13 a14 a15 (nI 0) (nI 0)))))) : P_L_law_626 X M a2 a5 a9 a13 a14 a15 := by
  refine lr_iload (pc' := 628) 10 C rfl dL_law_626 rfl ?_
  refine lr_bipush (pc' := 630) C rfl dL_law_628 cb_24 ?_
  refine lr_icmp_ge (tgt := 862) (pc' := 633) C rfl dL_law_630 (by decide) (fun q0 => ?_) (fun q0 => ?_)
  · have h := h.1 q0
    exact lr_sub [1, 3, 4, 5, 7, 8, 9] rfl h
  · have h := h.2 q0
    refine lr_iload (pc' := 635) 3 C rfl dL_law_633 rfl ?_
    refine lr_if_eq (tgt := 862) (pc' := 638) C rfl dL_law_635 (by decide) (fun q1 => ?_) (fun q1 => ?_)
    · have h := h.1 q1
      exact lr_sub [1, 3, 4, 5, 7, 8, 9] rfl h
    · have h := h.2 q1
      refine lr_iconst (pc' := 639) C rfl dL_law_638 ci_0 ?_
      refine lr_istore (pc' := 641) (lv' := [(0, .ref (bX X)), (1, .ref (BX X + 0)), (2, .int a2), (5, .int a5), (9, .int a9), (10, .ref (BX X + 183)), (11, .ref (BX X + 184)), (12, .ref (BX X + 185)), (13, .int a13), (14, .int a14), (15, .int a15), (16, .int (nI 0))]) [1, 2, 3, 4, 5, 6, 7, 8, 9, 10, 11, 0] C rfl dL_law_639 (by decide) rfl ?_
      refine lr_iconst (pc' := 642) C rfl dL_law_641 ci_0 ?_
      refine lr_istore (pc' := 644) (lv' := [(0, .ref (bX X)), (1, .ref (BX X + 0)), (2, .int a2), (5, .int a5), (9, .int a9), (10, .ref (BX X + 183)), (11, .ref (BX X + 184)), (12, .ref (BX X + 185)), (13, .int a13), (14, .int a14), (15, .int a15), (16, .int (nI 0)), (17, .int (nI 0))]) [1, 2, 3, 4, 5, 6, 7, 8, 9, 10, 11, 12, 0] C rfl dL_law_642 (by decide) rfl ?_
      exact lr_sub [0, 1, 2, 3, 4, 5, 6, 7, 8, 9, 10, 11, 12] rfl h
theorem T_L_law_644 {X : HX} {L : Nat} {xs : Nat → Int32} {M : Mem} {a2 : Int32} {a5 : Int32} {a9 : Int32} {a13 : Int32} {a14 : Int32} {a15 : Int32} {a16 : Int32} {a17 : Int32} {Q : Int32 → Mem → Prop} (C : LC mdL_law 9 600000 7302250 X L xs) (R : RT mdL_law X 186 2099 Q) (h : ((a9 ≤ a17) → ((183 < 182 + gx M ∧ vp_in a15 24) ∧ (P_L_law_760 X (wr M 183 (ix a15) a16) a2 a5 a9 a13 a14 a15 (nI 0)))) ∧ ((¬ a9 ≤ a17) → (¬ ((nI 18) + a17) < 0 ∧ (((a15 ≤ 0) → (P_L_law_715 X M a2 a5 a9 a13 a14 a15 a16 a17 a17)) ∧ ((¬ a15 ≤ 0) → (((¬ (((clI L xs ((nI 18) + a17)) >>> (a15 &&& 31)) &&& (nI 1)) = (nI 1)) → (P_L_law_715 X M a2 a5 a9 a13 a14 a15 a16 a17 a17)) ∧ (((((clI L xs ((nI 18) + a17)) >>> (a15 &&& 31)) &&& (nI 1)) = (nI 1)) → (((¬ (((clI L xs ((nI 18) + a17)) >>> (a15 &&& 31)) &&& (nI 2)) = 0) → ((184 < 182 + gx M ∧ vp_in a17 5) ∧ (¬ a2 = 0 ∧ (P_L_law_720 X M a2 a5 a9 a13 a14 a15 a16 a17 a17 (remI (((M 184 (ix a17)) + a2) - (nI 1)) a2))))) ∧ (((((clI L xs ((nI 18) + a17)) >>> (a15 &&& 31)) &&& (nI 2)) = 0) → ((184 < 182 + gx M ∧ vp_in a17 5) ∧ (¬ a2 = 0 ∧ (P_L_law_720 X M a2 a5 a9 a13 a14 a15 a16 a17 a17 (remI ((M 184 (ix a17)) + (nI 1)) a2))))))))))))) : P_L_law_644 X M a2 a5 a9 a13 a14 a15 a16 a17 := by
  refine lr_iload (pc' := 646) 12 C rfl dL_law_644 rfl ?_
  refine lr_iload (pc' := 648) 4 C rfl dL_law_646 rfl ?_
  refine lr_icmp_ge (tgt := 750) (pc' := 651) C rfl dL_law_648 (by decide) (fun q0 => ?_) (fun q0 => ?_)
  · have h := h.1 q0
    refine lr_aload (pc' := 752) 5 C rfl dL_law_750 rfl ?_
    refine lr_iload (pc' := 754) 10 C rfl dL_law_752 rfl ?_
    refine lr_iload (pc' := 756) 11 C rfl dL_law_754 rfl ?_
    obtain ⟨b1, h⟩ := h
    refine lr_iast (n := 24) (pc' := 757) C rfl dL_law_756 b1.1 (by omega) rfl b1.2 ?_
    refine lr_iconst (pc' := 758) C rfl dL_law_757 ci_0 ?_
    refine lr_istore (pc' := 760) (lv' := [(0, .ref (bX X)), (1, .ref (BX X + 0)), (2, .int a2), (5, .int a5), (9, .int a9), (10, .ref (BX X + 183)), (11, .ref (BX X + 184)), (12, .ref (BX X + 185)), (13, .int a13), (14, .int a14), (15, .int a15), (16, .int a16), (17, .int (nI 0))]) [1, 2, 3, 4, 5, 6, 7, 8, 9, 10, 11, 12, 0] C rfl dL_law_758 (by decide) rfl ?_
    exact lr_sub [0, 1, 2, 3, 4, 5, 6, 7, 8, 9, 10, 12] rfl h
  · have h := h.2 q0
    refine lr_aload_n (pc' := 652) 0 C rfl dL_law_651 rfl rfl ?_
    refine lr_bipush (pc' := 654) C rfl dL_law_652 cb_18 ?_
    refine lr_iload (pc' := 656) 12 C rfl dL_law_654 rfl ?_
    refine lr_iadd (pc' := 657) C rfl dL_law_656 ?_
    obtain ⟨b1, h⟩ := h
    refine lr_callS (As := (fun B b => [.ref b, .int ((nI 18) + a17)])) (rest := []) (pc' := 660) 2 C rfl dL_law_657 cs_L_cell ml_L_9 (by decide) (fun _ _ => rfl) rfl (by decide) (Nat.le_of_ble_eq_true rfl) (Nat.le_of_ble_eq_true rfl) (Nat.le_of_ble_eq_true rfl) (u_cell (LC_L C) b1 ?_)
    refine lr_iload (pc' := 662) 10 C rfl dL_law_660 rfl ?_
    refine lr_ishr (pc' := 663) C rfl dL_law_662 ?_
    refine lr_istore (pc' := 665) (lv' := [(0, .ref (bX X)), (1, .ref (BX X + 0)), (2, .int a2), (5, .int a5), (9, .int a9), (10, .ref (BX X + 183)), (11, .ref (BX X + 184)), (12, .ref (BX X + 185)), (13, .int a13), (14, .int a14), (15, .int a15), (16, .int a16), (17, .int a17), (18, .int ((clI L xs ((nI 18) + a17)) >>> (a15 &&& 31)))]) [1, 2, 3, 4, 5, 6, 7, 8, 9, 10, 11, 12, 13, 0] C rfl dL_law_663 (by decide) rfl ?_
    refine lr_aload (pc' := 667) 6 C rfl dL_law_665 rfl ?_
    refine lr_iload (pc' := 669) 12 C rfl dL_law_667 rfl ?_
    refine lr_iload (pc' := 671) 10 C rfl dL_law_669 rfl ?_
    refine lr_if_le (tgt := 715) (pc' := 674) C rfl dL_law_671 (by decide) (fun q2 => ?_) (fun q2 => ?_)
    · have h := h.1 q2
      exact lr_sub [0, 1, 2, 3, 4, 5, 6, 7, 8, 9, 10, 11, 12] rfl h
    · have h := h.2 q2
      refine lr_iload (pc' := 676) 13 C rfl dL_law_674 rfl ?_
      refine lr_iconst (pc' := 677) C rfl dL_law_676 ci_1 ?_
      refine lr_iand (pc' := 678) C rfl dL_law_677 ?_
      refine lr_iconst (pc' := 679) C rfl dL_law_678 ci_1 ?_
      refine lr_icmp_ne (tgt := 715) (pc' := 682) C rfl dL_law_679 (by decide) (fun q3 => ?_) (fun q3 => ?_)
      · have h := h.1 q3
        exact lr_sub [0, 1, 2, 3, 4, 5, 6, 7, 8, 9, 10, 11, 12] rfl h
      · have h := h.2 q3
        refine lr_iload (pc' := 684) 13 C rfl dL_law_682 rfl ?_
        refine lr_iconst (pc' := 685) C rfl dL_law_684 ci_2 ?_
        refine lr_iand (pc' := 686) C rfl dL_law_685 ?_
        refine lr_if_ne (tgt := 701) (pc' := 689) C rfl dL_law_686 (by decide) (fun q4 => ?_) (fun q4 => ?_)
        · have h := h.1 q4
          refine lr_aload (pc' := 703) 6 C rfl dL_law_701 rfl ?_
          refine lr_iload (pc' := 705) 12 C rfl dL_law_703 rfl ?_
          obtain ⟨b5, h⟩ := h
          refine lr_iald (n := 5) (pc' := 706) C rfl dL_law_705 b5.1 rfl b5.2 rfl ?_
          refine lr_iload_n (pc' := 707) 2 C rfl dL_law_706 rfl rfl ?_
          refine lr_iadd (pc' := 708) C rfl dL_law_707 ?_
          refine lr_iconst (pc' := 709) C rfl dL_law_708 ci_1 ?_
          refine lr_isub (pc' := 710) C rfl dL_law_709 ?_
          refine lr_iload_n (pc' := 711) 2 C rfl dL_law_710 rfl rfl ?_
          obtain ⟨z6, h⟩ := h
          refine lr_irem (pc' := 712) C rfl dL_law_711 z6 ?_
          refine lr_goto (tgt := 720) C dL_law_712 (by decide) ?_
          exact lr_sub [0, 1, 2, 3, 4, 5, 6, 7, 8, 9, 10, 11, 12] rfl h
        · have h := h.2 q4
          refine lr_aload (pc' := 691) 6 C rfl dL_law_689 rfl ?_
          refine lr_iload (pc' := 693) 12 C rfl dL_law_691 rfl ?_
          obtain ⟨b5, h⟩ := h
          refine lr_iald (n := 5) (pc' := 694) C rfl dL_law_693 b5.1 rfl b5.2 rfl ?_
          refine lr_iconst (pc' := 695) C rfl dL_law_694 ci_1 ?_
          refine lr_iadd (pc' := 696) C rfl dL_law_695 ?_
          refine lr_iload_n (pc' := 697) 2 C rfl dL_law_696 rfl rfl ?_
          obtain ⟨z6, h⟩ := h
          refine lr_irem (pc' := 698) C rfl dL_law_697 z6 ?_
          refine lr_goto (tgt := 720) C dL_law_698 (by decide) ?_
          exact lr_sub [0, 1, 2, 3, 4, 5, 6, 7, 8, 9, 10, 11, 12] rfl h
theorem T_L_law_715 {X : HX} {L : Nat} {xs : Nat → Int32} {M : Mem} {a2 : Int32} {a5 : Int32} {a9 : Int32} {a13 : Int32} {a14 : Int32} {a15 : Int32} {a16 : Int32} {a17 : Int32} {s1 : Int32} {Q : Int32 → Mem → Prop} (C : LC mdL_law 9 600000 7302250 X L xs) (R : RT mdL_law X 186 2099 Q) (h : (184 < 182 + gx M ∧ vp_in a17 5) ∧ (P_L_law_720 X M a2 a5 a9 a13 a14 a15 a16 a17 s1 (M 184 (ix a17)))) : P_L_law_715 X M a2 a5 a9 a13 a14 a15 a16 a17 s1 := by
  refine lr_aload (pc' := 717) 6 C rfl dL_law_715 rfl ?_
  refine lr_iload (pc' := 719) 12 C rfl dL_law_717 rfl ?_
  obtain ⟨b0, h⟩ := h
  refine lr_iald (n := 5) (pc' := 720) C rfl dL_law_719 b0.1 rfl b0.2 rfl ?_
  exact lr_sub [0, 1, 2, 3, 4, 5, 6, 7, 8, 9, 10, 11, 12] rfl h
theorem T_L_law_720 {X : HX} {L : Nat} {xs : Nat → Int32} {M : Mem} {a2 : Int32} {a5 : Int32} {a9 : Int32} {a13 : Int32} {a14 : Int32} {a15 : Int32} {a16 : Int32} {a17 : Int32} {s1 : Int32} {s2 : Int32} {Q : Int32 → Mem → Prop} (C : LC mdL_law 9 600000 7302250 X L xs) (R : RT mdL_law X 186 2099 Q) (h : (184 < 182 + gx M ∧ vp_in s1 5) ∧ ((184 < 182 + gx (wr M 184 (ix s1) s2) ∧ vp_in a17 5) ∧ (((¬ ((wr M 184 (ix s1) s2) 184 (ix a17)) = a13) → (P_L_law_741 X (wr M 184 (ix s1) s2) a2 a5 a9 a13 a14 a15 a17 a16 (nI 0))) ∧ ((((wr M 184 (ix s1) s2) 184 (ix a17)) = a13) → (P_L_law_741 X (wr M 184 (ix s1) s2) a2 a5 a9 a13 a14 a15 a17 a16 ((nI 1) <<< (a17 &&& 31))))))) : P_L_law_720 X M a2 a5 a9 a13 a14 a15 a16 a17 s1 s2 := by
  obtain ⟨b0, h⟩ := h
  refine lr_iast (n := 5) (pc' := 721) C rfl dL_law_720 b0.1 (by omega) rfl b0.2 ?_
  refine lr_iload (pc' := 723) 11 C rfl dL_law_721 rfl ?_
  refine lr_aload (pc' := 725) 6 C rfl dL_law_723 rfl ?_
  refine lr_iload (pc' := 727) 12 C rfl dL_law_725 rfl ?_
  obtain ⟨b1, h⟩ := h
  refine lr_iald (n := 5) (pc' := 728) C rfl dL_law_727 b1.1 rfl b1.2 rfl ?_
  refine lr_iload (pc' := 730) 8 C rfl dL_law_728 rfl ?_
  refine lr_icmp_ne (tgt := 740) (pc' := 733) C rfl dL_law_730 (by decide) (fun q2 => ?_) (fun q2 => ?_)
  · have h := h.1 q2
    refine lr_iconst (pc' := 741) C rfl dL_law_740 ci_0 ?_
    exact lr_sub [0, 1, 2, 3, 4, 5, 6, 7, 8, 9, 10, 12] rfl h
  · have h := h.2 q2
    refine lr_iconst (pc' := 734) C rfl dL_law_733 ci_1 ?_
    refine lr_iload (pc' := 736) 12 C rfl dL_law_734 rfl ?_
    refine lr_ishl (pc' := 737) C rfl dL_law_736 ?_
    refine lr_goto (tgt := 741) C dL_law_737 (by decide) ?_
    exact lr_sub [0, 1, 2, 3, 4, 5, 6, 7, 8, 9, 10, 12] rfl h
theorem T_L_law_741 {X : HX} {L : Nat} {xs : Nat → Int32} {M : Mem} {a2 : Int32} {a5 : Int32} {a9 : Int32} {a13 : Int32} {a14 : Int32} {a15 : Int32} {a17 : Int32} {s0 : Int32} {s1 : Int32} {Q : Int32 → Mem → Prop} (C : LC mdL_law 9 600000 7302250 X L xs) (R : RT mdL_law X 186 2099 Q) (h : P_L_law_644 X M a2 a5 a9 a13 a14 a15 (s0 ||| s1) (a17 + (nI 1))) : P_L_law_741 X M a2 a5 a9 a13 a14 a15 a17 s0 s1 := by
  refine lr_ior (pc' := 742) C rfl dL_law_741 ?_
  refine lr_istore (pc' := 744) (lv' := [(0, .ref (bX X)), (1, .ref (BX X + 0)), (2, .int a2), (5, .int a5), (9, .int a9), (10, .ref (BX X + 183)), (11, .ref (BX X + 184)), (12, .ref (BX X + 185)), (13, .int a13), (14, .int a14), (15, .int a15), (16, .int (s0 ||| s1)), (17, .int a17)]) [1, 2, 3, 4, 5, 6, 7, 8, 9, 10, 11, 0, 12] C rfl dL_law_742 (by decide) rfl ?_
  refine lr_iinc (pc' := 747) (lv' := [(0, .ref (bX X)), (1, .ref (BX X + 0)), (2, .int a2), (5, .int a5), (9, .int a9), (10, .ref (BX X + 183)), (11, .ref (BX X + 184)), (12, .ref (BX X + 185)), (13, .int a13), (14, .int a14), (15, .int a15), (16, .int (s0 ||| s1)), (17, .int (a17 + (nI 1)))]) 12 [1, 2, 3, 4, 5, 6, 7, 8, 9, 10, 11, 12, 0] C rfl dL_law_744 rfl (ii_1 _) (by decide) rfl ?_
  refine lr_goto (tgt := 644) C dL_law_747 (by decide) ?_
  exact lr_sub [0, 1, 2, 3, 4, 5, 6, 7, 8, 9, 10, 11, 12] rfl h
theorem T_L_law_760 {X : HX} {L : Nat} {xs : Nat → Int32} {M : Mem} {a2 : Int32} {a5 : Int32} {a9 : Int32} {a13 : Int32} {a14 : Int32} {a15 : Int32} {a17 : Int32} {Q : Int32 → Mem → Prop} (C : LC mdL_law 9 600000 7302250 X L xs) (R : RT mdL_law X 186 2099 Q) (h : ((a9 ≤ a17) → (P_L_law_856 X M a2 a5 a9 a13 a14 a15)) ∧ ((¬ a9 ≤ a17) → (((a5 = 0) → (P_L_law_856 X M a2 a5 a9 a13 a14 a15)) ∧ ((¬ a5 = 0) → (((¬ (remI a15 (nI 5)) = (nI 2)) → (P_L_law_856 X M a2 a5 a9 a13 a14 a15)) ∧ (((remI a15 (nI 5)) = (nI 2)) → (P_L_law_783 X M a2 a5 a9 a13 a14 a15 a17 (nI 0)))))))) : P_L_law_760 X M a2 a5 a9 a13 a14 a15 a17 := by
  refine lr_iload (pc' := 762) 11 C rfl dL_law_760 rfl ?_
  refine lr_iload (pc' := 764) 4 C rfl dL_law_762 rfl ?_
  refine lr_icmp_ge (tgt := 856) (pc' := 767) C rfl dL_law_764 (by decide) (fun q0 => ?_) (fun q0 => ?_)
  · have h := h.1 q0
    exact lr_sub [0, 1, 2, 3, 4, 5, 6, 7, 8, 9, 10] rfl h
  · have h := h.2 q0
    refine lr_iload (pc' := 769) 3 C rfl dL_law_767 rfl ?_
    refine lr_if_eq (tgt := 856) (pc' := 772) C rfl dL_law_769 (by decide) (fun q1 => ?_) (fun q1 => ?_)
    · have h := h.1 q1
      exact lr_sub [0, 1, 2, 3, 4, 5, 6, 7, 8, 9, 10] rfl h
    · have h := h.2 q1
      refine lr_iload (pc' := 774) 10 C rfl dL_law_772 rfl ?_
      refine lr_iconst (pc' := 775) C rfl dL_law_774 ci_5 ?_
      refine lr_irem (pc' := 776) C rfl dL_law_775 (by decide) ?_
      refine lr_iconst (pc' := 777) C rfl dL_law_776 ci_2 ?_
      refine lr_icmp_ne (tgt := 856) (pc' := 780) C rfl dL_law_777 (by decide) (fun q2 => ?_) (fun q2 => ?_)
      · have h := h.1 q2
        exact lr_sub [0, 1, 2, 3, 4, 5, 6, 7, 8, 9, 10] rfl h
      · have h := h.2 q2
        refine lr_iconst (pc' := 781) C rfl dL_law_780 ci_0 ?_
        refine lr_istore (pc' := 783) (lv' := [(0, .ref (bX X)), (1, .ref (BX X + 0)), (2, .int a2), (5, .int a5), (9, .int a9), (10, .ref (BX X + 183)), (11, .ref (BX X + 184)), (12, .ref (BX X + 185)), (13, .int a13), (14, .int a14), (15, .int a15), (17, .int a17), (18, .int (nI 0))]) [1, 2, 3, 4, 5, 6, 7, 8, 9, 10, 11, 12, 0] C rfl dL_law_781 (by decide) rfl ?_
        exact lr_sub [0, 1, 2, 3, 4, 5, 6, 7, 8, 9, 10, 11, 12] rfl h
theorem T_L_law_783 {X : HX} {L : Nat} {xs : Nat → Int32} {M : Mem} {a2 : Int32} {a5 : Int32} {a9 : Int32} {a13 : Int32} {a14 : Int32} {a15 : Int32} {a17 : Int32} {a18 : Int32} {Q : Int32 → Mem → Prop} (C : LC mdL_law 9 600000 7302250 X L xs) (R : RT mdL_law X 186 2099 Q) (h : ((a9 ≤ a18) → (P_L_law_850 X M a2 a5 a9 a13 a14 a15 a17)) ∧ ((¬ a9 ≤ a18) → (((a5 = 0) → (P_L_law_850 X M a2 a5 a9 a13 a14 a15 a17)) ∧ ((¬ a5 = 0) → ((184 < 182 + gx M ∧ vp_in a17 5) ∧ ((184 < 182 + gx M ∧ vp_in a18 5) ∧ (((¬ (M 184 (ix a17)) = (M 184 (ix a18))) → (P_L_law_844 X M a2 a5 a9 a13 a14 a15 a17 a18)) ∧ (((M 184 (ix a17)) = (M 184 (ix a18))) → (C_X9_count M (nI 7) (fun r5 M5 => (((nI 12) ≤ r5) → (P_L_law_844 X M5 a2 a5 a9 a13 a14 a15 a17 a18)) ∧ ((¬ (nI 12) ≤ r5) → ((184 < 182 + gx M5 ∧ vp_in a17 5) ∧ (C_X9_say M5 a17 a18 (M5 184 (ix a17)) a15 (fun r8 M8 => ((r8 < 0) → (P_L_law_842 X M8 a2 a9 a13 a14 a15 a17 a18 (nI 0))) ∧ ((¬ r8 < 0) → (P_L_law_842 X M8 a2 a9 a13 a14 a15 a17 a18 (nI 1))))))))))))))))) : P_L_law_783 X M a2 a5 a9 a13 a14 a15 a17 a18 := by
  refine lr_iload (pc' := 785) 12 C rfl dL_law_783 rfl ?_
  refine lr_iload (pc' := 787) 4 C rfl dL_law_785 rfl ?_
  refine lr_icmp_ge (tgt := 850) (pc' := 790) C rfl dL_law_787 (by decide) (fun q0 => ?_) (fun q0 => ?_)
  · have h := h.1 q0
    exact lr_sub [0, 1, 2, 3, 4, 5, 6, 7, 8, 9, 10, 11] rfl h
  · have h := h.2 q0
    refine lr_iload (pc' := 792) 3 C rfl dL_law_790 rfl ?_
    refine lr_if_eq (tgt := 850) (pc' := 795) C rfl dL_law_792 (by decide) (fun q1 => ?_) (fun q1 => ?_)
    · have h := h.1 q1
      exact lr_sub [0, 1, 2, 3, 4, 5, 6, 7, 8, 9, 10, 11] rfl h
    · have h := h.2 q1
      refine lr_aload (pc' := 797) 6 C rfl dL_law_795 rfl ?_
      refine lr_iload (pc' := 799) 11 C rfl dL_law_797 rfl ?_
      obtain ⟨b2, h⟩ := h
      refine lr_iald (n := 5) (pc' := 800) C rfl dL_law_799 b2.1 rfl b2.2 rfl ?_
      refine lr_aload (pc' := 802) 6 C rfl dL_law_800 rfl ?_
      refine lr_iload (pc' := 804) 12 C rfl dL_law_802 rfl ?_
      obtain ⟨b3, h⟩ := h
      refine lr_iald (n := 5) (pc' := 805) C rfl dL_law_804 b3.1 rfl b3.2 rfl ?_
      refine lr_icmp_ne (tgt := 844) (pc' := 808) C rfl dL_law_805 (by decide) (fun q4 => ?_) (fun q4 => ?_)
      · have h := h.1 q4
        exact lr_sub [0, 1, 2, 3, 4, 5, 6, 7, 8, 9, 10, 11, 12] rfl h
      · have h := h.2 q4
        refine lr_aload_n (pc' := 809) 1 C rfl dL_law_808 rfl rfl ?_
        refine lr_bipush (pc' := 811) C rfl dL_law_809 cb_7 ?_
        refine lr_callV (As := [.int (nI 7)]) (rest := []) (c0 := 0) (cT := (RX9, TX9, 14)) (pc' := 814) 1 C rfl dL_law_811 cv_X9_count ml_L_74 (by decide) rfl rfl (by decide) (Nat.le_of_ble_eq_true rfl) ob_0 rfl rfl (Nat.le_of_ble_eq_true rfl) (Nat.le_of_ble_eq_true rfl) (CA.monoI h ?_)
        intro r5 M5 h
        refine lr_bipush (pc' := 816) C rfl dL_law_814 cb_12 ?_
        refine lr_icmp_ge (tgt := 844) (pc' := 819) C rfl dL_law_816 (by decide) (fun q6 => ?_) (fun q6 => ?_)
        · have h := h.1 q6
          exact lr_sub [0, 1, 2, 3, 4, 5, 6, 7, 8, 9, 10, 11, 12] rfl h
        · have h := h.2 q6
          refine lr_aload_n (pc' := 820) 1 C rfl dL_law_819 rfl rfl ?_
          refine lr_iload (pc' := 822) 11 C rfl dL_law_820 rfl ?_
          refine lr_iload (pc' := 824) 12 C rfl dL_law_822 rfl ?_
          refine lr_aload (pc' := 826) 6 C rfl dL_law_824 rfl ?_
          refine lr_iload (pc' := 828) 11 C rfl dL_law_826 rfl ?_
          obtain ⟨b7, h⟩ := h
          refine lr_iald (n := 5) (pc' := 829) C rfl dL_law_828 b7.1 rfl b7.2 rfl ?_
          refine lr_iload (pc' := 831) 10 C rfl dL_law_829 rfl ?_
          refine lr_callV (As := [.int a17, .int a18, .int (M5 184 (ix a17)), .int a15]) (rest := []) (c0 := 0) (cT := (RX9, TX9, 14)) (pc' := 834) 4 C rfl dL_law_831 cv_X9_say ml_L_93 (by decide) rfl rfl (by decide) (Nat.le_of_ble_eq_true rfl) ob_0 rfl rfl (Nat.le_of_ble_eq_true rfl) (Nat.le_of_ble_eq_true rfl) (CA.monoI h ?_)
          intro r8 M8 h
          refine lr_if_lt (tgt := 841) (pc' := 837) C rfl dL_law_834 (by decide) (fun q9 => ?_) (fun q9 => ?_)
          · have h := h.1 q9
            refine lr_iconst (pc' := 842) C rfl dL_law_841 ci_0 ?_
            exact lr_sub [0, 1, 2, 4, 5, 6, 7, 8, 9, 10, 11, 12] rfl h
          · have h := h.2 q9
            refine lr_iconst (pc' := 838) C rfl dL_law_837 ci_1 ?_
            refine lr_goto (tgt := 842) C dL_law_838 (by decide) ?_
            exact lr_sub [0, 1, 2, 4, 5, 6, 7, 8, 9, 10, 11, 12] rfl h
theorem T_L_law_842 {X : HX} {L : Nat} {xs : Nat → Int32} {M : Mem} {a2 : Int32} {a9 : Int32} {a13 : Int32} {a14 : Int32} {a15 : Int32} {a17 : Int32} {a18 : Int32} {s0 : Int32} {Q : Int32 → Mem → Prop} (C : LC mdL_law 9 600000 7302250 X L xs) (R : RT mdL_law X 186 2099 Q) (h : P_L_law_844 X M a2 s0 a9 a13 a14 a15 a17 a18) : P_L_law_842 X M a2 a9 a13 a14 a15 a17 a18 s0 := by
  refine lr_istore (pc' := 844) (lv' := [(0, .ref (bX X)), (1, .ref (BX X + 0)), (2, .int a2), (5, .int s0), (9, .int a9), (10, .ref (BX X + 183)), (11, .ref (BX X + 184)), (12, .ref (BX X + 185)), (13, .int a13), (14, .int a14), (15, .int a15), (17, .int a17), (18, .int a18)]) [1, 2, 3, 0, 4, 5, 6, 7, 8, 9, 10, 11, 12] C rfl dL_law_842 (by decide) rfl ?_
  exact lr_sub [0, 1, 2, 3, 4, 5, 6, 7, 8, 9, 10, 11, 12] rfl h
theorem T_L_law_844 {X : HX} {L : Nat} {xs : Nat → Int32} {M : Mem} {a2 : Int32} {a5 : Int32} {a9 : Int32} {a13 : Int32} {a14 : Int32} {a15 : Int32} {a17 : Int32} {a18 : Int32} {Q : Int32 → Mem → Prop} (C : LC mdL_law 9 600000 7302250 X L xs) (R : RT mdL_law X 186 2099 Q) (h : P_L_law_783 X M a2 a5 a9 a13 a14 a15 a17 (a18 + (nI 1))) : P_L_law_844 X M a2 a5 a9 a13 a14 a15 a17 a18 := by
  refine lr_iinc (pc' := 847) (lv' := [(0, .ref (bX X)), (1, .ref (BX X + 0)), (2, .int a2), (5, .int a5), (9, .int a9), (10, .ref (BX X + 183)), (11, .ref (BX X + 184)), (12, .ref (BX X + 185)), (13, .int a13), (14, .int a14), (15, .int a15), (17, .int a17), (18, .int (a18 + (nI 1)))]) 12 [1, 2, 3, 4, 5, 6, 7, 8, 9, 10, 11, 12, 0] C rfl dL_law_844 rfl (ii_1 _) (by decide) rfl ?_
  refine lr_goto (tgt := 783) C dL_law_847 (by decide) ?_
  exact lr_sub [0, 1, 2, 3, 4, 5, 6, 7, 8, 9, 10, 11, 12] rfl h
theorem T_L_law_850 {X : HX} {L : Nat} {xs : Nat → Int32} {M : Mem} {a2 : Int32} {a5 : Int32} {a9 : Int32} {a13 : Int32} {a14 : Int32} {a15 : Int32} {a17 : Int32} {Q : Int32 → Mem → Prop} (C : LC mdL_law 9 600000 7302250 X L xs) (R : RT mdL_law X 186 2099 Q) (h : P_L_law_760 X M a2 a5 a9 a13 a14 a15 (a17 + (nI 1))) : P_L_law_850 X M a2 a5 a9 a13 a14 a15 a17 := by
  refine lr_iinc (pc' := 853) (lv' := [(0, .ref (bX X)), (1, .ref (BX X + 0)), (2, .int a2), (5, .int a5), (9, .int a9), (10, .ref (BX X + 183)), (11, .ref (BX X + 184)), (12, .ref (BX X + 185)), (13, .int a13), (14, .int a14), (15, .int a15), (17, .int (a17 + (nI 1)))]) 11 [1, 2, 3, 4, 5, 6, 7, 8, 9, 10, 11, 0] C rfl dL_law_850 rfl (ii_1 _) (by decide) rfl ?_
  refine lr_goto (tgt := 760) C dL_law_853 (by decide) ?_
  exact lr_sub [0, 1, 2, 3, 4, 5, 6, 7, 8, 9, 10, 11] rfl h
theorem T_L_law_856 {X : HX} {L : Nat} {xs : Nat → Int32} {M : Mem} {a2 : Int32} {a5 : Int32} {a9 : Int32} {a13 : Int32} {a14 : Int32} {a15 : Int32} {Q : Int32 → Mem → Prop} (C : LC mdL_law 9 600000 7302250 X L xs) (R : RT mdL_law X 186 2099 Q) (h : P_L_law_626 X M a2 a5 a9 a13 a14 (a15 + (nI 1))) : P_L_law_856 X M a2 a5 a9 a13 a14 a15 := by
  refine lr_iinc (pc' := 859) (lv' := [(0, .ref (bX X)), (1, .ref (BX X + 0)), (2, .int a2), (5, .int a5), (9, .int a9), (10, .ref (BX X + 183)), (11, .ref (BX X + 184)), (12, .ref (BX X + 185)), (13, .int a13), (14, .int a14), (15, .int (a15 + (nI 1)))]) 10 [1, 2, 3, 4, 5, 6, 7, 8, 9, 10, 0] C rfl dL_law_856 rfl (ii_1 _) (by decide) rfl ?_
  refine lr_goto (tgt := 626) C dL_law_859 (by decide) ?_
  exact lr_sub [0, 1, 2, 3, 4, 5, 6, 7, 8, 9, 10] rfl h
theorem T_L_law_862 {X : HX} {L : Nat} {xs : Nat → Int32} {M : Mem} {a5 : Int32} {a9 : Int32} {a13 : Int32} {a14 : Int32} {Q : Int32 → Mem → Prop} (C : LC mdL_law 9 600000 7302250 X L xs) (R : RT mdL_law X 186 2099 Q) (h : ((a5 = 0) → (P_L_law_891 X M a9 a13 a14)) ∧ ((¬ a5 = 0) → (C_X9_liars M (fun r1 M1 => ((¬ r1 = 0) → (P_L_law_891 X M1 a9 a13 a14)) ∧ ((r1 = 0) → (C_X9_theft M1 a13 (nI 0) (nI 23) (fun r3 M3 => ((¬ r3 = (nI 1)) → (P_L_law_891 X M3 a9 a13 a14)) ∧ ((r3 = (nI 1)) → (P_L_law_892 X M3 a9 a13 a14 (nI 1)))))))))) : P_L_law_862 X M a5 a9 a13 a14 := by
  refine lr_iload (pc' := 864) 1 C rfl dL_law_862 rfl ?_
  refine lr_if_eq (tgt := 891) (pc' := 867) C rfl dL_law_864 (by decide) (fun q0 => ?_) (fun q0 => ?_)
  · have h := h.1 q0
    exact lr_sub [0, 2, 3, 4, 5, 6] rfl h
  · have h := h.2 q0
    refine lr_aload_n (pc' := 868) 0 C rfl dL_law_867 rfl rfl ?_
    refine lr_callV (As := []) (rest := []) (c0 := 0) (cT := (RX9, TX9, 14)) (pc' := 871) 0 C rfl dL_law_868 cv_X9_liars ml_L_97 (by decide) rfl rfl (by decide) (Nat.le_of_ble_eq_true rfl) ob_0 rfl rfl (Nat.le_of_ble_eq_true rfl) (Nat.le_of_ble_eq_true rfl) (CA.monoI h ?_)
    intro r1 M1 h
    refine lr_if_ne (tgt := 891) (pc' := 874) C rfl dL_law_871 (by decide) (fun q2 => ?_) (fun q2 => ?_)
    · have h := h.1 q2
      exact lr_sub [0, 2, 3, 4, 5, 6] rfl h
    · have h := h.2 q2
      refine lr_aload_n (pc' := 875) 0 C rfl dL_law_874 rfl rfl ?_
      refine lr_iload (pc' := 877) 5 C rfl dL_law_875 rfl ?_
      refine lr_iconst (pc' := 878) C rfl dL_law_877 ci_0 ?_
      refine lr_bipush (pc' := 880) C rfl dL_law_878 cb_23 ?_
      refine lr_callV (As := [.int a13, .int (nI 0), .int (nI 23)]) (rest := []) (c0 := 0) (cT := (RX9, TX9, 14)) (pc' := 883) 3 C rfl dL_law_880 cv_X9_theft ml_L_100 (by decide) rfl rfl (by decide) (Nat.le_of_ble_eq_true rfl) ob_0 rfl rfl (Nat.le_of_ble_eq_true rfl) (Nat.le_of_ble_eq_true rfl) (CA.monoI h ?_)
      intro r3 M3 h
      refine lr_iconst (pc' := 884) C rfl dL_law_883 ci_1 ?_
      refine lr_icmp_ne (tgt := 891) (pc' := 887) C rfl dL_law_884 (by decide) (fun q4 => ?_) (fun q4 => ?_)
      · have h := h.1 q4
        exact lr_sub [0, 2, 3, 4, 5, 6] rfl h
      · have h := h.2 q4
        refine lr_iconst (pc' := 888) C rfl dL_law_887 ci_1 ?_
        refine lr_goto (tgt := 892) C dL_law_888 (by decide) ?_
        exact lr_sub [0, 2, 3, 4, 5, 6] rfl h
theorem T_L_law_891 {X : HX} {L : Nat} {xs : Nat → Int32} {M : Mem} {a9 : Int32} {a13 : Int32} {a14 : Int32} {Q : Int32 → Mem → Prop} (C : LC mdL_law 9 600000 7302250 X L xs) (R : RT mdL_law X 186 2099 Q) (h : P_L_law_892 X M a9 a13 a14 (nI 0)) : P_L_law_891 X M a9 a13 a14 := by
  refine lr_iconst (pc' := 892) C rfl dL_law_891 ci_0 ?_
  exact lr_sub [0, 1, 2, 3, 4, 5] rfl h
theorem T_L_law_892 {X : HX} {L : Nat} {xs : Nat → Int32} {M : Mem} {a9 : Int32} {a13 : Int32} {a14 : Int32} {s0 : Int32} {Q : Int32 → Mem → Prop} (C : LC mdL_law 9 600000 7302250 X L xs) (R : RT mdL_law X 186 2099 Q) (h : C_X9_suspects M (fun r0 M0 => P_L_law_903 X M0 s0 a9 a13 a14 r0 (nI 0))) : P_L_law_892 X M a9 a13 a14 s0 := by
  refine lr_istore (pc' := 894) (lv' := [(1, .ref (BX X + 0)), (5, .int s0), (9, .int a9), (10, .ref (BX X + 183)), (12, .ref (BX X + 185)), (13, .int a13), (14, .int a14)]) [1, 0, 2, 3, 4, 5, 6] C rfl dL_law_892 (by decide) rfl ?_
  refine lr_aload_n (pc' := 895) 0 C rfl dL_law_894 rfl rfl ?_
  refine lr_callV (As := []) (rest := []) (c0 := 0) (cT := (RX9, TX9, 14)) (pc' := 898) 0 C rfl dL_law_895 cv_X9_suspects ml_L_103 (by decide) rfl rfl (by decide) (Nat.le_of_ble_eq_true rfl) ob_0 rfl rfl (Nat.le_of_ble_eq_true rfl) (Nat.le_of_ble_eq_true rfl) (CA.monoI h ?_)
  intro r0 M0 h
  refine lr_istore (pc' := 900) (lv' := [(1, .ref (BX X + 0)), (5, .int s0), (9, .int a9), (10, .ref (BX X + 183)), (12, .ref (BX X + 185)), (13, .int a13), (14, .int a14), (15, .int r0)]) [1, 2, 3, 4, 5, 6, 7, 0] C rfl dL_law_898 (by decide) rfl ?_
  refine lr_iconst (pc' := 901) C rfl dL_law_900 ci_0 ?_
  refine lr_istore (pc' := 903) (lv' := [(1, .ref (BX X + 0)), (5, .int s0), (9, .int a9), (10, .ref (BX X + 183)), (12, .ref (BX X + 185)), (13, .int a13), (14, .int a14), (15, .int r0), (16, .int (nI 0))]) [1, 2, 3, 4, 5, 6, 7, 8, 0] C rfl dL_law_901 (by decide) rfl ?_
  exact lr_sub [0, 1, 2, 3, 4, 5, 6, 7, 8] rfl h
theorem T_L_law_903 {X : HX} {L : Nat} {xs : Nat → Int32} {M : Mem} {a5 : Int32} {a9 : Int32} {a13 : Int32} {a14 : Int32} {a15 : Int32} {a16 : Int32} {Q : Int32 → Mem → Prop} (C : LC mdL_law 9 600000 7302250 X L xs) (R : RT mdL_law X 186 2099 Q) (h : (((nI 24) ≤ a16) → (P_L_law_1028 X M a5 a9 a14 a15)) ∧ ((¬ (nI 24) ≤ a16) → (((a5 = 0) → (P_L_law_1028 X M a5 a9 a14 a15)) ∧ ((¬ a5 = 0) → (P_L_law_918 X M a5 a9 a13 a14 a15 a16 (nI 0)))))) : P_L_law_903 X M a5 a9 a13 a14 a15 a16 := by
  refine lr_iload (pc' := 905) 8 C rfl dL_law_903 rfl ?_
  refine lr_bipush (pc' := 907) C rfl dL_law_905 cb_24 ?_
  refine lr_icmp_ge (tgt := 1028) (pc' := 910) C rfl dL_law_907 (by decide) (fun q0 => ?_) (fun q0 => ?_)
  · have h := h.1 q0
    exact lr_sub [0, 1, 2, 6, 7] rfl h
  · have h := h.2 q0
    refine lr_iload (pc' := 912) 1 C rfl dL_law_910 rfl ?_
    refine lr_if_eq (tgt := 1028) (pc' := 915) C rfl dL_law_912 (by decide) (fun q1 => ?_) (fun q1 => ?_)
    · have h := h.1 q1
      exact lr_sub [0, 1, 2, 6, 7] rfl h
    · have h := h.2 q1
      refine lr_iconst (pc' := 916) C rfl dL_law_915 ci_0 ?_
      refine lr_istore (pc' := 918) (lv' := [(1, .ref (BX X + 0)), (5, .int a5), (9, .int a9), (10, .ref (BX X + 183)), (12, .ref (BX X + 185)), (13, .int a13), (14, .int a14), (15, .int a15), (16, .int a16), (17, .int (nI 0))]) [1, 2, 3, 4, 5, 6, 7, 8, 9, 0] C rfl dL_law_916 (by decide) rfl ?_
      exact lr_sub [0, 1, 2, 3, 4, 5, 6, 7, 8, 9] rfl h
theorem T_L_law_918 {X : HX} {L : Nat} {xs : Nat → Int32} {M : Mem} {a5 : Int32} {a9 : Int32} {a13 : Int32} {a14 : Int32} {a15 : Int32} {a16 : Int32} {a17 : Int32} {Q : Int32 → Mem → Prop} (C : LC mdL_law 9 600000 7302250 X L xs) (R : RT mdL_law X 186 2099 Q) (h : ((a9 ≤ a17) → (P_L_law_903 X M a5 a9 a13 a14 a15 (a16 + (nI 1)))) ∧ ((¬ a9 ≤ a17) → ((183 < 182 + gx M ∧ vp_in a16 24) ∧ (((¬ (M 183 (ix a16)) = ((nI 1) <<< (a17 &&& 31))) → (P_L_law_947 X M a5 a9 a13 a15 a16 a17 a14 (nI 0))) ∧ (((M 183 (ix a16)) = ((nI 1) <<< (a17 &&& 31))) → (P_L_law_947 X M a5 a9 a13 a15 a16 a17 a14 ((nI 1) <<< (a17 &&& 31)))))))) : P_L_law_918 X M a5 a9 a13 a14 a15 a16 a17 := by
  refine lr_iload (pc' := 920) 9 C rfl dL_law_918 rfl ?_
  refine lr_iload (pc' := 922) 2 C rfl dL_law_920 rfl ?_
  refine lr_icmp_ge (tgt := 1022) (pc' := 925) C rfl dL_law_922 (by decide) (fun q0 => ?_) (fun q0 => ?_)
  · have h := h.1 q0
    refine lr_iinc (pc' := 1025) (lv' := [(1, .ref (BX X + 0)), (5, .int a5), (9, .int a9), (10, .ref (BX X + 183)), (12, .ref (BX X + 185)), (13, .int a13), (14, .int a14), (15, .int a15), (16, .int (a16 + (nI 1))), (17, .int a17)]) 8 [1, 2, 3, 4, 5, 6, 7, 8, 0, 9] C rfl dL_law_1022 rfl (ii_1 _) (by decide) rfl ?_
    refine lr_goto (tgt := 903) C dL_law_1025 (by decide) ?_
    exact lr_sub [0, 1, 2, 3, 4, 5, 6, 7, 8] rfl h
  · have h := h.2 q0
    refine lr_iload (pc' := 927) 6 C rfl dL_law_925 rfl ?_
    refine lr_aload (pc' := 929) 3 C rfl dL_law_927 rfl ?_
    refine lr_iload (pc' := 931) 8 C rfl dL_law_929 rfl ?_
    obtain ⟨b1, h⟩ := h
    refine lr_iald (n := 24) (pc' := 932) C rfl dL_law_931 b1.1 rfl b1.2 rfl ?_
    refine lr_iconst (pc' := 933) C rfl dL_law_932 ci_1 ?_
    refine lr_iload (pc' := 935) 9 C rfl dL_law_933 rfl ?_
    refine lr_ishl (pc' := 936) C rfl dL_law_935 ?_
    refine lr_icmp_ne (tgt := 946) (pc' := 939) C rfl dL_law_936 (by decide) (fun q2 => ?_) (fun q2 => ?_)
    · have h := h.1 q2
      refine lr_iconst (pc' := 947) C rfl dL_law_946 ci_0 ?_
      exact lr_sub [0, 1, 2, 3, 4, 5, 7, 8, 9] rfl h
    · have h := h.2 q2
      refine lr_iconst (pc' := 940) C rfl dL_law_939 ci_1 ?_
      refine lr_iload (pc' := 942) 9 C rfl dL_law_940 rfl ?_
      refine lr_ishl (pc' := 943) C rfl dL_law_942 ?_
      refine lr_goto (tgt := 947) C dL_law_943 (by decide) ?_
      exact lr_sub [0, 1, 2, 3, 4, 5, 7, 8, 9] rfl h
theorem T_L_law_947 {X : HX} {L : Nat} {xs : Nat → Int32} {M : Mem} {a5 : Int32} {a9 : Int32} {a13 : Int32} {a15 : Int32} {a16 : Int32} {a17 : Int32} {s0 : Int32} {s1 : Int32} {Q : Int32 → Mem → Prop} (C : LC mdL_law 9 600000 7302250 X L xs) (R : RT mdL_law X 186 2099 Q) (h : ((a5 = 0) → (P_L_law_1013 X M a9 a13 (s0 ||| s1) a15 a16 a17)) ∧ ((¬ a5 = 0) → ((183 < 182 + gx M ∧ vp_in a16 24) ∧ ((((((M 183 (ix a16)) >>> (a17 &&& 31)) &&& (nI 1)) = 0) → (P_L_law_985 X M a9 a13 (s0 ||| s1) a15 a16 a17)) ∧ ((¬ (((M 183 (ix a16)) >>> (a17 &&& 31)) &&& (nI 1)) = 0) → (C_X9_maybe M a17 a16 (fun r3 M3 => ((¬ ((r3 >>> (a13 &&& 31)) &&& (nI 1)) = (nI 1)) → (P_L_law_1013 X M3 a9 a13 (s0 ||| s1) a15 a16 a17)) ∧ ((((r3 >>> (a13 &&& 31)) &&& (nI 1)) = (nI 1)) → (P_L_law_985 X M3 a9 a13 (s0 ||| s1) a15 a16 a17))))))))) : P_L_law_947 X M a5 a9 a13 a15 a16 a17 s0 s1 := by
  refine lr_ior (pc' := 948) C rfl dL_law_947 ?_
  refine lr_istore (pc' := 950) (lv' := [(1, .ref (BX X + 0)), (5, .int a5), (9, .int a9), (10, .ref (BX X + 183)), (12, .ref (BX X + 185)), (13, .int a13), (14, .int (s0 ||| s1)), (15, .int a15), (16, .int a16), (17, .int a17)]) [1, 2, 3, 4, 5, 6, 0, 7, 8, 9] C rfl dL_law_948 (by decide) rfl ?_
  refine lr_iload (pc' := 952) 1 C rfl dL_law_950 rfl ?_
  refine lr_if_eq (tgt := 1013) (pc' := 955) C rfl dL_law_952 (by decide) (fun q0 => ?_) (fun q0 => ?_)
  · have h := h.1 q0
    exact lr_sub [0, 2, 3, 4, 5, 6, 7, 8, 9] rfl h
  · have h := h.2 q0
    refine lr_aload (pc' := 957) 3 C rfl dL_law_955 rfl ?_
    refine lr_iload (pc' := 959) 8 C rfl dL_law_957 rfl ?_
    obtain ⟨b1, h⟩ := h
    refine lr_iald (n := 24) (pc' := 960) C rfl dL_law_959 b1.1 rfl b1.2 rfl ?_
    refine lr_iload (pc' := 962) 9 C rfl dL_law_960 rfl ?_
    refine lr_ishr (pc' := 963) C rfl dL_law_962 ?_
    refine lr_iconst (pc' := 964) C rfl dL_law_963 ci_1 ?_
    refine lr_iand (pc' := 965) C rfl dL_law_964 ?_
    refine lr_if_eq (tgt := 985) (pc' := 968) C rfl dL_law_965 (by decide) (fun q2 => ?_) (fun q2 => ?_)
    · have h := h.1 q2
      exact lr_sub [0, 2, 3, 4, 5, 6, 7, 8, 9] rfl h
    · have h := h.2 q2
      refine lr_aload_n (pc' := 969) 0 C rfl dL_law_968 rfl rfl ?_
      refine lr_iload (pc' := 971) 9 C rfl dL_law_969 rfl ?_
      refine lr_iload (pc' := 973) 8 C rfl dL_law_971 rfl ?_
      refine lr_callV (As := [.int a17, .int a16]) (rest := []) (c0 := 0) (cT := (RX9, TX9, 14)) (pc' := 976) 2 C rfl dL_law_973 cv_X9_maybe ml_L_106 (by decide) rfl rfl (by decide) (Nat.le_of_ble_eq_true rfl) ob_0 rfl rfl (Nat.le_of_ble_eq_true rfl) (Nat.le_of_ble_eq_true rfl) (CA.monoI h ?_)
      intro r3 M3 h
      refine lr_iload (pc' := 978) 5 C rfl dL_law_976 rfl ?_
      refine lr_ishr (pc' := 979) C rfl dL_law_978 ?_
      refine lr_iconst (pc' := 980) C rfl dL_law_979 ci_1 ?_
      refine lr_iand (pc' := 981) C rfl dL_law_980 ?_
      refine lr_iconst (pc' := 982) C rfl dL_law_981 ci_1 ?_
      refine lr_icmp_ne (tgt := 1013) (pc' := 985) C rfl dL_law_982 (by decide) (fun q4 => ?_) (fun q4 => ?_)
      · have h := h.1 q4
        exact lr_sub [0, 2, 3, 4, 5, 6, 7, 8, 9] rfl h
      · have h := h.2 q4
        exact lr_sub [0, 2, 3, 4, 5, 6, 7, 8, 9] rfl h
theorem T_L_law_985 {X : HX} {L : Nat} {xs : Nat → Int32} {M : Mem} {a9 : Int32} {a13 : Int32} {a14 : Int32} {a15 : Int32} {a16 : Int32} {a17 : Int32} {Q : Int32 → Mem → Prop} (C : LC mdL_law 9 600000 7302250 X L xs) (R : RT mdL_law X 186 2099 Q) (h : ((0 < a16) → (P_L_law_1009 X M a9 a13 a14 a15 a16 a17)) ∧ ((¬ 0 < a16) → (C_X9_maybe M a17 (nI 0) (fun r1 M1 => (185 < 182 + gx M1 ∧ vp_in a17 5) ∧ (((¬ ((r1 >>> ((M1 185 (ix a17)) &&& 31)) &&& (nI 1)) = (nI 1)) → (P_L_law_1013 X M1 a9 a13 a14 a15 a16 a17)) ∧ ((((r1 >>> ((M1 185 (ix a17)) &&& 31)) &&& (nI 1)) = (nI 1)) → (P_L_law_1009 X M1 a9 a13 a14 a15 a16 a17))))))) : P_L_law_985 X M a9 a13 a14 a15 a16 a17 := by
  refine lr_iload (pc' := 987) 7 C rfl dL_law_985 rfl ?_
  refine lr_if_gt (tgt := 1009) (pc' := 990) C rfl dL_law_987 (by decide) (fun q0 => ?_) (fun q0 => ?_)
  · have h := h.1 q0
    exact lr_sub [0, 1, 2, 3, 4, 5, 6, 7, 8] rfl h
  · have h := h.2 q0
    refine lr_aload_n (pc' := 991) 0 C rfl dL_law_990 rfl rfl ?_
    refine lr_iload (pc' := 993) 8 C rfl dL_law_991 rfl ?_
    refine lr_iconst (pc' := 994) C rfl dL_law_993 ci_0 ?_
    refine lr_callV (As := [.int a17, .int (nI 0)]) (rest := []) (c0 := 0) (cT := (RX9, TX9, 14)) (pc' := 997) 2 C rfl dL_law_994 cv_X9_maybe ml_L_106 (by decide) rfl rfl (by decide) (Nat.le_of_ble_eq_true rfl) ob_0 rfl rfl (Nat.le_of_ble_eq_true rfl) (Nat.le_of_ble_eq_true rfl) (CA.monoI h ?_)
    intro r1 M1 h
    refine lr_aload (pc' := 999) 3 C rfl dL_law_997 rfl ?_
    refine lr_iload (pc' := 1001) 8 C rfl dL_law_999 rfl ?_
    obtain ⟨b2, h⟩ := h
    refine lr_iald (n := 5) (pc' := 1002) C rfl dL_law_1001 b2.1 rfl b2.2 rfl ?_
    refine lr_ishr (pc' := 1003) C rfl dL_law_1002 ?_
    refine lr_iconst (pc' := 1004) C rfl dL_law_1003 ci_1 ?_
    refine lr_iand (pc' := 1005) C rfl dL_law_1004 ?_
    refine lr_iconst (pc' := 1006) C rfl dL_law_1005 ci_1 ?_
    refine lr_icmp_ne (tgt := 1013) (pc' := 1009) C rfl dL_law_1006 (by decide) (fun q3 => ?_) (fun q3 => ?_)
    · have h := h.1 q3
      exact lr_sub [0, 1, 2, 3, 4, 5, 6, 7, 8] rfl h
    · have h := h.2 q3
      exact lr_sub [0, 1, 2, 3, 4, 5, 6, 7, 8] rfl h
theorem T_L_law_1009 {X : HX} {L : Nat} {xs : Nat → Int32} {M : Mem} {a9 : Int32} {a13 : Int32} {a14 : Int32} {a15 : Int32} {a16 : Int32} {a17 : Int32} {Q : Int32 → Mem → Prop} (C : LC mdL_law 9 600000 7302250 X L xs) (R : RT mdL_law X 186 2099 Q) (h : P_L_law_1014 X M a9 a13 a14 a15 a16 a17 (nI 1)) : P_L_law_1009 X M a9 a13 a14 a15 a16 a17 := by
  refine lr_iconst (pc' := 1010) C rfl dL_law_1009 ci_1 ?_
  refine lr_goto (tgt := 1014) C dL_law_1010 (by decide) ?_
  exact lr_sub [0, 1, 2, 3, 4, 5, 6, 7, 8] rfl h
theorem T_L_law_1013 {X : HX} {L : Nat} {xs : Nat → Int32} {M : Mem} {a9 : Int32} {a13 : Int32} {a14 : Int32} {a15 : Int32} {a16 : Int32} {a17 : Int32} {Q : Int32 → Mem → Prop} (C : LC mdL_law 9 600000 7302250 X L xs) (R : RT mdL_law X 186 2099 Q) (h : P_L_law_1014 X M a9 a13 a14 a15 a16 a17 (nI 0)) : P_L_law_1013 X M a9 a13 a14 a15 a16 a17 := by
  refine lr_iconst (pc' := 1014) C rfl dL_law_1013 ci_0 ?_
  exact lr_sub [0, 1, 2, 3, 4, 5, 6, 7, 8] rfl h
theorem T_L_law_1014 {X : HX} {L : Nat} {xs : Nat → Int32} {M : Mem} {a9 : Int32} {a13 : Int32} {a14 : Int32} {a15 : Int32} {a16 : Int32} {a17 : Int32} {s0 : Int32} {Q : Int32 → Mem → Prop} (C : LC mdL_law 9 600000 7302250 X L xs) (R : RT mdL_law X 186 2099 Q) (h : P_L_law_918 X M s0 a9 a13 a14 a15 a16 (a17 + (nI 1))) : P_L_law_1014 X M a9 a13 a14 a15 a16 a17 s0 := by
  refine lr_istore (pc' := 1016) (lv' := [(1, .ref (BX X + 0)), (5, .int s0), (9, .int a9), (10, .ref (BX X + 183)), (12, .ref (BX X + 185)), (13, .int a13), (14, .int a14), (15, .int a15), (16, .int a16), (17, .int a17)]) [1, 0, 2, 3, 4, 5, 6, 7, 8, 9] C rfl dL_law_1014 (by decide) rfl ?_
  refine lr_iinc (pc' := 1019) (lv' := [(1, .ref (BX X + 0)), (5, .int s0), (9, .int a9), (10, .ref (BX X + 183)), (12, .ref (BX X + 185)), (13, .int a13), (14, .int a14), (15, .int a15), (16, .int a16), (17, .int (a17 + (nI 1)))]) 9 [1, 2, 3, 4, 5, 6, 7, 8, 9, 0] C rfl dL_law_1016 rfl (ii_1 _) (by decide) rfl ?_
  refine lr_goto (tgt := 918) C dL_law_1019 (by decide) ?_
  exact lr_sub [0, 1, 2, 3, 4, 5, 6, 7, 8, 9] rfl h
theorem T_L_law_1028 {X : HX} {L : Nat} {xs : Nat → Int32} {M : Mem} {a5 : Int32} {a9 : Int32} {a14 : Int32} {a15 : Int32} {Q : Int32 → Mem → Prop} (C : LC mdL_law 9 600000 7302250 X L xs) (R : RT mdL_law X 186 2099 Q) (h : P_L_law_1031 X M a5 a9 a14 a15 (nI 0)) : P_L_law_1028 X M a5 a9 a14 a15 := by
  refine lr_iconst (pc' := 1029) C rfl dL_law_1028 ci_0 ?_
  refine lr_istore (pc' := 1031) (lv' := [(1, .ref (BX X + 0)), (5, .int a5), (9, .int a9), (14, .int a14), (15, .int a15), (16, .int (nI 0))]) [1, 2, 3, 4, 5, 0] C rfl dL_law_1029 (by decide) rfl ?_
  exact lr_sub [0, 1, 2, 3, 4, 5] rfl h
theorem T_L_law_1031 {X : HX} {L : Nat} {xs : Nat → Int32} {M : Mem} {a5 : Int32} {a9 : Int32} {a14 : Int32} {a15 : Int32} {a16 : Int32} {Q : Int32 → Mem → Prop} (C : LC mdL_law 9 600000 7302250 X L xs) (R : RT mdL_law X 186 2099 Q) (h : ((a9 ≤ a16) → (P_L_law_1095 X M a5 a14 a15)) ∧ ((¬ a9 ≤ a16) → (((a5 = 0) → (P_L_law_1095 X M a5 a14 a15)) ∧ ((¬ a5 = 0) → (C_X9_clears M a16 (fun r2 M2 => ((¬ ((a15 >>> (a16 &&& 31)) &&& (nI 1)) = (nI 1)) → (((r2 < 0) → (P_L_law_1087 X M2 a9 a14 a15 a16 (nI 0))) ∧ ((¬ r2 < 0) → (P_L_law_1087 X M2 a9 a14 a15 a16 (nI 1))))) ∧ ((((a15 >>> (a16 &&& 31)) &&& (nI 1)) = (nI 1)) → (((¬ r2 = (-4)) → (P_L_law_1087 X M2 a9 a14 a15 a16 (nI 0))) ∧ ((r2 = (-4)) → (P_L_law_1087 X M2 a9 a14 a15 a16 (nI 1))))))))))) : P_L_law_1031 X M a5 a9 a14 a15 a16 := by
  refine lr_iload (pc' := 1033) 5 C rfl dL_law_1031 rfl ?_
  refine lr_iload (pc' := 1035) 2 C rfl dL_law_1033 rfl ?_
  refine lr_icmp_ge (tgt := 1095) (pc' := 1038) C rfl dL_law_1035 (by decide) (fun q0 => ?_) (fun q0 => ?_)
  · have h := h.1 q0
    exact lr_sub [1, 3, 4] rfl h
  · have h := h.2 q0
    refine lr_iload (pc' := 1040) 1 C rfl dL_law_1038 rfl ?_
    refine lr_if_eq (tgt := 1095) (pc' := 1043) C rfl dL_law_1040 (by decide) (fun q1 => ?_) (fun q1 => ?_)
    · have h := h.1 q1
      exact lr_sub [1, 3, 4] rfl h
    · have h := h.2 q1
      refine lr_aload_n (pc' := 1044) 0 C rfl dL_law_1043 rfl rfl ?_
      refine lr_iload (pc' := 1046) 5 C rfl dL_law_1044 rfl ?_
      refine lr_callV (As := [.int a16]) (rest := []) (c0 := 0) (cT := (RX9, TX9, 14)) (pc' := 1049) 1 C rfl dL_law_1046 cv_X9_clears ml_L_109 (by decide) rfl rfl (by decide) (Nat.le_of_ble_eq_true rfl) ob_0 rfl rfl (Nat.le_of_ble_eq_true rfl) (Nat.le_of_ble_eq_true rfl) (CA.monoI h ?_)
      intro r2 M2 h
      refine lr_istore (pc' := 1051) (lv' := [(1, .ref (BX X + 0)), (5, .int a5), (9, .int a9), (14, .int a14), (15, .int a15), (16, .int a16), (17, .int r2)]) [1, 2, 3, 4, 5, 6, 0] C rfl dL_law_1049 (by decide) rfl ?_
      refine lr_iload (pc' := 1053) 4 C rfl dL_law_1051 rfl ?_
      refine lr_iload (pc' := 1055) 5 C rfl dL_law_1053 rfl ?_
      refine lr_ishr (pc' := 1056) C rfl dL_law_1055 ?_
      refine lr_iconst (pc' := 1057) C rfl dL_law_1056 ci_1 ?_
      refine lr_iand (pc' := 1058) C rfl dL_law_1057 ?_
      refine lr_iconst (pc' := 1059) C rfl dL_law_1058 ci_1 ?_
      refine lr_icmp_ne (tgt := 1077) (pc' := 1062) C rfl dL_law_1059 (by decide) (fun q3 => ?_) (fun q3 => ?_)
      · have h := h.1 q3
        refine lr_iload (pc' := 1079) 6 C rfl dL_law_1077 rfl ?_
        refine lr_if_lt (tgt := 1086) (pc' := 1082) C rfl dL_law_1079 (by decide) (fun q4 => ?_) (fun q4 => ?_)
        · have h := h.1 q4
          refine lr_iconst (pc' := 1087) C rfl dL_law_1086 ci_0 ?_
          exact lr_sub [0, 2, 3, 4, 5] rfl h
        · have h := h.2 q4
          refine lr_iconst (pc' := 1083) C rfl dL_law_1082 ci_1 ?_
          refine lr_goto (tgt := 1087) C dL_law_1083 (by decide) ?_
          exact lr_sub [0, 2, 3, 4, 5] rfl h
      · have h := h.2 q3
        refine lr_iload (pc' := 1064) 6 C rfl dL_law_1062 rfl ?_
        refine lr_bipush (pc' := 1066) C rfl dL_law_1064 cb_m4 ?_
        refine lr_icmp_ne (tgt := 1073) (pc' := 1069) C rfl dL_law_1066 (by decide) (fun q4 => ?_) (fun q4 => ?_)
        · have h := h.1 q4
          refine lr_iconst (pc' := 1074) C rfl dL_law_1073 ci_0 ?_
          refine lr_goto (tgt := 1087) C dL_law_1074 (by decide) ?_
          exact lr_sub [0, 2, 3, 4, 5] rfl h
        · have h := h.2 q4
          refine lr_iconst (pc' := 1070) C rfl dL_law_1069 ci_1 ?_
          refine lr_goto (tgt := 1087) C dL_law_1070 (by decide) ?_
          exact lr_sub [0, 2, 3, 4, 5] rfl h
theorem T_L_law_1087 {X : HX} {L : Nat} {xs : Nat → Int32} {M : Mem} {a9 : Int32} {a14 : Int32} {a15 : Int32} {a16 : Int32} {s0 : Int32} {Q : Int32 → Mem → Prop} (C : LC mdL_law 9 600000 7302250 X L xs) (R : RT mdL_law X 186 2099 Q) (h : P_L_law_1031 X M s0 a9 a14 a15 (a16 + (nI 1))) : P_L_law_1087 X M a9 a14 a15 a16 s0 := by
  refine lr_istore (pc' := 1089) (lv' := [(1, .ref (BX X + 0)), (5, .int s0), (9, .int a9), (14, .int a14), (15, .int a15), (16, .int a16)]) [1, 0, 2, 3, 4, 5] C rfl dL_law_1087 (by decide) rfl ?_
  refine lr_iinc (pc' := 1092) (lv' := [(1, .ref (BX X + 0)), (5, .int s0), (9, .int a9), (14, .int a14), (15, .int a15), (16, .int (a16 + (nI 1)))]) 5 [1, 2, 3, 4, 5, 0] C rfl dL_law_1089 rfl (ii_1 _) (by decide) rfl ?_
  refine lr_goto (tgt := 1031) C dL_law_1092 (by decide) ?_
  exact lr_sub [0, 1, 2, 3, 4, 5] rfl h
theorem T_L_law_1095 {X : HX} {L : Nat} {xs : Nat → Int32} {M : Mem} {a5 : Int32} {a14 : Int32} {a15 : Int32} {Q : Int32 → Mem → Prop} (C : LC mdL_law 9 600000 7302250 X L xs) (R : RT mdL_law X 186 2099 Q) (h : ((a5 = 0) → (P_L_law_1114 X M )) ∧ ((¬ a5 = 0) → (((¬ (a14 &&& (a15 ^^^ (-1))) = 0) → (P_L_law_1114 X M )) ∧ (((a14 &&& (a15 ^^^ (-1))) = 0) → (P_L_law_1115 X M (nI 1)))))) : P_L_law_1095 X M a5 a14 a15 := by
  refine lr_iload (pc' := 1097) 0 C rfl dL_law_1095 rfl ?_
  refine lr_if_eq (tgt := 1114) (pc' := 1100) C rfl dL_law_1097 (by decide) (fun q0 => ?_) (fun q0 => ?_)
  · have h := h.1 q0
    exact lr_sub [] rfl h
  · have h := h.2 q0
    refine lr_iload (pc' := 1102) 1 C rfl dL_law_1100 rfl ?_
    refine lr_iload (pc' := 1104) 2 C rfl dL_law_1102 rfl ?_
    refine lr_iconst (pc' := 1105) C rfl dL_law_1104 ci_m1 ?_
    refine lr_ixor (pc' := 1106) C rfl dL_law_1105 ?_
    refine lr_iand (pc' := 1107) C rfl dL_law_1106 ?_
    refine lr_if_ne (tgt := 1114) (pc' := 1110) C rfl dL_law_1107 (by decide) (fun q1 => ?_) (fun q1 => ?_)
    · have h := h.1 q1
      exact lr_sub [] rfl h
    · have h := h.2 q1
      refine lr_iconst (pc' := 1111) C rfl dL_law_1110 ci_1 ?_
      refine lr_goto (tgt := 1115) C dL_law_1111 (by decide) ?_
      exact lr_sub [] rfl h
theorem T_L_law_1114 {X : HX} {L : Nat} {xs : Nat → Int32} {M : Mem}  {Q : Int32 → Mem → Prop} (C : LC mdL_law 9 600000 7302250 X L xs) (R : RT mdL_law X 186 2099 Q) (h : P_L_law_1115 X M (nI 0)) : P_L_law_1114 X M  := by
  refine lr_iconst (pc' := 1115) C rfl dL_law_1114 ci_0 ?_
  exact lr_sub [] rfl h
theorem T_L_law_1115 {X : HX} {L : Nat} {xs : Nat → Int32} {M : Mem} {s0 : Int32} {Q : Int32 → Mem → Prop} (C : LC mdL_law 9 600000 7302250 X L xs) (R : RT mdL_law X 186 2099 Q) (h : Q s0 M) : P_L_law_1115 X M s0 := by
  exact R _ _ _ _ dL_law_1115 h
