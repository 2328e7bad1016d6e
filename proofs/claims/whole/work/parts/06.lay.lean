def ks0 : List (Nat × Nat) := [(200, 14), (1, 150), (1, 150), (1, 150), (1, 150), (1, 150), (1, 150), (1, 64), (1, 6), (1, 6), (1, 6), (1, 6), (1, 6), (1, 6)]
def rs0 : List (Nat × Nat × Nat) := [(0, 1, 1), (0, 2, 2), (0, 3, 3), (0, 4, 4), (0, 5, 5), (0, 6, 6), (0, 7, 7), (0, 8, 8), (0, 9, 9), (0, 10, 10), (0, 11, 11), (0, 12, 12), (0, 13, 13)]
abbrev lo0 (h : zH) (a : Nat) : Prop := zlo h a ks0 rs0
def ks1 : List (Nat × Nat) := [(201, 10), (102, 6), (1, 5), (1, 5), (1, 5), (1, 100), (202, 10), (1, 24), (202, 10), (1, 24), (202, 10), (1, 24), (202, 10), (1, 24), (202, 10), (1, 24), (202, 10), (1, 24)]
def rs1 : List (Nat × Nat × Nat) := [(0, 5, 1), (0, 6, 2), (0, 7, 3), (0, 8, 4), (0, 9, 5), (1, 0, 6), (6, 9, 7), (1, 1, 8), (8, 9, 9), (1, 2, 10), (10, 9, 11), (1, 3, 12), (12, 9, 13), (1, 4, 14), (14, 9, 15), (1, 5, 16), (16, 9, 17)]
abbrev lo1 (h : zH) (a : Nat) : Prop := zlo h a ks1 rs1
def ks2 : List (Nat × Nat) := [(202, 10), (1, 24)]
def rs2 : List (Nat × Nat × Nat) := [(0, 9, 1)]
abbrev lo2 (h : zH) (a : Nat) : Prop := zlo h a ks2 rs2
def ks3 : List (Nat × Nat) := [(203, 6), (1, 10), (1, 10), (1, 10), (1, 10), (1, 10)]
def rs3 : List (Nat × Nat × Nat) := [(0, 1, 1), (0, 2, 2), (0, 3, 3), (0, 4, 4), (0, 5, 5)]
abbrev lo3 (h : zH) (a : Nat) : Prop := zlo h a ks3 rs3
def ks4 : List (Nat × Nat) := [(204, 14), (1, 10), (1, 10), (1, 10), (1, 10), (1, 10), (1, 10)]
def rs4 : List (Nat × Nat × Nat) := [(0, 1, 1), (0, 2, 2), (0, 5, 3), (0, 11, 4), (0, 12, 5), (0, 13, 6)]
abbrev lo4 (h : zH) (a : Nat) : Prop := zlo h a ks4 rs4
def ks5 : List (Nat × Nat) := [(205, 13), (201, 10), (102, 6), (1, 5), (1, 5), (1, 5), (1, 100), (202, 10), (1, 24), (202, 10), (1, 24), (202, 10), (1, 24), (202, 10), (1, 24), (202, 10), (1, 24), (202, 10), (1, 24), (203, 6), (1, 10), (1, 10), (1, 10), (1, 10), (1, 10), (1, 27)]
def rs5 : List (Nat × Nat × Nat) := [(1, 5, 2), (1, 6, 3), (1, 7, 4), (1, 8, 5), (1, 9, 6), (2, 0, 7), (7, 9, 8), (2, 1, 9), (9, 9, 10), (2, 2, 11), (11, 9, 12), (2, 3, 13), (13, 9, 14), (2, 4, 15), (15, 9, 16), (2, 5, 17), (17, 9, 18), (0, 0, 1), (19, 1, 20), (19, 2, 21), (19, 3, 22), (19, 4, 23), (19, 5, 24), (0, 1, 19), (0, 10, 25)]
abbrev lo5 (h : zH) (a : Nat) : Prop := zlo h a ks5 rs5
def ks6 : List (Nat × Nat) := [(206, 8), (1, 600), (101, 2), (103, 2), (201, 10), (102, 6), (1, 5), (1, 5), (1, 5), (1, 100), (202, 10), (1, 24), (202, 10), (1, 24), (202, 10), (1, 24), (202, 10), (1, 24), (202, 10), (1, 24), (202, 10), (1, 24), (201, 10), (102, 6), (1, 5), (1, 5), (1, 5), (1, 100), (202, 10), (1, 24), (202, 10), (1, 24), (202, 10), (1, 24), (202, 10), (1, 24), (202, 10), (1, 24), (202, 10), (1, 24), (203, 6), (1, 10), (1, 10), (1, 10), (1, 10), (1, 10), (203, 6), (1, 10), (1, 10), (1, 10), (1, 10), (1, 10)]
def rs6 : List (Nat × Nat × Nat) := [(0, 0, 1), (0, 4, 2), (0, 6, 3), (2, 0, 4), (4, 5, 5), (4, 6, 6), (4, 7, 7), (4, 8, 8), (4, 9, 9), (5, 0, 10), (10, 9, 11), (5, 1, 12), (12, 9, 13), (5, 2, 14), (14, 9, 15), (5, 3, 16), (16, 9, 17), (5, 4, 18), (18, 9, 19), (5, 5, 20), (20, 9, 21), (2, 1, 22), (22, 5, 23), (22, 6, 24), (22, 7, 25), (22, 8, 26), (22, 9, 27), (23, 0, 28), (28, 9, 29), (23, 1, 30), (30, 9, 31), (23, 2, 32), (32, 9, 33), (23, 3, 34), (34, 9, 35), (23, 4, 36), (36, 9, 37), (23, 5, 38), (38, 9, 39), (3, 0, 40), (40, 1, 41), (40, 2, 42), (40, 3, 43), (40, 4, 44), (40, 5, 45), (3, 1, 46), (46, 1, 47), (46, 2, 48), (46, 3, 49), (46, 4, 50), (46, 5, 51)]
abbrev lo6 (h : zH) (a : Nat) : Prop := zlo h a ks6 rs6
def ks7 : List (Nat × Nat) := [(207, 8), (1, 5), (1, 5), (99, 6), (1, 64), (1, 64), (1, 64), (1, 64), (1, 64), (1, 64), (209, 10), (1, 40), (1, 2624), (1, 128)]
def rs7 : List (Nat × Nat × Nat) := [(0, 2, 1), (0, 5, 2), (3, 0, 4), (3, 1, 5), (3, 2, 6), (3, 3, 7), (3, 4, 8), (3, 5, 9), (0, 6, 3), (10, 2, 11), (10, 8, 12), (10, 9, 13), (0, 7, 10)]
abbrev lo7 (h : zH) (a : Nat) : Prop := zlo h a ks7 rs7
def ks8 : List (Nat × Nat) := [(208, 7), (1, 64), (1, 3), (1, 3)]
def rs8 : List (Nat × Nat × Nat) := [(0, 0, 1), (0, 4, 2), (0, 5, 3)]
abbrev lo8 (h : zH) (a : Nat) : Prop := zlo h a ks8 rs8
def ks9 : List (Nat × Nat) := [(209, 10), (1, 40), (1, 2624), (1, 128)]
def rs9 : List (Nat × Nat × Nat) := [(0, 2, 1), (0, 8, 2), (0, 9, 3)]
abbrev lo9 (h : zH) (a : Nat) : Prop := zlo h a ks9 rs9
def ks10 : List (Nat × Nat) := [(210, 15), (206, 8), (1, 600), (101, 2), (103, 2), (201, 10), (102, 6), (1, 5), (1, 5), (1, 5), (1, 100), (202, 10), (1, 24), (202, 10), (1, 24), (202, 10), (1, 24), (202, 10), (1, 24), (202, 10), (1, 24), (202, 10), (1, 24), (201, 10), (102, 6), (1, 5), (1, 5), (1, 5), (1, 100), (202, 10), (1, 24), (202, 10), (1, 24), (202, 10), (1, 24), (202, 10), (1, 24), (202, 10), (1, 24), (202, 10), (1, 24), (203, 6), (1, 10), (1, 10), (1, 10), (1, 10), (1, 10), (203, 6), (1, 10), (1, 10), (1, 10), (1, 10), (1, 10), (106, 3), (2, 3), (205, 13), (201, 10), (102, 6), (1, 5), (1, 5), (1, 5), (1, 100), (202, 10), (1, 24), (202, 10), (1, 24), (202, 10), (1, 24), (202, 10), (1, 24), (202, 10), (1, 24), (202, 10), (1, 24), (203, 6), (1, 10), (1, 10), (1, 10), (1, 10), (1, 10), (1, 27), (200, 14), (1, 150), (1, 150), (1, 150), (1, 150), (1, 150), (1, 150), (1, 64), (1, 6), (1, 6), (1, 6), (1, 6), (1, 6), (1, 6), (201, 10), (102, 6), (1, 5), (1, 5), (1, 5), (1, 100), (202, 10), (1, 24), (202, 10), (1, 24), (202, 10), (1, 24), (202, 10), (1, 24), (202, 10), (1, 24), (202, 10), (1, 24), (200, 14), (1, 150), (1, 150), (1, 150), (1, 150), (1, 150), (1, 150), (1, 64), (1, 6), (1, 6), (1, 6), (1, 6), (1, 6), (1, 6), (1, 64), (209, 10), (1, 40), (1, 2624), (1, 128), (208, 7), (1, 64), (1, 3), (1, 3), (207, 8), (1, 5), (1, 5), (99, 6), (1, 64), (1, 64), (1, 64), (1, 64), (1, 64), (1, 64), (209, 10), (1, 40), (1, 2624), (1, 128), (204, 14), (1, 10), (1, 10), (1, 10), (1, 10), (1, 10), (1, 10), (206, 8), (1, 600), (101, 2), (103, 2), (201, 10), (102, 6), (1, 5), (1, 5), (1, 5), (1, 100), (202, 10), (1, 24), (202, 10), (1, 24), (202, 10), (1, 24), (202, 10), (1, 24), (202, 10), (1, 24), (202, 10), (1, 24), (201, 10), (102, 6), (1, 5), (1, 5), (1, 5), (1, 100), (202, 10), (1, 24), (202, 10), (1, 24), (202, 10), (1, 24), (202, 10), (1, 24), (202, 10), (1, 24), (202, 10), (1, 24), (203, 6), (1, 10), (1, 10), (1, 10), (1, 10), (1, 10), (203, 6), (1, 10), (1, 10), (1, 10), (1, 10), (1, 10), (206, 8), (1, 600), (101, 2), (103, 2), (201, 10), (102, 6), (1, 5), (1, 5), (1, 5), (1, 100), (202, 10), (1, 24), (202, 10), (1, 24), (202, 10), (1, 24), (202, 10), (1, 24), (202, 10), (1, 24), (202, 10), (1, 24), (201, 10), (102, 6), (1, 5), (1, 5), (1, 5), (1, 100), (202, 10), (1, 24), (202, 10), (1, 24), (202, 10), (1, 24), (202, 10), (1, 24), (202, 10), (1, 24), (202, 10), (1, 24), (203, 6), (1, 10), (1, 10), (1, 10), (1, 10), (1, 10), (203, 6), (1, 10), (1, 10), (1, 10), (1, 10), (1, 10), (206, 8), (1, 600), (101, 2), (103, 2), (201, 10), (102, 6), (1, 5), (1, 5), (1, 5), (1, 100), (202, 10), (1, 24), (202, 10), (1, 24), (202, 10), (1, 24), (202, 10), (1, 24), (202, 10), (1, 24), (202, 10), (1, 24), (201, 10), (102, 6), (1, 5), (1, 5), (1, 5), (1, 100), (202, 10), (1, 24), (202, 10), (1, 24), (202, 10), (1, 24), (202, 10), (1, 24), (202, 10), (1, 24), (202, 10), (1, 24), (203, 6), (1, 10), (1, 10), (1, 10), (1, 10), (1, 10), (203, 6), (1, 10), (1, 10), (1, 10), (1, 10), (1, 10)]
def rs10 : List (Nat × Nat × Nat) := [(1, 0, 2), (1, 4, 3), (1, 6, 4), (3, 0, 5), (5, 5, 6), (5, 6, 7), (5, 7, 8), (5, 8, 9), (5, 9, 10), (6, 0, 11), (11, 9, 12), (6, 1, 13), (13, 9, 14), (6, 2, 15), (15, 9, 16), (6, 3, 17), (17, 9, 18), (6, 4, 19), (19, 9, 20), (6, 5, 21), (21, 9, 22), (3, 1, 23), (23, 5, 24), (23, 6, 25), (23, 7, 26), (23, 8, 27), (23, 9, 28), (24, 0, 29), (29, 9, 30), (24, 1, 31), (31, 9, 32), (24, 2, 33), (33, 9, 34), (24, 3, 35), (35, 9, 36), (24, 4, 37), (37, 9, 38), (24, 5, 39), (39, 9, 40), (4, 0, 41), (41, 1, 42), (41, 2, 43), (41, 3, 44), (41, 4, 45), (41, 5, 46), (4, 1, 47), (47, 1, 48), (47, 2, 49), (47, 3, 50), (47, 4, 51), (47, 5, 52), (0, 0, 1), (0, 1, 53), (0, 2, 54), (56, 5, 57), (56, 6, 58), (56, 7, 59), (56, 8, 60), (56, 9, 61), (57, 0, 62), (62, 9, 63), (57, 1, 64), (64, 9, 65), (57, 2, 66), (66, 9, 67), (57, 3, 68), (68, 9, 69), (57, 4, 70), (70, 9, 71), (57, 5, 72), (72, 9, 73), (55, 0, 56), (74, 1, 75), (74, 2, 76), (74, 3, 77), (74, 4, 78), (74, 5, 79), (55, 1, 74), (55, 10, 80), (0, 3, 55), (81, 1, 82), (81, 2, 83), (81, 3, 84), (81, 4, 85), (81, 5, 86), (81, 6, 87), (81, 7, 88), (81, 8, 89), (81, 9, 90), (81, 10, 91), (81, 11, 92), (81, 12, 93), (81, 13, 94), (0, 4, 81), (95, 5, 96), (95, 6, 97), (95, 7, 98), (95, 8, 99), (95, 9, 100), (96, 0, 101), (101, 9, 102), (96, 1, 103), (103, 9, 104), (96, 2, 105), (105, 9, 106), (96, 3, 107), (107, 9, 108), (96, 4, 109), (109, 9, 110), (96, 5, 111), (111, 9, 112), (0, 5, 95), (113, 1, 114), (113, 2, 115), (113, 3, 116), (113, 4, 117), (113, 5, 118), (113, 6, 119), (113, 7, 120), (113, 8, 121), (113, 9, 122), (113, 10, 123), (113, 11, 124), (113, 12, 125), (113, 13, 126), (0, 6, 113), (0, 7, 127), (128, 2, 129), (128, 8, 130), (128, 9, 131), (0, 8, 128), (132, 0, 133), (132, 4, 134), (132, 5, 135), (0, 9, 132), (136, 2, 137), (136, 5, 138), (139, 0, 140), (139, 1, 141), (139, 2, 142), (139, 3, 143), (139, 4, 144), (139, 5, 145), (136, 6, 139), (146, 2, 147), (146, 8, 148), (146, 9, 149), (136, 7, 146), (0, 10, 136), (150, 1, 151), (150, 2, 152), (150, 5, 153), (150, 11, 154), (150, 12, 155), (150, 13, 156), (0, 12, 150), (53, 0, 157), (157, 0, 158), (157, 4, 159), (157, 6, 160), (159, 0, 161), (161, 5, 162), (161, 6, 163), (161, 7, 164), (161, 8, 165), (161, 9, 166), (162, 0, 167), (167, 9, 168), (162, 1, 169), (169, 9, 170), (162, 2, 171), (171, 9, 172), (162, 3, 173), (173, 9, 174), (162, 4, 175), (175, 9, 176), (162, 5, 177), (177, 9, 178), (159, 1, 179), (179, 5, 180), (179, 6, 181), (179, 7, 182), (179, 8, 183), (179, 9, 184), (180, 0, 185), (185, 9, 186), (180, 1, 187), (187, 9, 188), (180, 2, 189), (189, 9, 190), (180, 3, 191), (191, 9, 192), (180, 4, 193), (193, 9, 194), (180, 5, 195), (195, 9, 196), (160, 0, 197), (197, 1, 198), (197, 2, 199), (197, 3, 200), (197, 4, 201), (197, 5, 202), (160, 1, 203), (203, 1, 204), (203, 2, 205), (203, 3, 206), (203, 4, 207), (203, 5, 208), (53, 1, 209), (209, 0, 210), (209, 4, 211), (209, 6, 212), (211, 0, 213), (213, 5, 214), (213, 6, 215), (213, 7, 216), (213, 8, 217), (213, 9, 218), (214, 0, 219), (219, 9, 220), (214, 1, 221), (221, 9, 222), (214, 2, 223), (223, 9, 224), (214, 3, 225), (225, 9, 226), (214, 4, 227), (227, 9, 228), (214, 5, 229), (229, 9, 230), (211, 1, 231), (231, 5, 232), (231, 6, 233), (231, 7, 234), (231, 8, 235), (231, 9, 236), (232, 0, 237), (237, 9, 238), (232, 1, 239), (239, 9, 240), (232, 2, 241), (241, 9, 242), (232, 3, 243), (243, 9, 244), (232, 4, 245), (245, 9, 246), (232, 5, 247), (247, 9, 248), (212, 0, 249), (249, 1, 250), (249, 2, 251), (249, 3, 252), (249, 4, 253), (249, 5, 254), (212, 1, 255), (255, 1, 256), (255, 2, 257), (255, 3, 258), (255, 4, 259), (255, 5, 260), (53, 2, 261), (261, 0, 262), (261, 4, 263), (261, 6, 264), (263, 0, 265), (265, 5, 266), (265, 6, 267), (265, 7, 268), (265, 8, 269), (265, 9, 270), (266, 0, 271), (271, 9, 272), (266, 1, 273), (273, 9, 274), (266, 2, 275), (275, 9, 276), (266, 3, 277), (277, 9, 278), (266, 4, 279), (279, 9, 280), (266, 5, 281), (281, 9, 282), (263, 1, 283), (283, 5, 284), (283, 6, 285), (283, 7, 286), (283, 8, 287), (283, 9, 288), (284, 0, 289), (289, 9, 290), (284, 1, 291), (291, 9, 292), (284, 2, 293), (293, 9, 294), (284, 3, 295), (295, 9, 296), (284, 4, 297), (297, 9, 298), (284, 5, 299), (299, 9, 300), (264, 0, 301), (301, 1, 302), (301, 2, 303), (301, 3, 304), (301, 4, 305), (301, 5, 306), (264, 1, 307), (307, 1, 308), (307, 2, 309), (307, 3, 310), (307, 4, 311), (307, 5, 312)]
abbrev lo10 (h : zH) (a : Nat) : Prop := zlo h a ks10 rs10
def ks11 : List (Nat × Nat) := [(211, 50), (1, 5392), (2, 3), (1, 318), (2, 100), (1, 600), (1, 6), (1, 160), (1, 160), (1, 160), (1, 160), (1, 160), (1, 160), (1, 160), (1, 160), (1, 24), (1, 64), (1, 64), (1, 5248), (1, 41), (2, 41), (1, 10), (1, 10240), (1, 1024), (1, 1024), (1, 1024)]
def rs11 : List (Nat × Nat × Nat) := [(0, 0, 1), (0, 1, 2), (0, 11, 3), (0, 20, 4), (0, 21, 5), (0, 22, 6), (0, 24, 7), (0, 25, 8), (0, 26, 9), (0, 27, 10), (0, 28, 11), (0, 29, 12), (0, 30, 13), (0, 31, 14), (0, 32, 15), (0, 33, 16), (0, 34, 17), (0, 35, 18), (0, 40, 19), (0, 41, 20), (0, 44, 21), (0, 45, 22), (0, 46, 23), (0, 47, 24), (0, 48, 25)]
abbrev lo11 (h : zH) (a : Nat) : Prop := zlo h a ks11 rs11
/-- a row of an array of rows of ints -/
theorem z_aald99 {l : Launch} {G : zG} {M : zM} {d : Nat} {Q : Option Value → zH → Prop} {k n pc : Nat} {L S : List Value} {h : zH} {a N : Nat} {i : Int32} (hd : decode (mC M) pc = .ok (.aaload, 1)) (hk : zK h a = (99, N)) (hl : a < zN h) (h0 : 0 ≤ i.toInt) (h1 : i.toInt < N) (kk : Z l G M d Q k n (pc + 1) L (va_rf (zR h a (zix i)) :: S) h) : Z l G M d Q k n pc L (.int i :: va_rf (some a) :: S) h := by
  intro p e R s m args below meth c Qs H locs cells slots ls C hR hS hL hc hn
  have k2 := kk p e R s m args below meth c Qs H locs cells slots ls C hR hS hL hc hn
  have hat := hR.at hl
  rw [zE_ref (by rw [hk]; show ¬ (99 : Nat) < 50; decide) (by rw [hk]; show (99 : Nat) < 200; decide), hk] at hat
  show W p l e R s m args below meth c H locs cells slots Qs (F0 m pc ls (.int i :: .ref (zf G a) :: S.map (zt G)))
  have hl9 := hR.2.1
  rw [zf_lt (by omega)]
  have hv := zin_of h0 h1
  have hlt : i.toNatClampNeg < N := Nat.not_le.mp fun q => hv (Or.inr q)
  have k3 : W p l e R s m args below meth c H locs cells slots Qs (F0 m (pc + 1) ls (zt G (va_rf (zR h a (zix i))) :: S.map (zt G))) := k2
  have hw : zt G (va_rf (zR h a (zix i))) = va_rf ((zR h a (zix i)).map (zf G)) := by cases zR h a (zix i) <;> rfl
  rw [hw] at k3
  exact W.aald C.1 C.2.1 (show H[gB G + a]? = some (vp_cell _ _) from hat) ((C.2.2.2.2.2.1.1.1.2 2 _ (zat_in 2 rfl G)).1 N (fun j => va_rf ((zR h a j).map (zf G)))) rfl (fun q => by cases q) (by show ¬ (i < 0 ∨ (arrV _ _ _).slots.size ≤ _); rw [arrV_size]; exact hv) (arrV_read _ _ hlt) rfl rfl hd k3
theorem z_soP {l : Launch} {G : zG} {M : zM} {d : Nat} {Q : Option Value → zH → Prop} {k n pc : Nat} {L S : List Value} {h : zH} {x : Option Nat} {b : Nat} (P : List Value) (hq : x = some b) (kk : Z l G M d Q k n pc L (P ++ va_rf (some b) :: S) h) : Z l G M d Q k n pc L (P ++ va_rf x :: S) h := by
  subst hq
  exact kk
theorem zs1_rf {L : List Value} {j : Nat} {v : Value} {r : Option Nat} (h : L[j]? = some (va_rf r)) : zs1 L (j + 1) v = L.set (j + 1) v := by
  unfold zs1 zcut
  dsimp only
  rw [h]
  cases r <;> rfl
theorem zs2_rf {L : List Value} {j : Nat} {v : Value} {r : Option Nat} (h : L[j]? = some (va_rf r)) : zs2 L (j + 1) v = (L.set (j + 1) v).set (j + 2) zU := by
  unfold zs2 zcut
  dsimp only
  rw [h]
  cases r <;> rfl
/-- a local is forgotten -/
theorem z_forget {l : Launch} {G : zG} {M : zM} {d : Nat} {Q : Option Value → zH → Prop} {k n pc : Nat} {L S : List Value} {h : zH} {L' : List Value} (j : Nat) (hL' : L.set j zU = L') (kk : Z l G M d Q k n pc L' S h) : Z l G M d Q k n pc L S h := by
  subst hL'
  intro p e R s m args below meth c Qs H locs cells slots ls C hR hS hL hc hn
  refine kk p e R s m args below meth c Qs H locs cells slots ls C hR hS ⟨hL.1, hL.2.1, fun i v hi hv => ?_⟩ hc hn
  by_cases q : i = j
  · subst q
    by_cases hl : i < L.length
    · rw [List.getElem?_set_self hl] at hi
      cases hi
      cases hv
    · rw [List.getElem?_eq_none (by rw [List.length_set]; omega)] at hi
      cases hi
  · rw [List.getElem?_set_ne (Ne.symm q)] at hi
    exact hL.2.2 i v hi hv
theorem va_cat (r : Option Nat) : (va_rf r).category = 1 := by cases r <;> rfl
def zca1 : List Value → Prop
  | [] => True
  | v :: r => v.category = 1 ∧ zca1 r
theorem zroom8 (G : zG) : ∀ S : List Value, zca1 S → ((S.map (zt G)).map fun v => v.category).sum = S.length
  | [], _ => rfl
  | v :: r, h => by
    have := zroom8 G r h.2
    simp only [List.map_cons, List.sum_cons, List.length_cons, zt_cat, h.1]
    omega
section Z8
variable {l : Launch} {G : zG} {M : zM} {d : Nat} {Q : Option Value → zH → Prop} {k n pc : Nat} {L S : List Value} {h : zH}
theorem z_callV8 {Y : zY} {np ix a ci N d' mc ms : Nat} {C : String} {T : u_T} {As : List Value} {Q' : Option Value → zH → Prop} (hC : zCl ci C T N) (hY : Y.1.cls = C) (hM : zMe Y np) (hin : Cond.instanceMethod Y.1 ∈ zTs) (hse : Cond.selects C Y.1 Y.1 ∈ zTs) (hl : zLk M ix Y.1) (hd : decode (mC M) pc = .ok (.invokevirtual ix, 3)) (hk : zK h a = (200 + ci, N)) (hal : a < zN h) (hAs : As.length = np) (hdp : d' + 1 ≤ d) (hS4 : S.length ≤ 8 ∧ zca1 S)
    (hT : CT l G Y d' mc ms (va_rf (some a) :: As) h Q') (kk : ∀ v h1, Q' v h1 → Z l G M d Q k n (pc + 3) L (v.toList ++ S) h1) : Z l G M d Q (k + mc) (n + ms) pc L (As.reverse ++ va_rf (some a) :: S) h := by
  intro p e R s m args below meth c Qs H locs cells slots ls X hR hS hL hc hn
  have hts := X.2.2.2.2.1
  have h40 := X.2.2.2.2.2.2.2.2.1
  have hfr := X.2.2.2.2.2.2.2.1
  have hl9 := hR.2.1
  have hat := hR.at hal
  rw [zE_ob hk] at hat
  have hzf : zf G a = gB G + a := zf_lt (by omega)
  rw [zmapr]
  have hroom := zroom8 G S hS4.2
  have hS9 := hS4.1
  have hrec := va_recv X.2.2.2.2.2.1.1.1 (va_one hat) (ci := ci) (q0 := 0) hC.1 rfl
  have hpre : PreV s H C (zf G a) (zPc G (va_rf (some a) :: As) h) (As.map (zt G)) := ⟨zPc_blind _, by rw [hzf]; exact hrec, zPc_to X.2.2.2.2.2.1 hR hS _⟩
  refine z_run (a := (zt G (va_rf (some a)) :: As.map (zt G)).toArray) (Q' := Q') (mc := mc) (ms := ms) (rest := S.map (zt G)) ?_ hS (fun v h1 H1 locs1 hq hR1 hS1 => by rw [zcat_map]; exact kk v h1 hq p e R s m args below meth c Qs H1 locs1 (cells + mc) (slots + ms) ls X hR1 hS1 hL (by omega) (by omega))
  rcases hl with hl | ⟨host, hl⟩
  · exact va_runV (S := ⟨X.1, X.2.1, X.2.2.1, X.2.2.2.1, hts⟩) hT ⟨zhB hts hM hl hfr h40 hdp, hts _ hin, hts _ hse⟩ hpre rfl (by rw [List.length_map]; exact hAs) hL.1 rfl (by show 2 * 0 + _ ≤ 8; omega) hd ⟨by omega, by omega⟩
  · exact va_runVN (S := ⟨X.1, X.2.1, X.2.2.1, X.2.2.2.1, hts⟩) hT ⟨zhN hts hM (z_nw X hl rfl) hfr h40 hdp, hts _ hin, hts _ hse⟩ hpre rfl (by rw [List.length_map]; exact hAs) hL.1 rfl (by show 2 * 0 + _ ≤ 8; omega) hd ⟨by omega, by omega⟩
theorem z_callS8 {Y : zY} {np ix d' mc ms : Nat} {As : List Value} {Q' : Option Value → zH → Prop} (hM : zMe Y np) (hst : Cond.static Y.1 ∈ zTs) (hl : zLk M ix Y.1) (hd : decode (mC M) pc = .ok (.invokestatic ix, 3)) (hAs : As.length = np) (hdp : d' + 1 ≤ d) (hS4 : S.length ≤ 8 ∧ zca1 S)
    (hT : CT l G Y d' mc ms As h Q') (kk : ∀ v h1, Q' v h1 → Z l G M d Q k n (pc + 3) L (v.toList ++ S) h1) : Z l G M d Q (k + mc) (n + ms) pc L (As.reverse ++ S) h := by
  intro p e R s m args below meth c Qs H locs cells slots ls X hR hS hL hc hn
  have hts := X.2.2.2.2.1
  have h40 := X.2.2.2.2.2.2.2.2.1
  have hfr := X.2.2.2.2.2.2.2.1
  rw [zmaps]
  have hroom := zroom8 G S hS4.2
  have hS9 := hS4.1
  have hpre : PreS s H (zPc G As h) (As.map (zt G)) := ⟨zPc_blind _, zPc_to X.2.2.2.2.2.1 hR hS _⟩
  refine z_run (a := (As.map (zt G)).toArray) (Q' := Q') (mc := mc) (ms := ms) (rest := S.map (zt G)) ?_ hS (fun v h1 H1 locs1 hq hR1 hS1 => by rw [zcat_map]; exact kk v h1 hq p e R s m args below meth c Qs H1 locs1 (cells + mc) (slots + ms) ls X hR1 hS1 hL (by omega) (by omega))
  rcases hl with hl | ⟨host, hl⟩
  · exact va_runS (S := ⟨X.1, X.2.1, X.2.2.1, X.2.2.2.1, hts⟩) hT ⟨zhB hts hM hl hfr h40 hdp, hts _ hst⟩ hpre rfl (by rw [List.length_map]; exact hAs) hL.1 rfl (by show 2 * 0 + _ ≤ 8; omega) hd ⟨by omega, by omega⟩
  · exact va_runSN (S := ⟨X.1, X.2.1, X.2.2.1, X.2.2.2.1, hts⟩) hT ⟨zhN hts hM (z_nw X hl rfl) hfr h40 hdp, hts _ hst, trivial⟩ hpre rfl (by rw [List.length_map]; exact hAs) hL.1 rfl (by show 2 * 0 + _ ≤ 8; omega) hd ⟨by omega, by omega⟩
theorem z_max8 {x y : Int32} {ix : Nat} (hd : decode (mC M) pc = .ok (.invokestatic ix, 3)) (hl : Cond.methodLink (mO M) ix Lib.Math.max.name ∈ zTs) (hs : Cond.static Lib.Math.max.name ∈ zTs) (hi : Cond.initialized "java/lang/Math" ∈ zTs) (hcd : Cond.code Lib.Math.max.name Lib.Math.max.code 2 (some .int) ∈ zTs) (hdp : 1 ≤ d) (hS4 : S.length ≤ 8 ∧ zca1 S) (kk : Z l G M d Q k n (pc + 3) L (.int (if x < y then y else x) :: S) h) : Z l G M d Q k n pc L (.int y :: .int x :: S) h := by
  intro p e R s m args below meth c Qs H locs cells slots ls X hR hS hL hc hn
  have hts := X.2.2.2.2.1
  have h40 := X.2.2.2.2.2.2.2.2.1
  have hfr := X.2.2.2.2.2.2.2.1
  have hroom := zroom8 G S hS4.2
  have hS9 := hS4.1
  exact va_mmax X.1 X.2.1 (by rw [X.2.2.1]; exact hL.1.symm) X.2.2.2.1 (hts _ hl) (hts _ hs) (hts _ hi) (hts _ hcd) (by omega) (by omega) (by omega) (by omega) hd (kk p e R s m args below meth c Qs H locs cells slots ls X hR hS hL hc hn)
theorem z_min8 {x y : Int32} {ix : Nat} (hd : decode (mC M) pc = .ok (.invokestatic ix, 3)) (hl : Cond.methodLink (mO M) ix Lib.Math.min.name ∈ zTs) (hs : Cond.static Lib.Math.min.name ∈ zTs) (hi : Cond.initialized "java/lang/Math" ∈ zTs) (hcd : Cond.code Lib.Math.min.name Lib.Math.min.code 2 (some .int) ∈ zTs) (hdp : 1 ≤ d) (hS4 : S.length ≤ 8 ∧ zca1 S) (kk : Z l G M d Q k n (pc + 3) L (.int (if y < x then y else x) :: S) h) : Z l G M d Q k n pc L (.int y :: .int x :: S) h := by
  intro p e R s m args below meth c Qs H locs cells slots ls X hR hS hL hc hn
  have hts := X.2.2.2.2.1
  have h40 := X.2.2.2.2.2.2.2.2.1
  have hfr := X.2.2.2.2.2.2.2.1
  have hroom := zroom8 G S hS4.2
  have hS9 := hS4.1
  exact va_mmin X.1 X.2.1 (by rw [X.2.2.1]; exact hL.1.symm) X.2.2.2.1 (hts _ hl) (hts _ hs) (hts _ hi) (hts _ hcd) (by omega) (by omega) (by omega) (by omega) hd (kk p e R s m args below meth c Qs H locs cells slots ls X hR hS hL hc hn)
theorem z_abs8 {x : Int32} {ix : Nat} (hd : decode (mC M) pc = .ok (.invokestatic ix, 3)) (hl : Cond.methodLink (mO M) ix Lib.Math.abs.name ∈ zTs) (hs : Cond.static Lib.Math.abs.name ∈ zTs) (hi : Cond.initialized "java/lang/Math" ∈ zTs) (hcd : Cond.code Lib.Math.abs.name Lib.Math.abs.code 1 (some .int) ∈ zTs) (hdp : 1 ≤ d) (hS4 : S.length ≤ 8 ∧ zca1 S) (kk : Z l G M d Q k n (pc + 3) L (.int (if 0 ≤ x then x else 0 - x) :: S) h) : Z l G M d Q k n pc L (.int x :: S) h := by
  intro p e R s m args below meth c Qs H locs cells slots ls X hR hS hL hc hn
  have hts := X.2.2.2.2.1
  have h40 := X.2.2.2.2.2.2.2.2.1
  have hfr := X.2.2.2.2.2.2.2.1
  have hroom := zroom8 G S hS4.2
  have hS9 := hS4.1
  exact va_mabs X.1 X.2.1 (by rw [X.2.2.1]; exact hL.1.symm) X.2.2.2.1 (hts _ hl) (hts _ hs) (hts _ hi) (hts _ hcd) (by omega) (by omega) (by omega) (by omega) hd (kk p e R s m args below meth c Qs H locs cells slots ls X hR hS hL hc hn)
end Z8
/-! ===== small functions of the class's helpers ===== -/
def zget (h : zH) (r : Option Nat) (i : Int32) : Int32 := match r with
  | none => -1
  | some a => if 0 ≤ i.toInt ∧ i.toInt < ((zK h a).2 : Int) then zI h a (zix i) else -1
def zgok (h : zH) (r : Option Nat) : Prop := ∀ a, r = some a → zAr h a (zK h a).2 ∧ (zK h a).2 < 100000
def zput (h : zH) (r : Option Nat) (i v : Int32) : zH := (fun b k => if r = some b ∧ 0 ≤ i.toInt ∧ i.toInt < ((zK h b).2 : Int) ∧ k = zix i then v else h.1 b k, h.2)
def zpok (h : zH) (r : Option Nat) : Prop := ∀ a, r = some a → zAw h a (zK h a).2 ∧ (zK h a).2 < 100000
theorem zgok_lo {h : zH} {a n : Nat} (q : zAw h a n) (hn : n < 100000) : zgok h (some a) := fun b e => by
  cases e
  rw [show (zK h a).2 = n by rw [q.1]]
  exact ⟨q.r, hn⟩
theorem zpok_lo {h : zH} {a n : Nat} (q : zAw h a n) (hn : n < 100000) : zpok h (some a) := fun b e => by
  cases e
  rw [show (zK h a).2 = n by rw [q.1]]
  exact ⟨q, hn⟩
theorem zget_lo {h : zH} {a n : Nat} {i : Int32} (q : zAw h a n) : zget h (some a) i = if 0 ≤ i.toInt ∧ i.toInt < (n : Int) then zI h a (zix i) else -1 := by
  unfold zget
  dsimp only
  rw [show (zK h a).2 = n by rw [q.1]]
def zmin (m : Int32) : Bool := decide (0 ≤ m.toInt ∧ m.toInt < 100)
def zshape (s f d : Int32) : Int32 := (((s <<< ((3 : Int32) &&& 31)) ||| (f <<< ((2 : Int32) &&& 31))) ||| d)
def zsole (s : Int32) : Int32 := s >>> ((3 : Int32) &&& 31)
def zfoot (s : Int32) : Int32 := (s >>> ((2 : Int32) &&& 31)) &&& 1
def zside (s : Int32) : Int32 := s &&& 3
def zslot (q : Nat) (p : Int32) : Option Nat := if 0 ≤ p.toInt ∧ p.toInt < 6 then some (q + (6 + 2 * zix p)) else none
def zmem (h : zH) (q : Nat) (p : Int32) : Option Nat := if p.toInt < (zI h q 3).toInt then zslot q p else none
def zcells (h : zH) (q : Nat) : Int32 := zI h q 0 * zI h q 1
def zhas (h : zH) (q : Nat) (c : Int32) : Bool := decide (0 ≤ c.toInt ∧ c.toInt < (zcells h q).toInt)
def zbrow (w c s f : Int32) : Int32 := if s.toInt = 0 then c / w - f else if s.toInt = 2 then c / w + f else c / w
def zbcol (w c s f : Int32) : Int32 := if s.toInt = 1 then zrem c w + f else if s.toInt = 0 ∨ s.toInt = 2 then zrem c w else zrem c w - f
def zbes (w g c s f : Int32) : Int32 := if c.toInt < 0 ∨ (w * g).toInt ≤ c.toInt ∨ w.toInt < 1 then -1 else if 0 ≤ (zbrow w c s f).toInt ∧ (zbrow w c s f).toInt < g.toInt ∧ 0 ≤ (zbcol w c s f).toInt ∧ (zbcol w c s f).toInt < w.toInt then zbrow w c s f * w + zbcol w c s f else -1
def zdist (w a b : Int32) : Int32 := if w.toInt < 1 then 0 else iabs (a / w - b / w) + iabs (zrem a w - zrem b w)
def zwalks (h : zH) (p : Nat) : Bool := decide (zI h p 5 = -1 ∧ ¬ zI h p 6 = -1)
def zsideAt (h : zH) (p : Nat) (i : Int32) : Int32 := zget h (some (p + 1)) (imax 0 (i - 1))
def zdep (limp load foot : Int32) : Int32 := if limp = foot + 1 then imax 1 (load / 2) else load
def zhs (h : zH) (r : Nat) (k : Int32) : Bool := decide (0 ≤ k.toInt ∧ k.toInt < (zI h r 0).toInt)
def znat (h : zH) (t : Nat) (i : Int32) : Option Nat := if 0 ≤ i.toInt ∧ i.toInt < (zI h t 5).toInt ∧ i.toInt < 2 then some (t + (4 + 18 * zix i)) else none
def zrat (h : zH) (t : Nat) (i : Int32) : Option Nat := if 0 ≤ i.toInt ∧ i.toInt < (zI h t 7).toInt ∧ i.toInt < 2 then some (t + (40 + 6 * zix i)) else none
def zgrd (t : Nat) (i : Int32) : Option Nat := if 0 ≤ i.toInt ∧ i.toInt < 6 then some (t + (4 + zix i)) else none
def zblank (c : Int32) : Bool := decide (c = 10 ∨ c = 32)
def zletter (c : Int32) : Bool := decide (97 ≤ c.toInt ∧ c.toInt ≤ 122)
def zdigit (c : Int32) : Bool := decide (48 ≤ c.toInt ∧ c.toInt ≤ 57)
def zin3 (v a b : Int32) : Bool := decide (a.toInt ≤ v.toInt ∧ v.toInt ≤ b.toInt)
def zof (h : zH) (a : Nat) (w : Int32) : Int32 := zI h (a + 1) (zix (zI h a 12 + w))
def ztold (h : zH) (a : Nat) (p w : Int32) : Int32 := zI h (a + 1) (zix (zI h a 12 + 120 + 33 * p + w))
def zplace (s k : Int32) : Int32 := if s = 0 then 610 + 318 * k else 1246 + 51 * k
def zhalf (x : Int32) : Int32 := if x.toInt < 4 then 1 else x / 2
def zapart (a b : Int32) : Int32 := if b.toInt < a.toInt then a - b else b - a
def zbyte (h : zH) (a : Nat) (p : Int32) : Int32 := if p.toInt < (zI h a 2).toInt then zI h (a + 1) (zix (10 + p)) else -1
def zsigns (h : zH) (a : Nat) : Int32 := zI h (a + 1) (zix (zI h a 43))
def zsignOf (h : zH) (a : Nat) (k w : Int32) : Int32 := zI h (a + 1) (zix (zI h a 43 + 1 + 5 * k + w))
def CVb (l : Launch) (G : zG) (Y : zY) (d : Nat) (a : List Value) (h : zH) (b : Bool) : Prop := CT l G Y d 0 0 a h (fun v h1 => v = some (.int (zb b)) ∧ h1 = h)
theorem cvi {x y : Int32} {h : zH} (e : x = y) : some (Value.int x) = some (Value.int y) ∧ h = h := ⟨by rw [e], rfl⟩
theorem cvr {x y : Option Nat} {h : zH} (e : x = y) : some (va_rf x) = some (va_rf y) ∧ h = h := ⟨by rw [e], rfl⟩
theorem cv0 {b : Bool} {h : zH} (e : b = false) : some (Value.int 0) = some (Value.int (zb b)) ∧ h = h := ⟨by rw [e]; rfl, rfl⟩
theorem cv1 {b : Bool} {h : zH} (e : b = true) : some (Value.int 1) = some (Value.int (zb b)) ∧ h = h := ⟨by rw [e]; rfl, rfl⟩
def zid (h : zH) (a i : Nat) : Prop := 0 ≤ (i : Int)
def z5392 (x : Int32) : Prop := 0 ≤ x.toInt ∧ x.toInt < 5392
def zofk (h : zH) (a : Nat) (w : Int32) : Prop := z5392 (zI h a 12 + w)
def ztok (h : zH) (a : Nat) (p w : Int32) : Prop := z5392 (zI h a 12 + 120 + 33 * p + w)
def zbyok (h : zH) (a : Nat) (p : Int32) : Prop := p.toInt < (zI h a 2).toInt → z5392 (10 + p)
def ziok (s : Int32) : Prop := z5392 s
def zisOf (h : zH) (a : Nat) (s k : Int32) : Bool := zin3 k 0 (zI h (a + 1) (zix s) - 1)
def zisP (h : zH) (a : Nat) (p : Int32) : Bool := zin3 p 0 (zof h a 3 - 1)
def zcel (h : zH) (a : Nat) : Int32 := zof h a 0 * zof h a 1
def zisC (h : zH) (a : Nat) (c : Int32) : Bool := zin3 c 0 (zcel h a - 1)
def zcar (h : zH) (a : Nat) (p : Int32) : Int32 := if p = zI h a 18 then zI h a 19 else ztold h a p 5
def zisK (h : zH) (a : Nat) (p : Int32) : Bool := !decide (zcar h a p = -1)
def zrok (h : zH) (a : Nat) : Prop := z5392 (zI h a 43)
def zsok (h : zH) (a : Nat) (k w : Int32) : Prop := z5392 (zI h a 43 + 1 + 5 * k + w)
def zcost (h : zH) (a : Nat) (i c : Int32) : Int32 := if c = -1 then 1000 else zget h (some (a + 2)) (i * 64 + c)
