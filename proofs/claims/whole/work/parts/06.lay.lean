/-! THE LAYOUT (by program): the cells of the class, the reference, the law's rows; what each of them is. -/
def shp0 (ad : Nat → Nat) (cy : Nat → ClassId) (m : Nat → Int32) : va_E := .inr (9, [.ref (ad 1), .ref (ad 9), .ref (ad 81), .ref (ad 83), .ref (ad 84), .ref (ad 113), .ref (ad 116), .ref (ad 122), .int (m 8), .int (m 9)])
def shp1 (ad : Nat → Nat) (cy : Nat → ClassId) (m : Nat → Int32) : va_E := .inr (4, [.ref (ad 2), .ref (ad 3), .ref (ad 4), .ref (ad 5), .ref (ad 6), .ref (ad 7), .ref (ad 8), .int (m 7), .int (m 8)])
def shp2 (ad : Nat → Nat) (cy : Nat → ClassId) (m : Nat → Int32) : va_E := .inl (cy 0, 10, .inl m)
def shp3 (ad : Nat → Nat) (cy : Nat → ClassId) (m : Nat → Int32) : va_E := .inl (cy 0, 10, .inl m)
def shp4 (ad : Nat → Nat) (cy : Nat → ClassId) (m : Nat → Int32) : va_E := .inl (cy 0, 20, .inl m)
def shp5 (ad : Nat → Nat) (cy : Nat → ClassId) (m : Nat → Int32) : va_E := .inl (cy 0, 20, .inl m)
def shp6 (ad : Nat → Nat) (cy : Nat → ClassId) (m : Nat → Int32) : va_E := .inl (cy 0, 20, .inl m)
def shp7 (ad : Nat → Nat) (cy : Nat → ClassId) (m : Nat → Int32) : va_E := .inl (cy 0, 20, .inl m)
def shp8 (ad : Nat → Nat) (cy : Nat → ClassId) (m : Nat → Int32) : va_E := .inl (cy 0, 10, .inl m)
def shp9 (ad : Nat → Nat) (cy : Nat → ClassId) (m : Nat → Int32) : va_E := .inr (4, [.ref (ad 10), .ref (ad 11), .ref (ad 12), .ref (ad 13), .ref (ad 14), .ref (ad 15), .ref (ad 16), .int (m 7), .int (m 8)])
def shp10 (ad : Nat → Nat) (cy : Nat → ClassId) (m : Nat → Int32) : va_E := .inl (cy 0, 10, .inl m)
def shp11 (ad : Nat → Nat) (cy : Nat → ClassId) (m : Nat → Int32) : va_E := .inl (cy 0, 10, .inl m)
def shp12 (ad : Nat → Nat) (cy : Nat → ClassId) (m : Nat → Int32) : va_E := .inl (cy 0, 20, .inl m)
def shp13 (ad : Nat → Nat) (cy : Nat → ClassId) (m : Nat → Int32) : va_E := .inl (cy 0, 20, .inl m)
def shp14 (ad : Nat → Nat) (cy : Nat → ClassId) (m : Nat → Int32) : va_E := .inl (cy 0, 20, .inl m)
def shp15 (ad : Nat → Nat) (cy : Nat → ClassId) (m : Nat → Int32) : va_E := .inl (cy 0, 20, .inl m)
def shp16 (ad : Nat → Nat) (cy : Nat → ClassId) (m : Nat → Int32) : va_E := .inl (cy 0, 10, .inl m)
def shp17 (ad : Nat → Nat) (cy : Nat → ClassId) (m : Nat → Int32) : va_E := .inr (4, [.ref (ad 18), .ref (ad 19), .ref (ad 20), .ref (ad 21), .ref (ad 22), .ref (ad 23), .ref (ad 24), .int (m 7), .int (m 8)])
def shp18 (ad : Nat → Nat) (cy : Nat → ClassId) (m : Nat → Int32) : va_E := .inl (cy 0, 10, .inl m)
def shp19 (ad : Nat → Nat) (cy : Nat → ClassId) (m : Nat → Int32) : va_E := .inl (cy 0, 10, .inl m)
def shp20 (ad : Nat → Nat) (cy : Nat → ClassId) (m : Nat → Int32) : va_E := .inl (cy 0, 20, .inl m)
def shp21 (ad : Nat → Nat) (cy : Nat → ClassId) (m : Nat → Int32) : va_E := .inl (cy 0, 20, .inl m)
def shp22 (ad : Nat → Nat) (cy : Nat → ClassId) (m : Nat → Int32) : va_E := .inl (cy 0, 20, .inl m)
def shp23 (ad : Nat → Nat) (cy : Nat → ClassId) (m : Nat → Int32) : va_E := .inl (cy 0, 20, .inl m)
def shp24 (ad : Nat → Nat) (cy : Nat → ClassId) (m : Nat → Int32) : va_E := .inl (cy 0, 10, .inl m)
def shp25 (ad : Nat → Nat) (cy : Nat → ClassId) (m : Nat → Int32) : va_E := .inr (4, [.ref (ad 26), .ref (ad 27), .ref (ad 28), .ref (ad 29), .ref (ad 30), .ref (ad 31), .ref (ad 32), .int (m 7), .int (m 8)])
def shp26 (ad : Nat → Nat) (cy : Nat → ClassId) (m : Nat → Int32) : va_E := .inl (cy 0, 10, .inl m)
def shp27 (ad : Nat → Nat) (cy : Nat → ClassId) (m : Nat → Int32) : va_E := .inl (cy 0, 10, .inl m)
def shp28 (ad : Nat → Nat) (cy : Nat → ClassId) (m : Nat → Int32) : va_E := .inl (cy 0, 20, .inl m)
def shp29 (ad : Nat → Nat) (cy : Nat → ClassId) (m : Nat → Int32) : va_E := .inl (cy 0, 20, .inl m)
def shp30 (ad : Nat → Nat) (cy : Nat → ClassId) (m : Nat → Int32) : va_E := .inl (cy 0, 20, .inl m)
def shp31 (ad : Nat → Nat) (cy : Nat → ClassId) (m : Nat → Int32) : va_E := .inl (cy 0, 20, .inl m)
def shp32 (ad : Nat → Nat) (cy : Nat → ClassId) (m : Nat → Int32) : va_E := .inl (cy 0, 10, .inl m)
def shp33 (ad : Nat → Nat) (cy : Nat → ClassId) (m : Nat → Int32) : va_E := .inr (4, [.ref (ad 34), .ref (ad 35), .ref (ad 36), .ref (ad 37), .ref (ad 38), .ref (ad 39), .ref (ad 40), .int (m 7), .int (m 8)])
def shp34 (ad : Nat → Nat) (cy : Nat → ClassId) (m : Nat → Int32) : va_E := .inl (cy 0, 10, .inl m)
def shp35 (ad : Nat → Nat) (cy : Nat → ClassId) (m : Nat → Int32) : va_E := .inl (cy 0, 10, .inl m)
def shp36 (ad : Nat → Nat) (cy : Nat → ClassId) (m : Nat → Int32) : va_E := .inl (cy 0, 20, .inl m)
def shp37 (ad : Nat → Nat) (cy : Nat → ClassId) (m : Nat → Int32) : va_E := .inl (cy 0, 20, .inl m)
def shp38 (ad : Nat → Nat) (cy : Nat → ClassId) (m : Nat → Int32) : va_E := .inl (cy 0, 20, .inl m)
def shp39 (ad : Nat → Nat) (cy : Nat → ClassId) (m : Nat → Int32) : va_E := .inl (cy 0, 20, .inl m)
def shp40 (ad : Nat → Nat) (cy : Nat → ClassId) (m : Nat → Int32) : va_E := .inl (cy 0, 10, .inl m)
def shp41 (ad : Nat → Nat) (cy : Nat → ClassId) (m : Nat → Int32) : va_E := .inr (4, [.ref (ad 42), .ref (ad 43), .ref (ad 44), .ref (ad 45), .ref (ad 46), .ref (ad 47), .ref (ad 48), .int (m 7), .int (m 8)])
def shp42 (ad : Nat → Nat) (cy : Nat → ClassId) (m : Nat → Int32) : va_E := .inl (cy 0, 10, .inl m)
def shp43 (ad : Nat → Nat) (cy : Nat → ClassId) (m : Nat → Int32) : va_E := .inl (cy 0, 10, .inl m)
def shp44 (ad : Nat → Nat) (cy : Nat → ClassId) (m : Nat → Int32) : va_E := .inl (cy 0, 20, .inl m)
def shp45 (ad : Nat → Nat) (cy : Nat → ClassId) (m : Nat → Int32) : va_E := .inl (cy 0, 20, .inl m)
def shp46 (ad : Nat → Nat) (cy : Nat → ClassId) (m : Nat → Int32) : va_E := .inl (cy 0, 20, .inl m)
def shp47 (ad : Nat → Nat) (cy : Nat → ClassId) (m : Nat → Int32) : va_E := .inl (cy 0, 20, .inl m)
def shp48 (ad : Nat → Nat) (cy : Nat → ClassId) (m : Nat → Int32) : va_E := .inl (cy 0, 10, .inl m)
def shp49 (ad : Nat → Nat) (cy : Nat → ClassId) (m : Nat → Int32) : va_E := .inr (4, [.ref (ad 50), .ref (ad 51), .ref (ad 52), .ref (ad 53), .ref (ad 54), .ref (ad 55), .ref (ad 56), .int (m 7), .int (m 8)])
def shp50 (ad : Nat → Nat) (cy : Nat → ClassId) (m : Nat → Int32) : va_E := .inl (cy 0, 10, .inl m)
def shp51 (ad : Nat → Nat) (cy : Nat → ClassId) (m : Nat → Int32) : va_E := .inl (cy 0, 10, .inl m)
def shp52 (ad : Nat → Nat) (cy : Nat → ClassId) (m : Nat → Int32) : va_E := .inl (cy 0, 20, .inl m)
def shp53 (ad : Nat → Nat) (cy : Nat → ClassId) (m : Nat → Int32) : va_E := .inl (cy 0, 20, .inl m)
def shp54 (ad : Nat → Nat) (cy : Nat → ClassId) (m : Nat → Int32) : va_E := .inl (cy 0, 20, .inl m)
def shp55 (ad : Nat → Nat) (cy : Nat → ClassId) (m : Nat → Int32) : va_E := .inl (cy 0, 20, .inl m)
def shp56 (ad : Nat → Nat) (cy : Nat → ClassId) (m : Nat → Int32) : va_E := .inl (cy 0, 10, .inl m)
def shp57 (ad : Nat → Nat) (cy : Nat → ClassId) (m : Nat → Int32) : va_E := .inr (4, [.ref (ad 58), .ref (ad 59), .ref (ad 60), .ref (ad 61), .ref (ad 62), .ref (ad 63), .ref (ad 64), .int (m 7), .int (m 8)])
def shp58 (ad : Nat → Nat) (cy : Nat → ClassId) (m : Nat → Int32) : va_E := .inl (cy 0, 10, .inl m)
def shp59 (ad : Nat → Nat) (cy : Nat → ClassId) (m : Nat → Int32) : va_E := .inl (cy 0, 10, .inl m)
def shp60 (ad : Nat → Nat) (cy : Nat → ClassId) (m : Nat → Int32) : va_E := .inl (cy 0, 20, .inl m)
def shp61 (ad : Nat → Nat) (cy : Nat → ClassId) (m : Nat → Int32) : va_E := .inl (cy 0, 20, .inl m)
def shp62 (ad : Nat → Nat) (cy : Nat → ClassId) (m : Nat → Int32) : va_E := .inl (cy 0, 20, .inl m)
def shp63 (ad : Nat → Nat) (cy : Nat → ClassId) (m : Nat → Int32) : va_E := .inl (cy 0, 20, .inl m)
def shp64 (ad : Nat → Nat) (cy : Nat → ClassId) (m : Nat → Int32) : va_E := .inl (cy 0, 10, .inl m)
def shp65 (ad : Nat → Nat) (cy : Nat → ClassId) (m : Nat → Int32) : va_E := .inr (4, [.ref (ad 66), .ref (ad 67), .ref (ad 68), .ref (ad 69), .ref (ad 70), .ref (ad 71), .ref (ad 72), .int (m 7), .int (m 8)])
def shp66 (ad : Nat → Nat) (cy : Nat → ClassId) (m : Nat → Int32) : va_E := .inl (cy 0, 10, .inl m)
def shp67 (ad : Nat → Nat) (cy : Nat → ClassId) (m : Nat → Int32) : va_E := .inl (cy 0, 10, .inl m)
def shp68 (ad : Nat → Nat) (cy : Nat → ClassId) (m : Nat → Int32) : va_E := .inl (cy 0, 20, .inl m)
def shp69 (ad : Nat → Nat) (cy : Nat → ClassId) (m : Nat → Int32) : va_E := .inl (cy 0, 20, .inl m)
def shp70 (ad : Nat → Nat) (cy : Nat → ClassId) (m : Nat → Int32) : va_E := .inl (cy 0, 20, .inl m)
def shp71 (ad : Nat → Nat) (cy : Nat → ClassId) (m : Nat → Int32) : va_E := .inl (cy 0, 20, .inl m)
def shp72 (ad : Nat → Nat) (cy : Nat → ClassId) (m : Nat → Int32) : va_E := .inl (cy 0, 10, .inl m)
def shp73 (ad : Nat → Nat) (cy : Nat → ClassId) (m : Nat → Int32) : va_E := .inr (4, [.ref (ad 74), .ref (ad 75), .ref (ad 76), .ref (ad 77), .ref (ad 78), .ref (ad 79), .ref (ad 80), .int (m 7), .int (m 8)])
def shp74 (ad : Nat → Nat) (cy : Nat → ClassId) (m : Nat → Int32) : va_E := .inl (cy 0, 10, .inl m)
def shp75 (ad : Nat → Nat) (cy : Nat → ClassId) (m : Nat → Int32) : va_E := .inl (cy 0, 10, .inl m)
def shp76 (ad : Nat → Nat) (cy : Nat → ClassId) (m : Nat → Int32) : va_E := .inl (cy 0, 20, .inl m)
def shp77 (ad : Nat → Nat) (cy : Nat → ClassId) (m : Nat → Int32) : va_E := .inl (cy 0, 20, .inl m)
def shp78 (ad : Nat → Nat) (cy : Nat → ClassId) (m : Nat → Int32) : va_E := .inl (cy 0, 20, .inl m)
def shp79 (ad : Nat → Nat) (cy : Nat → ClassId) (m : Nat → Int32) : va_E := .inl (cy 0, 20, .inl m)
def shp80 (ad : Nat → Nat) (cy : Nat → ClassId) (m : Nat → Int32) : va_E := .inl (cy 0, 10, .inl m)
def shp81 (ad : Nat → Nat) (cy : Nat → ClassId) (m : Nat → Int32) : va_E := .inr (1, [.ref (ad 82), .int (m 1), .int (m 2)])
def shp82 (ad : Nat → Nat) (cy : Nat → ClassId) (m : Nat → Int32) : va_E := .inl (cy 4, 8, .inr (.inr (.inr (.inr (fun k => some (ad (17 + 8 * k)))))))
def shp83 (ad : Nat → Nat) (cy : Nat → ClassId) (m : Nat → Int32) : va_E := .inr (5, [.int (m 0), .int (m 1), .int (m 2), .int (m 3)])
def shp84 (ad : Nat → Nat) (cy : Nat → ClassId) (m : Nat → Int32) : va_E := .inr (8, [.ref (ad 85), .ref (ad 86), .ref (ad 87), .ref (ad 98), .ref (ad 104), .int (m 5), .int (m 6), .int (m 7), .int (m 8), .int (m 9)])
def shp85 (ad : Nat → Nat) (cy : Nat → ClassId) (m : Nat → Int32) : va_E := .inl (cy 0, 10, .inl m)
def shp86 (ad : Nat → Nat) (cy : Nat → ClassId) (m : Nat → Int32) : va_E := .inl (cy 0, 10, .inl m)
def shp87 (ad : Nat → Nat) (cy : Nat → ClassId) (m : Nat → Int32) : va_E := .inl (cy 3, 10, .inr (.inr (.inr (.inr (fun k => some (ad (88 + 1 * k)))))))
def shp88 (ad : Nat → Nat) (cy : Nat → ClassId) (m : Nat → Int32) : va_E := .inl (cy 0, 8, .inl m)
def shp89 (ad : Nat → Nat) (cy : Nat → ClassId) (m : Nat → Int32) : va_E := .inl (cy 0, 8, .inl m)
def shp90 (ad : Nat → Nat) (cy : Nat → ClassId) (m : Nat → Int32) : va_E := .inl (cy 0, 8, .inl m)
def shp91 (ad : Nat → Nat) (cy : Nat → ClassId) (m : Nat → Int32) : va_E := .inl (cy 0, 8, .inl m)
def shp92 (ad : Nat → Nat) (cy : Nat → ClassId) (m : Nat → Int32) : va_E := .inl (cy 0, 8, .inl m)
def shp93 (ad : Nat → Nat) (cy : Nat → ClassId) (m : Nat → Int32) : va_E := .inl (cy 0, 8, .inl m)
def shp94 (ad : Nat → Nat) (cy : Nat → ClassId) (m : Nat → Int32) : va_E := .inl (cy 0, 8, .inl m)
def shp95 (ad : Nat → Nat) (cy : Nat → ClassId) (m : Nat → Int32) : va_E := .inl (cy 0, 8, .inl m)
def shp96 (ad : Nat → Nat) (cy : Nat → ClassId) (m : Nat → Int32) : va_E := .inl (cy 0, 8, .inl m)
def shp97 (ad : Nat → Nat) (cy : Nat → ClassId) (m : Nat → Int32) : va_E := .inl (cy 0, 8, .inl m)
def shp98 (ad : Nat → Nat) (cy : Nat → ClassId) (m : Nat → Int32) : va_E := .inr (3, [.ref (ad 99), .int (m 1)])
def shp99 (ad : Nat → Nat) (cy : Nat → ClassId) (m : Nat → Int32) : va_E := .inl (cy 3, 4, .inr (.inr (.inr (.inr (fun k => some (ad (100 + 1 * k)))))))
def shp100 (ad : Nat → Nat) (cy : Nat → ClassId) (m : Nat → Int32) : va_E := .inl (cy 0, 375, .inl m)
def shp101 (ad : Nat → Nat) (cy : Nat → ClassId) (m : Nat → Int32) : va_E := .inl (cy 0, 375, .inl m)
def shp102 (ad : Nat → Nat) (cy : Nat → ClassId) (m : Nat → Int32) : va_E := .inl (cy 0, 375, .inl m)
def shp103 (ad : Nat → Nat) (cy : Nat → ClassId) (m : Nat → Int32) : va_E := .inl (cy 0, 375, .inl m)
def shp104 (ad : Nat → Nat) (cy : Nat → ClassId) (m : Nat → Int32) : va_E := .inr (6, [.ref (ad 105), .int (m 1), .int (m 2)])
def shp105 (ad : Nat → Nat) (cy : Nat → ClassId) (m : Nat → Int32) : va_E := .inl (cy 3, 7, .inr (.inr (.inr (.inr (fun k => some (ad (106 + 1 * k)))))))
def shp106 (ad : Nat → Nat) (cy : Nat → ClassId) (m : Nat → Int32) : va_E := .inl (cy 0, 40, .inl m)
def shp107 (ad : Nat → Nat) (cy : Nat → ClassId) (m : Nat → Int32) : va_E := .inl (cy 0, 40, .inl m)
def shp108 (ad : Nat → Nat) (cy : Nat → ClassId) (m : Nat → Int32) : va_E := .inl (cy 0, 40, .inl m)
def shp109 (ad : Nat → Nat) (cy : Nat → ClassId) (m : Nat → Int32) : va_E := .inl (cy 0, 40, .inl m)
def shp110 (ad : Nat → Nat) (cy : Nat → ClassId) (m : Nat → Int32) : va_E := .inl (cy 0, 40, .inl m)
def shp111 (ad : Nat → Nat) (cy : Nat → ClassId) (m : Nat → Int32) : va_E := .inl (cy 0, 40, .inl m)
def shp112 (ad : Nat → Nat) (cy : Nat → ClassId) (m : Nat → Int32) : va_E := .inl (cy 0, 40, .inl m)
def shp113 (ad : Nat → Nat) (cy : Nat → ClassId) (m : Nat → Int32) : va_E := .inr (7, [.ref (ad 114), .ref (ad 115), .int (m 2), .int (m 3), .int (m 4), .int (m 5), .int (m 6)])
def shp114 (ad : Nat → Nat) (cy : Nat → ClassId) (m : Nat → Int32) : va_E := .inl (cy 0, 10, .inl m)
def shp115 (ad : Nat → Nat) (cy : Nat → ClassId) (m : Nat → Int32) : va_E := .inl (cy 0, 10, .inl m)
def shp116 (ad : Nat → Nat) (cy : Nat → ClassId) (m : Nat → Int32) : va_E := .inr (2, [.ref (ad 117), .int (m 1), .int (m 2), .ref (ad 118), .ref (ad 119), .ref (ad 120), .ref (ad 121), .int (m 7)])
def shp117 (ad : Nat → Nat) (cy : Nat → ClassId) (m : Nat → Int32) : va_E := .inl (cy 1, 60, .inl m)
def shp118 (ad : Nat → Nat) (cy : Nat → ClassId) (m : Nat → Int32) : va_E := .inl (cy 0, 20, .inl m)
def shp119 (ad : Nat → Nat) (cy : Nat → ClassId) (m : Nat → Int32) : va_E := .inl (cy 0, 20, .inl m)
def shp120 (ad : Nat → Nat) (cy : Nat → ClassId) (m : Nat → Int32) : va_E := .inl (cy 0, 20, .inl m)
def shp121 (ad : Nat → Nat) (cy : Nat → ClassId) (m : Nat → Int32) : va_E := .inl (cy 0, 20, .inl m)
def shp122 (ad : Nat → Nat) (cy : Nat → ClassId) (m : Nat → Int32) : va_E := .inr (0, [.ref (ad 123), .int (m 1)])
def shp123 (ad : Nat → Nat) (cy : Nat → ClassId) (m : Nat → Int32) : va_E := .inl (cy 1, 18, .inl m)
def shp124 (ad : Nat → Nat) (cy : Nat → ClassId) (m : Nat → Int32) : va_E := .inr (10, [.int (m 0), .ref (ad 125), .ref (ad 126), .ref (ad 127), .ref (ad 128), .ref (ad 129), .ref (ad 130), .int (m 7), .int (m 8), .ref (ad 131), .ref (ad 132), .ref (ad 133), .ref (ad 134), .int (m 13), .int (m 14), .int (m 15), .int (m 16), .int (m 17), .int (m 18), .int (m 19), .int (m 20), .int (m 21), .int (m 22), .int (m 23), .ref (ad 135), .ref (ad 136), .ref (ad 137), .ref (ad 138), .int (m 28), .int (m 29), .int (m 30), .int (m 31), .ref (ad 139), .ref (ad 140), .ref (ad 141), .ref (ad 142), .ref (ad 143), .ref (ad 144), .ref (ad 145), .int (m 39), .ref (ad 146), .ref (ad 147), .int (m 42), .int (m 43), .int (m 44), .int (m 45), .ref (ad 148), .ref (ad 149), .ref (ad 150), .ref (ad 151), .ref (ad 152), .ref (ad 153), .int (m 52), .int (m 53), .int (m 54), .int (m 55), .ref (ad 154), .int (m 57)])
def shp125 (ad : Nat → Nat) (cy : Nat → ClassId) (m : Nat → Int32) : va_E := .inl (cy 0, 10, .inl m)
def shp126 (ad : Nat → Nat) (cy : Nat → ClassId) (m : Nat → Int32) : va_E := .inl (cy 0, 10, .inl m)
def shp127 (ad : Nat → Nat) (cy : Nat → ClassId) (m : Nat → Int32) : va_E := .inl (cy 0, 20, .inl m)
def shp128 (ad : Nat → Nat) (cy : Nat → ClassId) (m : Nat → Int32) : va_E := .inl (cy 0, 20, .inl m)
def shp129 (ad : Nat → Nat) (cy : Nat → ClassId) (m : Nat → Int32) : va_E := .inl (cy 0, 20, .inl m)
def shp130 (ad : Nat → Nat) (cy : Nat → ClassId) (m : Nat → Int32) : va_E := .inl (cy 0, 20, .inl m)
def shp131 (ad : Nat → Nat) (cy : Nat → ClassId) (m : Nat → Int32) : va_E := .inl (cy 0, 8, .inl m)
def shp132 (ad : Nat → Nat) (cy : Nat → ClassId) (m : Nat → Int32) : va_E := .inl (cy 0, 10, .inl m)
def shp133 (ad : Nat → Nat) (cy : Nat → ClassId) (m : Nat → Int32) : va_E := .inl (cy 0, 80, .inl m)
def shp134 (ad : Nat → Nat) (cy : Nat → ClassId) (m : Nat → Int32) : va_E := .inl (cy 0, 280, .inl m)
def shp135 (ad : Nat → Nat) (cy : Nat → ClassId) (m : Nat → Int32) : va_E := .inl (cy 0, 832, .inl m)
def shp136 (ad : Nat → Nat) (cy : Nat → ClassId) (m : Nat → Int32) : va_E := .inl (cy 0, 104, .inl m)
def shp137 (ad : Nat → Nat) (cy : Nat → ClassId) (m : Nat → Int32) : va_E := .inl (cy 0, 104, .inl m)
def shp138 (ad : Nat → Nat) (cy : Nat → ClassId) (m : Nat → Int32) : va_E := .inl (cy 0, 104, .inl m)
def shp139 (ad : Nat → Nat) (cy : Nat → ClassId) (m : Nat → Int32) : va_E := .inl (cy 0, 400, .inl m)
def shp140 (ad : Nat → Nat) (cy : Nat → ClassId) (m : Nat → Int32) : va_E := .inl (cy 0, 400, .inl m)
def shp141 (ad : Nat → Nat) (cy : Nat → ClassId) (m : Nat → Int32) : va_E := .inl (cy 0, 400, .inl m)
def shp142 (ad : Nat → Nat) (cy : Nat → ClassId) (m : Nat → Int32) : va_E := .inl (cy 0, 400, .inl m)
def shp143 (ad : Nat → Nat) (cy : Nat → ClassId) (m : Nat → Int32) : va_E := .inl (cy 0, 400, .inl m)
def shp144 (ad : Nat → Nat) (cy : Nat → ClassId) (m : Nat → Int32) : va_E := .inl (cy 0, 10, .inl m)
def shp145 (ad : Nat → Nat) (cy : Nat → ClassId) (m : Nat → Int32) : va_E := .inl (cy 2, 400, .inl m)
def shp146 (ad : Nat → Nat) (cy : Nat → ClassId) (m : Nat → Int32) : va_E := .inl (cy 0, 10, .inl m)
def shp147 (ad : Nat → Nat) (cy : Nat → ClassId) (m : Nat → Int32) : va_E := .inl (cy 0, 10, .inl m)
def shp148 (ad : Nat → Nat) (cy : Nat → ClassId) (m : Nat → Int32) : va_E := .inl (cy 0, 60, .inl m)
def shp149 (ad : Nat → Nat) (cy : Nat → ClassId) (m : Nat → Int32) : va_E := .inl (cy 0, 30, .inl m)
def shp150 (ad : Nat → Nat) (cy : Nat → ClassId) (m : Nat → Int32) : va_E := .inl (cy 0, 30, .inl m)
def shp151 (ad : Nat → Nat) (cy : Nat → ClassId) (m : Nat → Int32) : va_E := .inl (cy 0, 30, .inl m)
def shp152 (ad : Nat → Nat) (cy : Nat → ClassId) (m : Nat → Int32) : va_E := .inl (cy 0, 30, .inl m)
def shp153 (ad : Nat → Nat) (cy : Nat → ClassId) (m : Nat → Int32) : va_E := .inl (cy 0, 30, .inl m)
def shp154 (ad : Nat → Nat) (cy : Nat → ClassId) (m : Nat → Int32) : va_E := .inl (cy 0, 24, .inl m)
def shp155 (ad : Nat → Nat) (cy : Nat → ClassId) (m : Nat → Int32) : va_E := .inl (cy 5, 1, .inr (.inl (fun k => if k = 0 then (m 0).toInt64 else 0)))
def shp156 (ad : Nat → Nat) (cy : Nat → ClassId) (m : Nat → Int32) : va_E := .inl (cy 6, 1, .inr (.inr (.inr (.inl (fun k => if k = 0 then UInt64.ofNat ((m 0).toUInt32.toNat + 4294967296 * (m 1).toUInt32.toNat) else 0)))))
def shL : List ((Nat → Nat) → (Nat → ClassId) → (Nat → Int32) → va_E) := [shp0, shp1, shp2, shp3, shp4, shp5, shp6, shp7, shp8, shp9, shp10, shp11, shp12, shp13, shp14, shp15, shp16, shp17, shp18, shp19, shp20, shp21, shp22, shp23, shp24, shp25, shp26, shp27, shp28, shp29, shp30, shp31, shp32, shp33, shp34, shp35, shp36, shp37, shp38, shp39, shp40, shp41, shp42, shp43, shp44, shp45, shp46, shp47, shp48, shp49, shp50, shp51, shp52, shp53, shp54, shp55, shp56, shp57, shp58, shp59, shp60, shp61, shp62, shp63, shp64, shp65, shp66, shp67, shp68, shp69, shp70, shp71, shp72, shp73, shp74, shp75, shp76, shp77, shp78, shp79, shp80, shp81, shp82, shp83, shp84, shp85, shp86, shp87, shp88, shp89, shp90, shp91, shp92, shp93, shp94, shp95, shp96, shp97, shp98, shp99, shp100, shp101, shp102, shp103, shp104, shp105, shp106, shp107, shp108, shp109, shp110, shp111, shp112, shp113, shp114, shp115, shp116, shp117, shp118, shp119, shp120, shp121, shp122, shp123, shp124, shp125, shp126, shp127, shp128, shp129, shp130, shp131, shp132, shp133, shp134, shp135, shp136, shp137, shp138, shp139, shp140, shp141, shp142, shp143, shp144, shp145, shp146, shp147, shp148, shp149, shp150, shp151, shp152, shp153, shp154, shp155, shp156]
def sh (ad : Nat → Nat) (cy : Nat → ClassId) (c : Nat) (m : Nat → Int32) : va_E := shL.getD c shp0 ad cy m
abbrev NC : Nat := 157
theorem sh_0 (ad : Nat → Nat) (cy : Nat → ClassId) (m : Nat → Int32) : sh ad cy 0 m = .inr (9, [.ref (ad 1), .ref (ad 9), .ref (ad 81), .ref (ad 83), .ref (ad 84), .ref (ad 113), .ref (ad 116), .ref (ad 122), .int (m 8), .int (m 9)]) := rfl
theorem sh_1 (ad : Nat → Nat) (cy : Nat → ClassId) (m : Nat → Int32) : sh ad cy 1 m = .inr (4, [.ref (ad 2), .ref (ad 3), .ref (ad 4), .ref (ad 5), .ref (ad 6), .ref (ad 7), .ref (ad 8), .int (m 7), .int (m 8)]) := rfl
theorem sh_2 (ad : Nat → Nat) (cy : Nat → ClassId) (m : Nat → Int32) : sh ad cy 2 m = .inl (cy 0, 10, .inl m) := rfl
theorem sh_3 (ad : Nat → Nat) (cy : Nat → ClassId) (m : Nat → Int32) : sh ad cy 3 m = .inl (cy 0, 10, .inl m) := rfl
theorem sh_4 (ad : Nat → Nat) (cy : Nat → ClassId) (m : Nat → Int32) : sh ad cy 4 m = .inl (cy 0, 20, .inl m) := rfl
theorem sh_5 (ad : Nat → Nat) (cy : Nat → ClassId) (m : Nat → Int32) : sh ad cy 5 m = .inl (cy 0, 20, .inl m) := rfl
theorem sh_6 (ad : Nat → Nat) (cy : Nat → ClassId) (m : Nat → Int32) : sh ad cy 6 m = .inl (cy 0, 20, .inl m) := rfl
theorem sh_7 (ad : Nat → Nat) (cy : Nat → ClassId) (m : Nat → Int32) : sh ad cy 7 m = .inl (cy 0, 20, .inl m) := rfl
theorem sh_8 (ad : Nat → Nat) (cy : Nat → ClassId) (m : Nat → Int32) : sh ad cy 8 m = .inl (cy 0, 10, .inl m) := rfl
theorem sh_9 (ad : Nat → Nat) (cy : Nat → ClassId) (m : Nat → Int32) : sh ad cy 9 m = .inr (4, [.ref (ad 10), .ref (ad 11), .ref (ad 12), .ref (ad 13), .ref (ad 14), .ref (ad 15), .ref (ad 16), .int (m 7), .int (m 8)]) := rfl
theorem sh_10 (ad : Nat → Nat) (cy : Nat → ClassId) (m : Nat → Int32) : sh ad cy 10 m = .inl (cy 0, 10, .inl m) := rfl
theorem sh_11 (ad : Nat → Nat) (cy : Nat → ClassId) (m : Nat → Int32) : sh ad cy 11 m = .inl (cy 0, 10, .inl m) := rfl
theorem sh_12 (ad : Nat → Nat) (cy : Nat → ClassId) (m : Nat → Int32) : sh ad cy 12 m = .inl (cy 0, 20, .inl m) := rfl
theorem sh_13 (ad : Nat → Nat) (cy : Nat → ClassId) (m : Nat → Int32) : sh ad cy 13 m = .inl (cy 0, 20, .inl m) := rfl
theorem sh_14 (ad : Nat → Nat) (cy : Nat → ClassId) (m : Nat → Int32) : sh ad cy 14 m = .inl (cy 0, 20, .inl m) := rfl
theorem sh_15 (ad : Nat → Nat) (cy : Nat → ClassId) (m : Nat → Int32) : sh ad cy 15 m = .inl (cy 0, 20, .inl m) := rfl
theorem sh_16 (ad : Nat → Nat) (cy : Nat → ClassId) (m : Nat → Int32) : sh ad cy 16 m = .inl (cy 0, 10, .inl m) := rfl
theorem sh_17 (ad : Nat → Nat) (cy : Nat → ClassId) (m : Nat → Int32) : sh ad cy 17 m = .inr (4, [.ref (ad 18), .ref (ad 19), .ref (ad 20), .ref (ad 21), .ref (ad 22), .ref (ad 23), .ref (ad 24), .int (m 7), .int (m 8)]) := rfl
theorem sh_18 (ad : Nat → Nat) (cy : Nat → ClassId) (m : Nat → Int32) : sh ad cy 18 m = .inl (cy 0, 10, .inl m) := rfl
theorem sh_19 (ad : Nat → Nat) (cy : Nat → ClassId) (m : Nat → Int32) : sh ad cy 19 m = .inl (cy 0, 10, .inl m) := rfl
theorem sh_20 (ad : Nat → Nat) (cy : Nat → ClassId) (m : Nat → Int32) : sh ad cy 20 m = .inl (cy 0, 20, .inl m) := rfl
theorem sh_21 (ad : Nat → Nat) (cy : Nat → ClassId) (m : Nat → Int32) : sh ad cy 21 m = .inl (cy 0, 20, .inl m) := rfl
theorem sh_22 (ad : Nat → Nat) (cy : Nat → ClassId) (m : Nat → Int32) : sh ad cy 22 m = .inl (cy 0, 20, .inl m) := rfl
theorem sh_23 (ad : Nat → Nat) (cy : Nat → ClassId) (m : Nat → Int32) : sh ad cy 23 m = .inl (cy 0, 20, .inl m) := rfl
theorem sh_24 (ad : Nat → Nat) (cy : Nat → ClassId) (m : Nat → Int32) : sh ad cy 24 m = .inl (cy 0, 10, .inl m) := rfl
theorem sh_25 (ad : Nat → Nat) (cy : Nat → ClassId) (m : Nat → Int32) : sh ad cy 25 m = .inr (4, [.ref (ad 26), .ref (ad 27), .ref (ad 28), .ref (ad 29), .ref (ad 30), .ref (ad 31), .ref (ad 32), .int (m 7), .int (m 8)]) := rfl
theorem sh_26 (ad : Nat → Nat) (cy : Nat → ClassId) (m : Nat → Int32) : sh ad cy 26 m = .inl (cy 0, 10, .inl m) := rfl
theorem sh_27 (ad : Nat → Nat) (cy : Nat → ClassId) (m : Nat → Int32) : sh ad cy 27 m = .inl (cy 0, 10, .inl m) := rfl
theorem sh_28 (ad : Nat → Nat) (cy : Nat → ClassId) (m : Nat → Int32) : sh ad cy 28 m = .inl (cy 0, 20, .inl m) := rfl
theorem sh_29 (ad : Nat → Nat) (cy : Nat → ClassId) (m : Nat → Int32) : sh ad cy 29 m = .inl (cy 0, 20, .inl m) := rfl
theorem sh_30 (ad : Nat → Nat) (cy : Nat → ClassId) (m : Nat → Int32) : sh ad cy 30 m = .inl (cy 0, 20, .inl m) := rfl
theorem sh_31 (ad : Nat → Nat) (cy : Nat → ClassId) (m : Nat → Int32) : sh ad cy 31 m = .inl (cy 0, 20, .inl m) := rfl
theorem sh_32 (ad : Nat → Nat) (cy : Nat → ClassId) (m : Nat → Int32) : sh ad cy 32 m = .inl (cy 0, 10, .inl m) := rfl
theorem sh_33 (ad : Nat → Nat) (cy : Nat → ClassId) (m : Nat → Int32) : sh ad cy 33 m = .inr (4, [.ref (ad 34), .ref (ad 35), .ref (ad 36), .ref (ad 37), .ref (ad 38), .ref (ad 39), .ref (ad 40), .int (m 7), .int (m 8)]) := rfl
theorem sh_34 (ad : Nat → Nat) (cy : Nat → ClassId) (m : Nat → Int32) : sh ad cy 34 m = .inl (cy 0, 10, .inl m) := rfl
theorem sh_35 (ad : Nat → Nat) (cy : Nat → ClassId) (m : Nat → Int32) : sh ad cy 35 m = .inl (cy 0, 10, .inl m) := rfl
theorem sh_36 (ad : Nat → Nat) (cy : Nat → ClassId) (m : Nat → Int32) : sh ad cy 36 m = .inl (cy 0, 20, .inl m) := rfl
theorem sh_37 (ad : Nat → Nat) (cy : Nat → ClassId) (m : Nat → Int32) : sh ad cy 37 m = .inl (cy 0, 20, .inl m) := rfl
theorem sh_38 (ad : Nat → Nat) (cy : Nat → ClassId) (m : Nat → Int32) : sh ad cy 38 m = .inl (cy 0, 20, .inl m) := rfl
theorem sh_39 (ad : Nat → Nat) (cy : Nat → ClassId) (m : Nat → Int32) : sh ad cy 39 m = .inl (cy 0, 20, .inl m) := rfl
theorem sh_40 (ad : Nat → Nat) (cy : Nat → ClassId) (m : Nat → Int32) : sh ad cy 40 m = .inl (cy 0, 10, .inl m) := rfl
theorem sh_41 (ad : Nat → Nat) (cy : Nat → ClassId) (m : Nat → Int32) : sh ad cy 41 m = .inr (4, [.ref (ad 42), .ref (ad 43), .ref (ad 44), .ref (ad 45), .ref (ad 46), .ref (ad 47), .ref (ad 48), .int (m 7), .int (m 8)]) := rfl
theorem sh_42 (ad : Nat → Nat) (cy : Nat → ClassId) (m : Nat → Int32) : sh ad cy 42 m = .inl (cy 0, 10, .inl m) := rfl
theorem sh_43 (ad : Nat → Nat) (cy : Nat → ClassId) (m : Nat → Int32) : sh ad cy 43 m = .inl (cy 0, 10, .inl m) := rfl
theorem sh_44 (ad : Nat → Nat) (cy : Nat → ClassId) (m : Nat → Int32) : sh ad cy 44 m = .inl (cy 0, 20, .inl m) := rfl
theorem sh_45 (ad : Nat → Nat) (cy : Nat → ClassId) (m : Nat → Int32) : sh ad cy 45 m = .inl (cy 0, 20, .inl m) := rfl
theorem sh_46 (ad : Nat → Nat) (cy : Nat → ClassId) (m : Nat → Int32) : sh ad cy 46 m = .inl (cy 0, 20, .inl m) := rfl
theorem sh_47 (ad : Nat → Nat) (cy : Nat → ClassId) (m : Nat → Int32) : sh ad cy 47 m = .inl (cy 0, 20, .inl m) := rfl
theorem sh_48 (ad : Nat → Nat) (cy : Nat → ClassId) (m : Nat → Int32) : sh ad cy 48 m = .inl (cy 0, 10, .inl m) := rfl
theorem sh_49 (ad : Nat → Nat) (cy : Nat → ClassId) (m : Nat → Int32) : sh ad cy 49 m = .inr (4, [.ref (ad 50), .ref (ad 51), .ref (ad 52), .ref (ad 53), .ref (ad 54), .ref (ad 55), .ref (ad 56), .int (m 7), .int (m 8)]) := rfl
theorem sh_50 (ad : Nat → Nat) (cy : Nat → ClassId) (m : Nat → Int32) : sh ad cy 50 m = .inl (cy 0, 10, .inl m) := rfl
theorem sh_51 (ad : Nat → Nat) (cy : Nat → ClassId) (m : Nat → Int32) : sh ad cy 51 m = .inl (cy 0, 10, .inl m) := rfl
theorem sh_52 (ad : Nat → Nat) (cy : Nat → ClassId) (m : Nat → Int32) : sh ad cy 52 m = .inl (cy 0, 20, .inl m) := rfl
theorem sh_53 (ad : Nat → Nat) (cy : Nat → ClassId) (m : Nat → Int32) : sh ad cy 53 m = .inl (cy 0, 20, .inl m) := rfl
theorem sh_54 (ad : Nat → Nat) (cy : Nat → ClassId) (m : Nat → Int32) : sh ad cy 54 m = .inl (cy 0, 20, .inl m) := rfl
theorem sh_55 (ad : Nat → Nat) (cy : Nat → ClassId) (m : Nat → Int32) : sh ad cy 55 m = .inl (cy 0, 20, .inl m) := rfl
theorem sh_56 (ad : Nat → Nat) (cy : Nat → ClassId) (m : Nat → Int32) : sh ad cy 56 m = .inl (cy 0, 10, .inl m) := rfl
theorem sh_57 (ad : Nat → Nat) (cy : Nat → ClassId) (m : Nat → Int32) : sh ad cy 57 m = .inr (4, [.ref (ad 58), .ref (ad 59), .ref (ad 60), .ref (ad 61), .ref (ad 62), .ref (ad 63), .ref (ad 64), .int (m 7), .int (m 8)]) := rfl
theorem sh_58 (ad : Nat → Nat) (cy : Nat → ClassId) (m : Nat → Int32) : sh ad cy 58 m = .inl (cy 0, 10, .inl m) := rfl
theorem sh_59 (ad : Nat → Nat) (cy : Nat → ClassId) (m : Nat → Int32) : sh ad cy 59 m = .inl (cy 0, 10, .inl m) := rfl
theorem sh_60 (ad : Nat → Nat) (cy : Nat → ClassId) (m : Nat → Int32) : sh ad cy 60 m = .inl (cy 0, 20, .inl m) := rfl
theorem sh_61 (ad : Nat → Nat) (cy : Nat → ClassId) (m : Nat → Int32) : sh ad cy 61 m = .inl (cy 0, 20, .inl m) := rfl
theorem sh_62 (ad : Nat → Nat) (cy : Nat → ClassId) (m : Nat → Int32) : sh ad cy 62 m = .inl (cy 0, 20, .inl m) := rfl
theorem sh_63 (ad : Nat → Nat) (cy : Nat → ClassId) (m : Nat → Int32) : sh ad cy 63 m = .inl (cy 0, 20, .inl m) := rfl
theorem sh_64 (ad : Nat → Nat) (cy : Nat → ClassId) (m : Nat → Int32) : sh ad cy 64 m = .inl (cy 0, 10, .inl m) := rfl
theorem sh_65 (ad : Nat → Nat) (cy : Nat → ClassId) (m : Nat → Int32) : sh ad cy 65 m = .inr (4, [.ref (ad 66), .ref (ad 67), .ref (ad 68), .ref (ad 69), .ref (ad 70), .ref (ad 71), .ref (ad 72), .int (m 7), .int (m 8)]) := rfl
theorem sh_66 (ad : Nat → Nat) (cy : Nat → ClassId) (m : Nat → Int32) : sh ad cy 66 m = .inl (cy 0, 10, .inl m) := rfl
theorem sh_67 (ad : Nat → Nat) (cy : Nat → ClassId) (m : Nat → Int32) : sh ad cy 67 m = .inl (cy 0, 10, .inl m) := rfl
theorem sh_68 (ad : Nat → Nat) (cy : Nat → ClassId) (m : Nat → Int32) : sh ad cy 68 m = .inl (cy 0, 20, .inl m) := rfl
theorem sh_69 (ad : Nat → Nat) (cy : Nat → ClassId) (m : Nat → Int32) : sh ad cy 69 m = .inl (cy 0, 20, .inl m) := rfl
theorem sh_70 (ad : Nat → Nat) (cy : Nat → ClassId) (m : Nat → Int32) : sh ad cy 70 m = .inl (cy 0, 20, .inl m) := rfl
theorem sh_71 (ad : Nat → Nat) (cy : Nat → ClassId) (m : Nat → Int32) : sh ad cy 71 m = .inl (cy 0, 20, .inl m) := rfl
theorem sh_72 (ad : Nat → Nat) (cy : Nat → ClassId) (m : Nat → Int32) : sh ad cy 72 m = .inl (cy 0, 10, .inl m) := rfl
theorem sh_73 (ad : Nat → Nat) (cy : Nat → ClassId) (m : Nat → Int32) : sh ad cy 73 m = .inr (4, [.ref (ad 74), .ref (ad 75), .ref (ad 76), .ref (ad 77), .ref (ad 78), .ref (ad 79), .ref (ad 80), .int (m 7), .int (m 8)]) := rfl
theorem sh_74 (ad : Nat → Nat) (cy : Nat → ClassId) (m : Nat → Int32) : sh ad cy 74 m = .inl (cy 0, 10, .inl m) := rfl
theorem sh_75 (ad : Nat → Nat) (cy : Nat → ClassId) (m : Nat → Int32) : sh ad cy 75 m = .inl (cy 0, 10, .inl m) := rfl
theorem sh_76 (ad : Nat → Nat) (cy : Nat → ClassId) (m : Nat → Int32) : sh ad cy 76 m = .inl (cy 0, 20, .inl m) := rfl
theorem sh_77 (ad : Nat → Nat) (cy : Nat → ClassId) (m : Nat → Int32) : sh ad cy 77 m = .inl (cy 0, 20, .inl m) := rfl
theorem sh_78 (ad : Nat → Nat) (cy : Nat → ClassId) (m : Nat → Int32) : sh ad cy 78 m = .inl (cy 0, 20, .inl m) := rfl
theorem sh_79 (ad : Nat → Nat) (cy : Nat → ClassId) (m : Nat → Int32) : sh ad cy 79 m = .inl (cy 0, 20, .inl m) := rfl
theorem sh_80 (ad : Nat → Nat) (cy : Nat → ClassId) (m : Nat → Int32) : sh ad cy 80 m = .inl (cy 0, 10, .inl m) := rfl
theorem sh_81 (ad : Nat → Nat) (cy : Nat → ClassId) (m : Nat → Int32) : sh ad cy 81 m = .inr (1, [.ref (ad 82), .int (m 1), .int (m 2)]) := rfl
theorem sh_82 (ad : Nat → Nat) (cy : Nat → ClassId) (m : Nat → Int32) : sh ad cy 82 m = .inl (cy 4, 8, .inr (.inr (.inr (.inr (fun k => some (ad (17 + 8 * k))))))) := rfl
theorem sh_83 (ad : Nat → Nat) (cy : Nat → ClassId) (m : Nat → Int32) : sh ad cy 83 m = .inr (5, [.int (m 0), .int (m 1), .int (m 2), .int (m 3)]) := rfl
theorem sh_84 (ad : Nat → Nat) (cy : Nat → ClassId) (m : Nat → Int32) : sh ad cy 84 m = .inr (8, [.ref (ad 85), .ref (ad 86), .ref (ad 87), .ref (ad 98), .ref (ad 104), .int (m 5), .int (m 6), .int (m 7), .int (m 8), .int (m 9)]) := rfl
theorem sh_85 (ad : Nat → Nat) (cy : Nat → ClassId) (m : Nat → Int32) : sh ad cy 85 m = .inl (cy 0, 10, .inl m) := rfl
theorem sh_86 (ad : Nat → Nat) (cy : Nat → ClassId) (m : Nat → Int32) : sh ad cy 86 m = .inl (cy 0, 10, .inl m) := rfl
theorem sh_87 (ad : Nat → Nat) (cy : Nat → ClassId) (m : Nat → Int32) : sh ad cy 87 m = .inl (cy 3, 10, .inr (.inr (.inr (.inr (fun k => some (ad (88 + 1 * k))))))) := rfl
theorem sh_88 (ad : Nat → Nat) (cy : Nat → ClassId) (m : Nat → Int32) : sh ad cy 88 m = .inl (cy 0, 8, .inl m) := rfl
theorem sh_89 (ad : Nat → Nat) (cy : Nat → ClassId) (m : Nat → Int32) : sh ad cy 89 m = .inl (cy 0, 8, .inl m) := rfl
theorem sh_90 (ad : Nat → Nat) (cy : Nat → ClassId) (m : Nat → Int32) : sh ad cy 90 m = .inl (cy 0, 8, .inl m) := rfl
theorem sh_91 (ad : Nat → Nat) (cy : Nat → ClassId) (m : Nat → Int32) : sh ad cy 91 m = .inl (cy 0, 8, .inl m) := rfl
theorem sh_92 (ad : Nat → Nat) (cy : Nat → ClassId) (m : Nat → Int32) : sh ad cy 92 m = .inl (cy 0, 8, .inl m) := rfl
theorem sh_93 (ad : Nat → Nat) (cy : Nat → ClassId) (m : Nat → Int32) : sh ad cy 93 m = .inl (cy 0, 8, .inl m) := rfl
theorem sh_94 (ad : Nat → Nat) (cy : Nat → ClassId) (m : Nat → Int32) : sh ad cy 94 m = .inl (cy 0, 8, .inl m) := rfl
theorem sh_95 (ad : Nat → Nat) (cy : Nat → ClassId) (m : Nat → Int32) : sh ad cy 95 m = .inl (cy 0, 8, .inl m) := rfl
theorem sh_96 (ad : Nat → Nat) (cy : Nat → ClassId) (m : Nat → Int32) : sh ad cy 96 m = .inl (cy 0, 8, .inl m) := rfl
theorem sh_97 (ad : Nat → Nat) (cy : Nat → ClassId) (m : Nat → Int32) : sh ad cy 97 m = .inl (cy 0, 8, .inl m) := rfl
theorem sh_98 (ad : Nat → Nat) (cy : Nat → ClassId) (m : Nat → Int32) : sh ad cy 98 m = .inr (3, [.ref (ad 99), .int (m 1)]) := rfl
theorem sh_99 (ad : Nat → Nat) (cy : Nat → ClassId) (m : Nat → Int32) : sh ad cy 99 m = .inl (cy 3, 4, .inr (.inr (.inr (.inr (fun k => some (ad (100 + 1 * k))))))) := rfl
theorem sh_100 (ad : Nat → Nat) (cy : Nat → ClassId) (m : Nat → Int32) : sh ad cy 100 m = .inl (cy 0, 375, .inl m) := rfl
theorem sh_101 (ad : Nat → Nat) (cy : Nat → ClassId) (m : Nat → Int32) : sh ad cy 101 m = .inl (cy 0, 375, .inl m) := rfl
theorem sh_102 (ad : Nat → Nat) (cy : Nat → ClassId) (m : Nat → Int32) : sh ad cy 102 m = .inl (cy 0, 375, .inl m) := rfl
theorem sh_103 (ad : Nat → Nat) (cy : Nat → ClassId) (m : Nat → Int32) : sh ad cy 103 m = .inl (cy 0, 375, .inl m) := rfl
theorem sh_104 (ad : Nat → Nat) (cy : Nat → ClassId) (m : Nat → Int32) : sh ad cy 104 m = .inr (6, [.ref (ad 105), .int (m 1), .int (m 2)]) := rfl
theorem sh_105 (ad : Nat → Nat) (cy : Nat → ClassId) (m : Nat → Int32) : sh ad cy 105 m = .inl (cy 3, 7, .inr (.inr (.inr (.inr (fun k => some (ad (106 + 1 * k))))))) := rfl
theorem sh_106 (ad : Nat → Nat) (cy : Nat → ClassId) (m : Nat → Int32) : sh ad cy 106 m = .inl (cy 0, 40, .inl m) := rfl
theorem sh_107 (ad : Nat → Nat) (cy : Nat → ClassId) (m : Nat → Int32) : sh ad cy 107 m = .inl (cy 0, 40, .inl m) := rfl
theorem sh_108 (ad : Nat → Nat) (cy : Nat → ClassId) (m : Nat → Int32) : sh ad cy 108 m = .inl (cy 0, 40, .inl m) := rfl
theorem sh_109 (ad : Nat → Nat) (cy : Nat → ClassId) (m : Nat → Int32) : sh ad cy 109 m = .inl (cy 0, 40, .inl m) := rfl
theorem sh_110 (ad : Nat → Nat) (cy : Nat → ClassId) (m : Nat → Int32) : sh ad cy 110 m = .inl (cy 0, 40, .inl m) := rfl
theorem sh_111 (ad : Nat → Nat) (cy : Nat → ClassId) (m : Nat → Int32) : sh ad cy 111 m = .inl (cy 0, 40, .inl m) := rfl
theorem sh_112 (ad : Nat → Nat) (cy : Nat → ClassId) (m : Nat → Int32) : sh ad cy 112 m = .inl (cy 0, 40, .inl m) := rfl
theorem sh_113 (ad : Nat → Nat) (cy : Nat → ClassId) (m : Nat → Int32) : sh ad cy 113 m = .inr (7, [.ref (ad 114), .ref (ad 115), .int (m 2), .int (m 3), .int (m 4), .int (m 5), .int (m 6)]) := rfl
theorem sh_114 (ad : Nat → Nat) (cy : Nat → ClassId) (m : Nat → Int32) : sh ad cy 114 m = .inl (cy 0, 10, .inl m) := rfl
theorem sh_115 (ad : Nat → Nat) (cy : Nat → ClassId) (m : Nat → Int32) : sh ad cy 115 m = .inl (cy 0, 10, .inl m) := rfl
theorem sh_116 (ad : Nat → Nat) (cy : Nat → ClassId) (m : Nat → Int32) : sh ad cy 116 m = .inr (2, [.ref (ad 117), .int (m 1), .int (m 2), .ref (ad 118), .ref (ad 119), .ref (ad 120), .ref (ad 121), .int (m 7)]) := rfl
theorem sh_117 (ad : Nat → Nat) (cy : Nat → ClassId) (m : Nat → Int32) : sh ad cy 117 m = .inl (cy 1, 60, .inl m) := rfl
theorem sh_118 (ad : Nat → Nat) (cy : Nat → ClassId) (m : Nat → Int32) : sh ad cy 118 m = .inl (cy 0, 20, .inl m) := rfl
theorem sh_119 (ad : Nat → Nat) (cy : Nat → ClassId) (m : Nat → Int32) : sh ad cy 119 m = .inl (cy 0, 20, .inl m) := rfl
theorem sh_120 (ad : Nat → Nat) (cy : Nat → ClassId) (m : Nat → Int32) : sh ad cy 120 m = .inl (cy 0, 20, .inl m) := rfl
theorem sh_121 (ad : Nat → Nat) (cy : Nat → ClassId) (m : Nat → Int32) : sh ad cy 121 m = .inl (cy 0, 20, .inl m) := rfl
theorem sh_122 (ad : Nat → Nat) (cy : Nat → ClassId) (m : Nat → Int32) : sh ad cy 122 m = .inr (0, [.ref (ad 123), .int (m 1)]) := rfl
theorem sh_123 (ad : Nat → Nat) (cy : Nat → ClassId) (m : Nat → Int32) : sh ad cy 123 m = .inl (cy 1, 18, .inl m) := rfl
theorem sh_124 (ad : Nat → Nat) (cy : Nat → ClassId) (m : Nat → Int32) : sh ad cy 124 m = .inr (10, [.int (m 0), .ref (ad 125), .ref (ad 126), .ref (ad 127), .ref (ad 128), .ref (ad 129), .ref (ad 130), .int (m 7), .int (m 8), .ref (ad 131), .ref (ad 132), .ref (ad 133), .ref (ad 134), .int (m 13), .int (m 14), .int (m 15), .int (m 16), .int (m 17), .int (m 18), .int (m 19), .int (m 20), .int (m 21), .int (m 22), .int (m 23), .ref (ad 135), .ref (ad 136), .ref (ad 137), .ref (ad 138), .int (m 28), .int (m 29), .int (m 30), .int (m 31), .ref (ad 139), .ref (ad 140), .ref (ad 141), .ref (ad 142), .ref (ad 143), .ref (ad 144), .ref (ad 145), .int (m 39), .ref (ad 146), .ref (ad 147), .int (m 42), .int (m 43), .int (m 44), .int (m 45), .ref (ad 148), .ref (ad 149), .ref (ad 150), .ref (ad 151), .ref (ad 152), .ref (ad 153), .int (m 52), .int (m 53), .int (m 54), .int (m 55), .ref (ad 154), .int (m 57)]) := rfl
theorem sh_125 (ad : Nat → Nat) (cy : Nat → ClassId) (m : Nat → Int32) : sh ad cy 125 m = .inl (cy 0, 10, .inl m) := rfl
theorem sh_126 (ad : Nat → Nat) (cy : Nat → ClassId) (m : Nat → Int32) : sh ad cy 126 m = .inl (cy 0, 10, .inl m) := rfl
theorem sh_127 (ad : Nat → Nat) (cy : Nat → ClassId) (m : Nat → Int32) : sh ad cy 127 m = .inl (cy 0, 20, .inl m) := rfl
theorem sh_128 (ad : Nat → Nat) (cy : Nat → ClassId) (m : Nat → Int32) : sh ad cy 128 m = .inl (cy 0, 20, .inl m) := rfl
theorem sh_129 (ad : Nat → Nat) (cy : Nat → ClassId) (m : Nat → Int32) : sh ad cy 129 m = .inl (cy 0, 20, .inl m) := rfl
theorem sh_130 (ad : Nat → Nat) (cy : Nat → ClassId) (m : Nat → Int32) : sh ad cy 130 m = .inl (cy 0, 20, .inl m) := rfl
theorem sh_131 (ad : Nat → Nat) (cy : Nat → ClassId) (m : Nat → Int32) : sh ad cy 131 m = .inl (cy 0, 8, .inl m) := rfl
theorem sh_132 (ad : Nat → Nat) (cy : Nat → ClassId) (m : Nat → Int32) : sh ad cy 132 m = .inl (cy 0, 10, .inl m) := rfl
theorem sh_133 (ad : Nat → Nat) (cy : Nat → ClassId) (m : Nat → Int32) : sh ad cy 133 m = .inl (cy 0, 80, .inl m) := rfl
theorem sh_134 (ad : Nat → Nat) (cy : Nat → ClassId) (m : Nat → Int32) : sh ad cy 134 m = .inl (cy 0, 280, .inl m) := rfl
theorem sh_135 (ad : Nat → Nat) (cy : Nat → ClassId) (m : Nat → Int32) : sh ad cy 135 m = .inl (cy 0, 832, .inl m) := rfl
theorem sh_136 (ad : Nat → Nat) (cy : Nat → ClassId) (m : Nat → Int32) : sh ad cy 136 m = .inl (cy 0, 104, .inl m) := rfl
theorem sh_137 (ad : Nat → Nat) (cy : Nat → ClassId) (m : Nat → Int32) : sh ad cy 137 m = .inl (cy 0, 104, .inl m) := rfl
theorem sh_138 (ad : Nat → Nat) (cy : Nat → ClassId) (m : Nat → Int32) : sh ad cy 138 m = .inl (cy 0, 104, .inl m) := rfl
theorem sh_139 (ad : Nat → Nat) (cy : Nat → ClassId) (m : Nat → Int32) : sh ad cy 139 m = .inl (cy 0, 400, .inl m) := rfl
theorem sh_140 (ad : Nat → Nat) (cy : Nat → ClassId) (m : Nat → Int32) : sh ad cy 140 m = .inl (cy 0, 400, .inl m) := rfl
theorem sh_141 (ad : Nat → Nat) (cy : Nat → ClassId) (m : Nat → Int32) : sh ad cy 141 m = .inl (cy 0, 400, .inl m) := rfl
theorem sh_142 (ad : Nat → Nat) (cy : Nat → ClassId) (m : Nat → Int32) : sh ad cy 142 m = .inl (cy 0, 400, .inl m) := rfl
theorem sh_143 (ad : Nat → Nat) (cy : Nat → ClassId) (m : Nat → Int32) : sh ad cy 143 m = .inl (cy 0, 400, .inl m) := rfl
theorem sh_144 (ad : Nat → Nat) (cy : Nat → ClassId) (m : Nat → Int32) : sh ad cy 144 m = .inl (cy 0, 10, .inl m) := rfl
theorem sh_145 (ad : Nat → Nat) (cy : Nat → ClassId) (m : Nat → Int32) : sh ad cy 145 m = .inl (cy 2, 400, .inl m) := rfl
theorem sh_146 (ad : Nat → Nat) (cy : Nat → ClassId) (m : Nat → Int32) : sh ad cy 146 m = .inl (cy 0, 10, .inl m) := rfl
theorem sh_147 (ad : Nat → Nat) (cy : Nat → ClassId) (m : Nat → Int32) : sh ad cy 147 m = .inl (cy 0, 10, .inl m) := rfl
theorem sh_148 (ad : Nat → Nat) (cy : Nat → ClassId) (m : Nat → Int32) : sh ad cy 148 m = .inl (cy 0, 60, .inl m) := rfl
theorem sh_149 (ad : Nat → Nat) (cy : Nat → ClassId) (m : Nat → Int32) : sh ad cy 149 m = .inl (cy 0, 30, .inl m) := rfl
theorem sh_150 (ad : Nat → Nat) (cy : Nat → ClassId) (m : Nat → Int32) : sh ad cy 150 m = .inl (cy 0, 30, .inl m) := rfl
theorem sh_151 (ad : Nat → Nat) (cy : Nat → ClassId) (m : Nat → Int32) : sh ad cy 151 m = .inl (cy 0, 30, .inl m) := rfl
theorem sh_152 (ad : Nat → Nat) (cy : Nat → ClassId) (m : Nat → Int32) : sh ad cy 152 m = .inl (cy 0, 30, .inl m) := rfl
theorem sh_153 (ad : Nat → Nat) (cy : Nat → ClassId) (m : Nat → Int32) : sh ad cy 153 m = .inl (cy 0, 30, .inl m) := rfl
theorem sh_154 (ad : Nat → Nat) (cy : Nat → ClassId) (m : Nat → Int32) : sh ad cy 154 m = .inl (cy 0, 24, .inl m) := rfl
theorem sh_155 (ad : Nat → Nat) (cy : Nat → ClassId) (m : Nat → Int32) : sh ad cy 155 m = .inl (cy 5, 1, .inr (.inl (fun k => if k = 0 then (m 0).toInt64 else 0))) := rfl
theorem sh_156 (ad : Nat → Nat) (cy : Nat → ClassId) (m : Nat → Int32) : sh ad cy 156 m = .inl (cy 6, 1, .inr (.inr (.inr (.inl (fun k => if k = 0 then UInt64.ofNat ((m 0).toUInt32.toNat + 4294967296 * (m 1).toUInt32.toNat) else 0))))) := rfl

def wd (ad : Nat → Nat) (cy : Nat → ClassId) (σ : Mem) : va_W := (List.range NC).map (fun c => (ad c, sh ad cy c (σ c)))
def AD (ad : Nat → Nat) : Nat → Prop := fun q => ∃ c, c < NC ∧ q = ad c
def Inj (ad : Nat → Nat) : Prop := ∀ i j : Nat, i < NC → j < NC → ad i = ad j → i = j
theorem wd_get (ad : Nat → Nat) (cy : Nat → ClassId) (σ : Mem) {c : Nat} (h : c < NC) : (wd ad cy σ)[c]? = some (ad c, sh ad cy c (σ c)) := by
  unfold wd
  rw [List.getElem?_map, List.getElem?_range h]
  rfl
theorem wd_lt {ad : Nat → Nat} {cy : Nat → ClassId} {σ : Mem} {c : Nat} {q : Nat × va_E} (h : (wd ad cy σ)[c]? = some q) : c < NC ∧ q = (ad c, sh ad cy c (σ c)) := by
  have hc : c < NC := by
    have := (List.getElem?_eq_some_iff.mp h).1
    unfold wd at this
    rwa [List.length_map, List.length_range] at this
  refine ⟨hc, ?_⟩
  rw [wd_get ad cy σ hc] at h
  exact (Option.some.inj h).symm
theorem wd_set (ad : Nat → Nat) (cy : Nat → ClassId) (σ : Mem) {c : Nat} {f : Nat → Int32} {e : va_E} (h : c < NC) (he : e = sh ad cy c f) : (wd ad cy σ).set c (ad c, e) = wd ad cy (mw σ c f) := by
  subst he
  apply List.ext_getElem?
  intro i
  by_cases hi : i < NC
  · rw [wd_get ad cy _ hi]
    by_cases e : c = i
    · subst e
      rw [List.getElem?_set_self (by unfold wd; rw [List.length_map, List.length_range]; exact h), mw_at]
    · rw [List.getElem?_set_ne e, wd_get ad cy _ hi, mw_ne _ _ (fun q => e q.symm)]
  · rw [List.getElem?_eq_none (by rw [List.length_set]; unfold wd; rw [List.length_map, List.length_range]; exact Nat.not_lt.mp hi), List.getElem?_eq_none (by unfold wd; rw [List.length_map, List.length_range]; exact Nat.not_lt.mp hi)]
theorem wd_D {ad : Nat → Nat} (cy : Nat → ClassId) (σ : Mem) (h : Inj ad) : va_D (AD ad) (wd ad cy σ) := by
  refine ⟨fun i j p q hi hj hpq => ?_, fun k q hk => ?_⟩
  · obtain ⟨h1, rfl⟩ := wd_lt hi
    obtain ⟨h2, rfl⟩ := wd_lt hj
    exact h i j h1 h2 hpq
  · obtain ⟨h1, rfl⟩ := wd_lt hk
    exact ⟨k, h1, rfl⟩
/-- what a cell is: an object of the class ci; an int place of one; a reference in one; a row of n numbers (t: int 0, char 1, boolean 2); a row of references to base + step * k -/
def isO (ci b : Nat) : Prop := b < NC ∧ ∀ (ad : Nat → Nat) (cy : Nat → ClassId) (m : Nat → Int32), ∃ fs, sh ad cy b m = .inr (ci, fs)
def fI (ci b k : Nat) : Prop := b < NC ∧ ∀ (ad : Nat → Nat) (cy : Nat → ClassId) (m : Nat → Int32), ∃ fs, sh ad cy b m = .inr (ci, fs) ∧ fs[k]? = some (.int (m k)) ∧ k < fs.length ∧ ∀ x : Int32, sh ad cy b (upd m k x) = .inr (ci, fs.set k (.int x))
def fR (ci b k t : Nat) : Prop := b < NC ∧ ∀ (ad : Nat → Nat) (cy : Nat → ClassId) (m : Nat → Int32), ∃ fs, sh ad cy b m = .inr (ci, fs) ∧ fs[k]? = some (.ref (ad t))
def isI (t n b : Nat) : Prop := b < NC ∧ ∀ (ad : Nat → Nat) (cy : Nat → ClassId) (m : Nat → Int32), sh ad cy b m = .inl (cy t, n, .inl m)
def isA (t n b base step : Nat) : Prop := b < NC ∧ ∀ (ad : Nat → Nat) (cy : Nat → ClassId) (m : Nat → Int32), sh ad cy b m = .inl (cy t, n, .inr (.inr (.inr (.inr (fun k => some (ad (base + step * k)))))))
theorem o_0 : isO 9 0 := ⟨by decide, fun ad cy m => ⟨_, sh_0 ad cy m⟩⟩
theorem f_0_0 : fR 9 0 0 1 := ⟨by decide, fun ad cy m => ⟨_, sh_0 ad cy m, rfl⟩⟩
theorem f_0_1 : fR 9 0 1 9 := ⟨by decide, fun ad cy m => ⟨_, sh_0 ad cy m, rfl⟩⟩
theorem f_0_2 : fR 9 0 2 81 := ⟨by decide, fun ad cy m => ⟨_, sh_0 ad cy m, rfl⟩⟩
theorem f_0_3 : fR 9 0 3 83 := ⟨by decide, fun ad cy m => ⟨_, sh_0 ad cy m, rfl⟩⟩
theorem f_0_4 : fR 9 0 4 84 := ⟨by decide, fun ad cy m => ⟨_, sh_0 ad cy m, rfl⟩⟩
theorem f_0_5 : fR 9 0 5 113 := ⟨by decide, fun ad cy m => ⟨_, sh_0 ad cy m, rfl⟩⟩
theorem f_0_6 : fR 9 0 6 116 := ⟨by decide, fun ad cy m => ⟨_, sh_0 ad cy m, rfl⟩⟩
theorem f_0_7 : fR 9 0 7 122 := ⟨by decide, fun ad cy m => ⟨_, sh_0 ad cy m, rfl⟩⟩
theorem f_0_8 : fI 9 0 8 := ⟨by decide, fun ad cy m => ⟨_, sh_0 ad cy m, rfl, Nat.le_of_ble_eq_true rfl, fun x => rfl⟩⟩
theorem f_0_9 : fI 9 0 9 := ⟨by decide, fun ad cy m => ⟨_, sh_0 ad cy m, rfl, Nat.le_of_ble_eq_true rfl, fun x => rfl⟩⟩
theorem o_1 : isO 4 1 := ⟨by decide, fun ad cy m => ⟨_, sh_1 ad cy m⟩⟩
theorem f_1_0 : fR 4 1 0 2 := ⟨by decide, fun ad cy m => ⟨_, sh_1 ad cy m, rfl⟩⟩
theorem f_1_1 : fR 4 1 1 3 := ⟨by decide, fun ad cy m => ⟨_, sh_1 ad cy m, rfl⟩⟩
theorem f_1_2 : fR 4 1 2 4 := ⟨by decide, fun ad cy m => ⟨_, sh_1 ad cy m, rfl⟩⟩
theorem f_1_3 : fR 4 1 3 5 := ⟨by decide, fun ad cy m => ⟨_, sh_1 ad cy m, rfl⟩⟩
theorem f_1_4 : fR 4 1 4 6 := ⟨by decide, fun ad cy m => ⟨_, sh_1 ad cy m, rfl⟩⟩
theorem f_1_5 : fR 4 1 5 7 := ⟨by decide, fun ad cy m => ⟨_, sh_1 ad cy m, rfl⟩⟩
theorem f_1_6 : fR 4 1 6 8 := ⟨by decide, fun ad cy m => ⟨_, sh_1 ad cy m, rfl⟩⟩
theorem f_1_7 : fI 4 1 7 := ⟨by decide, fun ad cy m => ⟨_, sh_1 ad cy m, rfl, Nat.le_of_ble_eq_true rfl, fun x => rfl⟩⟩
theorem f_1_8 : fI 4 1 8 := ⟨by decide, fun ad cy m => ⟨_, sh_1 ad cy m, rfl, Nat.le_of_ble_eq_true rfl, fun x => rfl⟩⟩
theorem i_2 : isI 0 10 2 := ⟨by decide, fun ad cy m => sh_2 ad cy m⟩
theorem i_3 : isI 0 10 3 := ⟨by decide, fun ad cy m => sh_3 ad cy m⟩
theorem i_4 : isI 0 20 4 := ⟨by decide, fun ad cy m => sh_4 ad cy m⟩
theorem i_5 : isI 0 20 5 := ⟨by decide, fun ad cy m => sh_5 ad cy m⟩
theorem i_6 : isI 0 20 6 := ⟨by decide, fun ad cy m => sh_6 ad cy m⟩
theorem i_7 : isI 0 20 7 := ⟨by decide, fun ad cy m => sh_7 ad cy m⟩
theorem i_8 : isI 0 10 8 := ⟨by decide, fun ad cy m => sh_8 ad cy m⟩
theorem o_9 : isO 4 9 := ⟨by decide, fun ad cy m => ⟨_, sh_9 ad cy m⟩⟩
theorem i_10 : isI 0 10 10 := ⟨by decide, fun ad cy m => sh_10 ad cy m⟩
theorem i_11 : isI 0 10 11 := ⟨by decide, fun ad cy m => sh_11 ad cy m⟩
theorem i_12 : isI 0 20 12 := ⟨by decide, fun ad cy m => sh_12 ad cy m⟩
theorem i_13 : isI 0 20 13 := ⟨by decide, fun ad cy m => sh_13 ad cy m⟩
theorem i_14 : isI 0 20 14 := ⟨by decide, fun ad cy m => sh_14 ad cy m⟩
theorem i_15 : isI 0 20 15 := ⟨by decide, fun ad cy m => sh_15 ad cy m⟩
theorem i_16 : isI 0 10 16 := ⟨by decide, fun ad cy m => sh_16 ad cy m⟩
theorem o_17 : isO 4 17 := ⟨by decide, fun ad cy m => ⟨_, sh_17 ad cy m⟩⟩
theorem i_18 : isI 0 10 18 := ⟨by decide, fun ad cy m => sh_18 ad cy m⟩
theorem i_19 : isI 0 10 19 := ⟨by decide, fun ad cy m => sh_19 ad cy m⟩
theorem i_20 : isI 0 20 20 := ⟨by decide, fun ad cy m => sh_20 ad cy m⟩
theorem i_21 : isI 0 20 21 := ⟨by decide, fun ad cy m => sh_21 ad cy m⟩
theorem i_22 : isI 0 20 22 := ⟨by decide, fun ad cy m => sh_22 ad cy m⟩
theorem i_23 : isI 0 20 23 := ⟨by decide, fun ad cy m => sh_23 ad cy m⟩
theorem i_24 : isI 0 10 24 := ⟨by decide, fun ad cy m => sh_24 ad cy m⟩
theorem o_25 : isO 4 25 := ⟨by decide, fun ad cy m => ⟨_, sh_25 ad cy m⟩⟩
theorem i_26 : isI 0 10 26 := ⟨by decide, fun ad cy m => sh_26 ad cy m⟩
theorem i_27 : isI 0 10 27 := ⟨by decide, fun ad cy m => sh_27 ad cy m⟩
theorem i_28 : isI 0 20 28 := ⟨by decide, fun ad cy m => sh_28 ad cy m⟩
theorem i_29 : isI 0 20 29 := ⟨by decide, fun ad cy m => sh_29 ad cy m⟩
theorem i_30 : isI 0 20 30 := ⟨by decide, fun ad cy m => sh_30 ad cy m⟩
theorem i_31 : isI 0 20 31 := ⟨by decide, fun ad cy m => sh_31 ad cy m⟩
theorem i_32 : isI 0 10 32 := ⟨by decide, fun ad cy m => sh_32 ad cy m⟩
theorem o_33 : isO 4 33 := ⟨by decide, fun ad cy m => ⟨_, sh_33 ad cy m⟩⟩
theorem i_34 : isI 0 10 34 := ⟨by decide, fun ad cy m => sh_34 ad cy m⟩
theorem i_35 : isI 0 10 35 := ⟨by decide, fun ad cy m => sh_35 ad cy m⟩
theorem i_36 : isI 0 20 36 := ⟨by decide, fun ad cy m => sh_36 ad cy m⟩
theorem i_37 : isI 0 20 37 := ⟨by decide, fun ad cy m => sh_37 ad cy m⟩
theorem i_38 : isI 0 20 38 := ⟨by decide, fun ad cy m => sh_38 ad cy m⟩
theorem i_39 : isI 0 20 39 := ⟨by decide, fun ad cy m => sh_39 ad cy m⟩
theorem i_40 : isI 0 10 40 := ⟨by decide, fun ad cy m => sh_40 ad cy m⟩
theorem o_41 : isO 4 41 := ⟨by decide, fun ad cy m => ⟨_, sh_41 ad cy m⟩⟩
theorem i_42 : isI 0 10 42 := ⟨by decide, fun ad cy m => sh_42 ad cy m⟩
theorem i_43 : isI 0 10 43 := ⟨by decide, fun ad cy m => sh_43 ad cy m⟩
theorem i_44 : isI 0 20 44 := ⟨by decide, fun ad cy m => sh_44 ad cy m⟩
theorem i_45 : isI 0 20 45 := ⟨by decide, fun ad cy m => sh_45 ad cy m⟩
theorem i_46 : isI 0 20 46 := ⟨by decide, fun ad cy m => sh_46 ad cy m⟩
theorem i_47 : isI 0 20 47 := ⟨by decide, fun ad cy m => sh_47 ad cy m⟩
theorem i_48 : isI 0 10 48 := ⟨by decide, fun ad cy m => sh_48 ad cy m⟩
theorem o_49 : isO 4 49 := ⟨by decide, fun ad cy m => ⟨_, sh_49 ad cy m⟩⟩
theorem i_50 : isI 0 10 50 := ⟨by decide, fun ad cy m => sh_50 ad cy m⟩
theorem i_51 : isI 0 10 51 := ⟨by decide, fun ad cy m => sh_51 ad cy m⟩
theorem i_52 : isI 0 20 52 := ⟨by decide, fun ad cy m => sh_52 ad cy m⟩
theorem i_53 : isI 0 20 53 := ⟨by decide, fun ad cy m => sh_53 ad cy m⟩
theorem i_54 : isI 0 20 54 := ⟨by decide, fun ad cy m => sh_54 ad cy m⟩
theorem i_55 : isI 0 20 55 := ⟨by decide, fun ad cy m => sh_55 ad cy m⟩
theorem i_56 : isI 0 10 56 := ⟨by decide, fun ad cy m => sh_56 ad cy m⟩
theorem o_57 : isO 4 57 := ⟨by decide, fun ad cy m => ⟨_, sh_57 ad cy m⟩⟩
theorem i_58 : isI 0 10 58 := ⟨by decide, fun ad cy m => sh_58 ad cy m⟩
theorem i_59 : isI 0 10 59 := ⟨by decide, fun ad cy m => sh_59 ad cy m⟩
theorem i_60 : isI 0 20 60 := ⟨by decide, fun ad cy m => sh_60 ad cy m⟩
theorem i_61 : isI 0 20 61 := ⟨by decide, fun ad cy m => sh_61 ad cy m⟩
theorem i_62 : isI 0 20 62 := ⟨by decide, fun ad cy m => sh_62 ad cy m⟩
theorem i_63 : isI 0 20 63 := ⟨by decide, fun ad cy m => sh_63 ad cy m⟩
theorem i_64 : isI 0 10 64 := ⟨by decide, fun ad cy m => sh_64 ad cy m⟩
theorem o_65 : isO 4 65 := ⟨by decide, fun ad cy m => ⟨_, sh_65 ad cy m⟩⟩
theorem i_66 : isI 0 10 66 := ⟨by decide, fun ad cy m => sh_66 ad cy m⟩
theorem i_67 : isI 0 10 67 := ⟨by decide, fun ad cy m => sh_67 ad cy m⟩
theorem i_68 : isI 0 20 68 := ⟨by decide, fun ad cy m => sh_68 ad cy m⟩
theorem i_69 : isI 0 20 69 := ⟨by decide, fun ad cy m => sh_69 ad cy m⟩
theorem i_70 : isI 0 20 70 := ⟨by decide, fun ad cy m => sh_70 ad cy m⟩
theorem i_71 : isI 0 20 71 := ⟨by decide, fun ad cy m => sh_71 ad cy m⟩
theorem i_72 : isI 0 10 72 := ⟨by decide, fun ad cy m => sh_72 ad cy m⟩
theorem o_73 : isO 4 73 := ⟨by decide, fun ad cy m => ⟨_, sh_73 ad cy m⟩⟩
theorem i_74 : isI 0 10 74 := ⟨by decide, fun ad cy m => sh_74 ad cy m⟩
theorem i_75 : isI 0 10 75 := ⟨by decide, fun ad cy m => sh_75 ad cy m⟩
theorem i_76 : isI 0 20 76 := ⟨by decide, fun ad cy m => sh_76 ad cy m⟩
theorem i_77 : isI 0 20 77 := ⟨by decide, fun ad cy m => sh_77 ad cy m⟩
theorem i_78 : isI 0 20 78 := ⟨by decide, fun ad cy m => sh_78 ad cy m⟩
theorem i_79 : isI 0 20 79 := ⟨by decide, fun ad cy m => sh_79 ad cy m⟩
theorem i_80 : isI 0 10 80 := ⟨by decide, fun ad cy m => sh_80 ad cy m⟩
theorem o_81 : isO 1 81 := ⟨by decide, fun ad cy m => ⟨_, sh_81 ad cy m⟩⟩
theorem f_81_0 : fR 1 81 0 82 := ⟨by decide, fun ad cy m => ⟨_, sh_81 ad cy m, rfl⟩⟩
theorem f_81_1 : fI 1 81 1 := ⟨by decide, fun ad cy m => ⟨_, sh_81 ad cy m, rfl, Nat.le_of_ble_eq_true rfl, fun x => rfl⟩⟩
theorem f_81_2 : fI 1 81 2 := ⟨by decide, fun ad cy m => ⟨_, sh_81 ad cy m, rfl, Nat.le_of_ble_eq_true rfl, fun x => rfl⟩⟩
theorem a_82 : isA 4 8 82 17 8 := ⟨by decide, fun ad cy m => sh_82 ad cy m⟩
theorem o_83 : isO 5 83 := ⟨by decide, fun ad cy m => ⟨_, sh_83 ad cy m⟩⟩
theorem f_83_0 : fI 5 83 0 := ⟨by decide, fun ad cy m => ⟨_, sh_83 ad cy m, rfl, Nat.le_of_ble_eq_true rfl, fun x => rfl⟩⟩
theorem f_83_1 : fI 5 83 1 := ⟨by decide, fun ad cy m => ⟨_, sh_83 ad cy m, rfl, Nat.le_of_ble_eq_true rfl, fun x => rfl⟩⟩
theorem f_83_2 : fI 5 83 2 := ⟨by decide, fun ad cy m => ⟨_, sh_83 ad cy m, rfl, Nat.le_of_ble_eq_true rfl, fun x => rfl⟩⟩
theorem f_83_3 : fI 5 83 3 := ⟨by decide, fun ad cy m => ⟨_, sh_83 ad cy m, rfl, Nat.le_of_ble_eq_true rfl, fun x => rfl⟩⟩
theorem o_84 : isO 8 84 := ⟨by decide, fun ad cy m => ⟨_, sh_84 ad cy m⟩⟩
theorem f_84_0 : fR 8 84 0 85 := ⟨by decide, fun ad cy m => ⟨_, sh_84 ad cy m, rfl⟩⟩
theorem f_84_1 : fR 8 84 1 86 := ⟨by decide, fun ad cy m => ⟨_, sh_84 ad cy m, rfl⟩⟩
theorem f_84_2 : fR 8 84 2 87 := ⟨by decide, fun ad cy m => ⟨_, sh_84 ad cy m, rfl⟩⟩
theorem f_84_3 : fR 8 84 3 98 := ⟨by decide, fun ad cy m => ⟨_, sh_84 ad cy m, rfl⟩⟩
theorem f_84_4 : fR 8 84 4 104 := ⟨by decide, fun ad cy m => ⟨_, sh_84 ad cy m, rfl⟩⟩
theorem f_84_5 : fI 8 84 5 := ⟨by decide, fun ad cy m => ⟨_, sh_84 ad cy m, rfl, Nat.le_of_ble_eq_true rfl, fun x => rfl⟩⟩
theorem f_84_6 : fI 8 84 6 := ⟨by decide, fun ad cy m => ⟨_, sh_84 ad cy m, rfl, Nat.le_of_ble_eq_true rfl, fun x => rfl⟩⟩
theorem f_84_7 : fI 8 84 7 := ⟨by decide, fun ad cy m => ⟨_, sh_84 ad cy m, rfl, Nat.le_of_ble_eq_true rfl, fun x => rfl⟩⟩
theorem f_84_8 : fI 8 84 8 := ⟨by decide, fun ad cy m => ⟨_, sh_84 ad cy m, rfl, Nat.le_of_ble_eq_true rfl, fun x => rfl⟩⟩
theorem f_84_9 : fI 8 84 9 := ⟨by decide, fun ad cy m => ⟨_, sh_84 ad cy m, rfl, Nat.le_of_ble_eq_true rfl, fun x => rfl⟩⟩
theorem i_85 : isI 0 10 85 := ⟨by decide, fun ad cy m => sh_85 ad cy m⟩
theorem i_86 : isI 0 10 86 := ⟨by decide, fun ad cy m => sh_86 ad cy m⟩
theorem a_87 : isA 3 10 87 88 1 := ⟨by decide, fun ad cy m => sh_87 ad cy m⟩
theorem i_88 : isI 0 8 88 := ⟨by decide, fun ad cy m => sh_88 ad cy m⟩
theorem i_89 : isI 0 8 89 := ⟨by decide, fun ad cy m => sh_89 ad cy m⟩
theorem i_90 : isI 0 8 90 := ⟨by decide, fun ad cy m => sh_90 ad cy m⟩
theorem i_91 : isI 0 8 91 := ⟨by decide, fun ad cy m => sh_91 ad cy m⟩
theorem i_92 : isI 0 8 92 := ⟨by decide, fun ad cy m => sh_92 ad cy m⟩
theorem i_93 : isI 0 8 93 := ⟨by decide, fun ad cy m => sh_93 ad cy m⟩
theorem i_94 : isI 0 8 94 := ⟨by decide, fun ad cy m => sh_94 ad cy m⟩
theorem i_95 : isI 0 8 95 := ⟨by decide, fun ad cy m => sh_95 ad cy m⟩
theorem i_96 : isI 0 8 96 := ⟨by decide, fun ad cy m => sh_96 ad cy m⟩
theorem i_97 : isI 0 8 97 := ⟨by decide, fun ad cy m => sh_97 ad cy m⟩
theorem o_98 : isO 3 98 := ⟨by decide, fun ad cy m => ⟨_, sh_98 ad cy m⟩⟩
theorem f_98_0 : fR 3 98 0 99 := ⟨by decide, fun ad cy m => ⟨_, sh_98 ad cy m, rfl⟩⟩
theorem f_98_1 : fI 3 98 1 := ⟨by decide, fun ad cy m => ⟨_, sh_98 ad cy m, rfl, Nat.le_of_ble_eq_true rfl, fun x => rfl⟩⟩
theorem a_99 : isA 3 4 99 100 1 := ⟨by decide, fun ad cy m => sh_99 ad cy m⟩
theorem i_100 : isI 0 375 100 := ⟨by decide, fun ad cy m => sh_100 ad cy m⟩
theorem i_101 : isI 0 375 101 := ⟨by decide, fun ad cy m => sh_101 ad cy m⟩
theorem i_102 : isI 0 375 102 := ⟨by decide, fun ad cy m => sh_102 ad cy m⟩
theorem i_103 : isI 0 375 103 := ⟨by decide, fun ad cy m => sh_103 ad cy m⟩
theorem o_104 : isO 6 104 := ⟨by decide, fun ad cy m => ⟨_, sh_104 ad cy m⟩⟩
theorem f_104_0 : fR 6 104 0 105 := ⟨by decide, fun ad cy m => ⟨_, sh_104 ad cy m, rfl⟩⟩
theorem f_104_1 : fI 6 104 1 := ⟨by decide, fun ad cy m => ⟨_, sh_104 ad cy m, rfl, Nat.le_of_ble_eq_true rfl, fun x => rfl⟩⟩
theorem f_104_2 : fI 6 104 2 := ⟨by decide, fun ad cy m => ⟨_, sh_104 ad cy m, rfl, Nat.le_of_ble_eq_true rfl, fun x => rfl⟩⟩
theorem a_105 : isA 3 7 105 106 1 := ⟨by decide, fun ad cy m => sh_105 ad cy m⟩
theorem i_106 : isI 0 40 106 := ⟨by decide, fun ad cy m => sh_106 ad cy m⟩
theorem i_107 : isI 0 40 107 := ⟨by decide, fun ad cy m => sh_107 ad cy m⟩
theorem i_108 : isI 0 40 108 := ⟨by decide, fun ad cy m => sh_108 ad cy m⟩
theorem i_109 : isI 0 40 109 := ⟨by decide, fun ad cy m => sh_109 ad cy m⟩
theorem i_110 : isI 0 40 110 := ⟨by decide, fun ad cy m => sh_110 ad cy m⟩
theorem i_111 : isI 0 40 111 := ⟨by decide, fun ad cy m => sh_111 ad cy m⟩
theorem i_112 : isI 0 40 112 := ⟨by decide, fun ad cy m => sh_112 ad cy m⟩
theorem o_113 : isO 7 113 := ⟨by decide, fun ad cy m => ⟨_, sh_113 ad cy m⟩⟩
theorem f_113_0 : fR 7 113 0 114 := ⟨by decide, fun ad cy m => ⟨_, sh_113 ad cy m, rfl⟩⟩
theorem f_113_1 : fR 7 113 1 115 := ⟨by decide, fun ad cy m => ⟨_, sh_113 ad cy m, rfl⟩⟩
theorem f_113_2 : fI 7 113 2 := ⟨by decide, fun ad cy m => ⟨_, sh_113 ad cy m, rfl, Nat.le_of_ble_eq_true rfl, fun x => rfl⟩⟩
theorem f_113_3 : fI 7 113 3 := ⟨by decide, fun ad cy m => ⟨_, sh_113 ad cy m, rfl, Nat.le_of_ble_eq_true rfl, fun x => rfl⟩⟩
theorem f_113_4 : fI 7 113 4 := ⟨by decide, fun ad cy m => ⟨_, sh_113 ad cy m, rfl, Nat.le_of_ble_eq_true rfl, fun x => rfl⟩⟩
theorem f_113_5 : fI 7 113 5 := ⟨by decide, fun ad cy m => ⟨_, sh_113 ad cy m, rfl, Nat.le_of_ble_eq_true rfl, fun x => rfl⟩⟩
theorem f_113_6 : fI 7 113 6 := ⟨by decide, fun ad cy m => ⟨_, sh_113 ad cy m, rfl, Nat.le_of_ble_eq_true rfl, fun x => rfl⟩⟩
theorem i_114 : isI 0 10 114 := ⟨by decide, fun ad cy m => sh_114 ad cy m⟩
theorem i_115 : isI 0 10 115 := ⟨by decide, fun ad cy m => sh_115 ad cy m⟩
theorem o_116 : isO 2 116 := ⟨by decide, fun ad cy m => ⟨_, sh_116 ad cy m⟩⟩
theorem f_116_0 : fR 2 116 0 117 := ⟨by decide, fun ad cy m => ⟨_, sh_116 ad cy m, rfl⟩⟩
theorem f_116_1 : fI 2 116 1 := ⟨by decide, fun ad cy m => ⟨_, sh_116 ad cy m, rfl, Nat.le_of_ble_eq_true rfl, fun x => rfl⟩⟩
theorem f_116_2 : fI 2 116 2 := ⟨by decide, fun ad cy m => ⟨_, sh_116 ad cy m, rfl, Nat.le_of_ble_eq_true rfl, fun x => rfl⟩⟩
theorem f_116_3 : fR 2 116 3 118 := ⟨by decide, fun ad cy m => ⟨_, sh_116 ad cy m, rfl⟩⟩
theorem f_116_4 : fR 2 116 4 119 := ⟨by decide, fun ad cy m => ⟨_, sh_116 ad cy m, rfl⟩⟩
theorem f_116_5 : fR 2 116 5 120 := ⟨by decide, fun ad cy m => ⟨_, sh_116 ad cy m, rfl⟩⟩
theorem f_116_6 : fR 2 116 6 121 := ⟨by decide, fun ad cy m => ⟨_, sh_116 ad cy m, rfl⟩⟩
theorem f_116_7 : fI 2 116 7 := ⟨by decide, fun ad cy m => ⟨_, sh_116 ad cy m, rfl, Nat.le_of_ble_eq_true rfl, fun x => rfl⟩⟩
theorem i_117 : isI 1 60 117 := ⟨by decide, fun ad cy m => sh_117 ad cy m⟩
theorem i_118 : isI 0 20 118 := ⟨by decide, fun ad cy m => sh_118 ad cy m⟩
theorem i_119 : isI 0 20 119 := ⟨by decide, fun ad cy m => sh_119 ad cy m⟩
theorem i_120 : isI 0 20 120 := ⟨by decide, fun ad cy m => sh_120 ad cy m⟩
theorem i_121 : isI 0 20 121 := ⟨by decide, fun ad cy m => sh_121 ad cy m⟩
theorem o_122 : isO 0 122 := ⟨by decide, fun ad cy m => ⟨_, sh_122 ad cy m⟩⟩
theorem f_122_0 : fR 0 122 0 123 := ⟨by decide, fun ad cy m => ⟨_, sh_122 ad cy m, rfl⟩⟩
theorem f_122_1 : fI 0 122 1 := ⟨by decide, fun ad cy m => ⟨_, sh_122 ad cy m, rfl, Nat.le_of_ble_eq_true rfl, fun x => rfl⟩⟩
theorem i_123 : isI 1 18 123 := ⟨by decide, fun ad cy m => sh_123 ad cy m⟩
theorem o_124 : isO 10 124 := ⟨by decide, fun ad cy m => ⟨_, sh_124 ad cy m⟩⟩
theorem f_124_0 : fI 10 124 0 := ⟨by decide, fun ad cy m => ⟨_, sh_124 ad cy m, rfl, Nat.le_of_ble_eq_true rfl, fun x => rfl⟩⟩
theorem f_124_1 : fR 10 124 1 125 := ⟨by decide, fun ad cy m => ⟨_, sh_124 ad cy m, rfl⟩⟩
theorem f_124_2 : fR 10 124 2 126 := ⟨by decide, fun ad cy m => ⟨_, sh_124 ad cy m, rfl⟩⟩
theorem f_124_3 : fR 10 124 3 127 := ⟨by decide, fun ad cy m => ⟨_, sh_124 ad cy m, rfl⟩⟩
theorem f_124_4 : fR 10 124 4 128 := ⟨by decide, fun ad cy m => ⟨_, sh_124 ad cy m, rfl⟩⟩
theorem f_124_5 : fR 10 124 5 129 := ⟨by decide, fun ad cy m => ⟨_, sh_124 ad cy m, rfl⟩⟩
theorem f_124_6 : fR 10 124 6 130 := ⟨by decide, fun ad cy m => ⟨_, sh_124 ad cy m, rfl⟩⟩
theorem f_124_7 : fI 10 124 7 := ⟨by decide, fun ad cy m => ⟨_, sh_124 ad cy m, rfl, Nat.le_of_ble_eq_true rfl, fun x => rfl⟩⟩
theorem f_124_8 : fI 10 124 8 := ⟨by decide, fun ad cy m => ⟨_, sh_124 ad cy m, rfl, Nat.le_of_ble_eq_true rfl, fun x => rfl⟩⟩
theorem f_124_9 : fR 10 124 9 131 := ⟨by decide, fun ad cy m => ⟨_, sh_124 ad cy m, rfl⟩⟩
theorem f_124_10 : fR 10 124 10 132 := ⟨by decide, fun ad cy m => ⟨_, sh_124 ad cy m, rfl⟩⟩
theorem f_124_11 : fR 10 124 11 133 := ⟨by decide, fun ad cy m => ⟨_, sh_124 ad cy m, rfl⟩⟩
theorem f_124_12 : fR 10 124 12 134 := ⟨by decide, fun ad cy m => ⟨_, sh_124 ad cy m, rfl⟩⟩
theorem f_124_13 : fI 10 124 13 := ⟨by decide, fun ad cy m => ⟨_, sh_124 ad cy m, rfl, Nat.le_of_ble_eq_true rfl, fun x => rfl⟩⟩
theorem f_124_14 : fI 10 124 14 := ⟨by decide, fun ad cy m => ⟨_, sh_124 ad cy m, rfl, Nat.le_of_ble_eq_true rfl, fun x => rfl⟩⟩
theorem f_124_15 : fI 10 124 15 := ⟨by decide, fun ad cy m => ⟨_, sh_124 ad cy m, rfl, Nat.le_of_ble_eq_true rfl, fun x => rfl⟩⟩
theorem f_124_16 : fI 10 124 16 := ⟨by decide, fun ad cy m => ⟨_, sh_124 ad cy m, rfl, Nat.le_of_ble_eq_true rfl, fun x => rfl⟩⟩
theorem f_124_17 : fI 10 124 17 := ⟨by decide, fun ad cy m => ⟨_, sh_124 ad cy m, rfl, Nat.le_of_ble_eq_true rfl, fun x => rfl⟩⟩
theorem f_124_18 : fI 10 124 18 := ⟨by decide, fun ad cy m => ⟨_, sh_124 ad cy m, rfl, Nat.le_of_ble_eq_true rfl, fun x => rfl⟩⟩
theorem f_124_19 : fI 10 124 19 := ⟨by decide, fun ad cy m => ⟨_, sh_124 ad cy m, rfl, Nat.le_of_ble_eq_true rfl, fun x => rfl⟩⟩
theorem f_124_20 : fI 10 124 20 := ⟨by decide, fun ad cy m => ⟨_, sh_124 ad cy m, rfl, Nat.le_of_ble_eq_true rfl, fun x => rfl⟩⟩
theorem f_124_21 : fI 10 124 21 := ⟨by decide, fun ad cy m => ⟨_, sh_124 ad cy m, rfl, Nat.le_of_ble_eq_true rfl, fun x => rfl⟩⟩
theorem f_124_22 : fI 10 124 22 := ⟨by decide, fun ad cy m => ⟨_, sh_124 ad cy m, rfl, Nat.le_of_ble_eq_true rfl, fun x => rfl⟩⟩
theorem f_124_23 : fI 10 124 23 := ⟨by decide, fun ad cy m => ⟨_, sh_124 ad cy m, rfl, Nat.le_of_ble_eq_true rfl, fun x => rfl⟩⟩
theorem f_124_24 : fR 10 124 24 135 := ⟨by decide, fun ad cy m => ⟨_, sh_124 ad cy m, rfl⟩⟩
theorem f_124_25 : fR 10 124 25 136 := ⟨by decide, fun ad cy m => ⟨_, sh_124 ad cy m, rfl⟩⟩
theorem f_124_26 : fR 10 124 26 137 := ⟨by decide, fun ad cy m => ⟨_, sh_124 ad cy m, rfl⟩⟩
theorem f_124_27 : fR 10 124 27 138 := ⟨by decide, fun ad cy m => ⟨_, sh_124 ad cy m, rfl⟩⟩
theorem f_124_28 : fI 10 124 28 := ⟨by decide, fun ad cy m => ⟨_, sh_124 ad cy m, rfl, Nat.le_of_ble_eq_true rfl, fun x => rfl⟩⟩
theorem f_124_29 : fI 10 124 29 := ⟨by decide, fun ad cy m => ⟨_, sh_124 ad cy m, rfl, Nat.le_of_ble_eq_true rfl, fun x => rfl⟩⟩
theorem f_124_30 : fI 10 124 30 := ⟨by decide, fun ad cy m => ⟨_, sh_124 ad cy m, rfl, Nat.le_of_ble_eq_true rfl, fun x => rfl⟩⟩
theorem f_124_31 : fI 10 124 31 := ⟨by decide, fun ad cy m => ⟨_, sh_124 ad cy m, rfl, Nat.le_of_ble_eq_true rfl, fun x => rfl⟩⟩
theorem f_124_32 : fR 10 124 32 139 := ⟨by decide, fun ad cy m => ⟨_, sh_124 ad cy m, rfl⟩⟩
theorem f_124_33 : fR 10 124 33 140 := ⟨by decide, fun ad cy m => ⟨_, sh_124 ad cy m, rfl⟩⟩
theorem f_124_34 : fR 10 124 34 141 := ⟨by decide, fun ad cy m => ⟨_, sh_124 ad cy m, rfl⟩⟩
theorem f_124_35 : fR 10 124 35 142 := ⟨by decide, fun ad cy m => ⟨_, sh_124 ad cy m, rfl⟩⟩
theorem f_124_36 : fR 10 124 36 143 := ⟨by decide, fun ad cy m => ⟨_, sh_124 ad cy m, rfl⟩⟩
theorem f_124_37 : fR 10 124 37 144 := ⟨by decide, fun ad cy m => ⟨_, sh_124 ad cy m, rfl⟩⟩
theorem f_124_38 : fR 10 124 38 145 := ⟨by decide, fun ad cy m => ⟨_, sh_124 ad cy m, rfl⟩⟩
theorem f_124_39 : fI 10 124 39 := ⟨by decide, fun ad cy m => ⟨_, sh_124 ad cy m, rfl, Nat.le_of_ble_eq_true rfl, fun x => rfl⟩⟩
theorem f_124_40 : fR 10 124 40 146 := ⟨by decide, fun ad cy m => ⟨_, sh_124 ad cy m, rfl⟩⟩
theorem f_124_41 : fR 10 124 41 147 := ⟨by decide, fun ad cy m => ⟨_, sh_124 ad cy m, rfl⟩⟩
theorem f_124_42 : fI 10 124 42 := ⟨by decide, fun ad cy m => ⟨_, sh_124 ad cy m, rfl, Nat.le_of_ble_eq_true rfl, fun x => rfl⟩⟩
theorem f_124_43 : fI 10 124 43 := ⟨by decide, fun ad cy m => ⟨_, sh_124 ad cy m, rfl, Nat.le_of_ble_eq_true rfl, fun x => rfl⟩⟩
theorem f_124_44 : fI 10 124 44 := ⟨by decide, fun ad cy m => ⟨_, sh_124 ad cy m, rfl, Nat.le_of_ble_eq_true rfl, fun x => rfl⟩⟩
theorem f_124_45 : fI 10 124 45 := ⟨by decide, fun ad cy m => ⟨_, sh_124 ad cy m, rfl, Nat.le_of_ble_eq_true rfl, fun x => rfl⟩⟩
theorem f_124_46 : fR 10 124 46 148 := ⟨by decide, fun ad cy m => ⟨_, sh_124 ad cy m, rfl⟩⟩
theorem f_124_47 : fR 10 124 47 149 := ⟨by decide, fun ad cy m => ⟨_, sh_124 ad cy m, rfl⟩⟩
theorem f_124_48 : fR 10 124 48 150 := ⟨by decide, fun ad cy m => ⟨_, sh_124 ad cy m, rfl⟩⟩
theorem f_124_49 : fR 10 124 49 151 := ⟨by decide, fun ad cy m => ⟨_, sh_124 ad cy m, rfl⟩⟩
theorem f_124_50 : fR 10 124 50 152 := ⟨by decide, fun ad cy m => ⟨_, sh_124 ad cy m, rfl⟩⟩
theorem f_124_51 : fR 10 124 51 153 := ⟨by decide, fun ad cy m => ⟨_, sh_124 ad cy m, rfl⟩⟩
theorem f_124_52 : fI 10 124 52 := ⟨by decide, fun ad cy m => ⟨_, sh_124 ad cy m, rfl, Nat.le_of_ble_eq_true rfl, fun x => rfl⟩⟩
theorem f_124_53 : fI 10 124 53 := ⟨by decide, fun ad cy m => ⟨_, sh_124 ad cy m, rfl, Nat.le_of_ble_eq_true rfl, fun x => rfl⟩⟩
theorem f_124_54 : fI 10 124 54 := ⟨by decide, fun ad cy m => ⟨_, sh_124 ad cy m, rfl, Nat.le_of_ble_eq_true rfl, fun x => rfl⟩⟩
theorem f_124_55 : fI 10 124 55 := ⟨by decide, fun ad cy m => ⟨_, sh_124 ad cy m, rfl, Nat.le_of_ble_eq_true rfl, fun x => rfl⟩⟩
theorem f_124_56 : fR 10 124 56 154 := ⟨by decide, fun ad cy m => ⟨_, sh_124 ad cy m, rfl⟩⟩
theorem f_124_57 : fI 10 124 57 := ⟨by decide, fun ad cy m => ⟨_, sh_124 ad cy m, rfl, Nat.le_of_ble_eq_true rfl, fun x => rfl⟩⟩
theorem i_125 : isI 0 10 125 := ⟨by decide, fun ad cy m => sh_125 ad cy m⟩
theorem i_126 : isI 0 10 126 := ⟨by decide, fun ad cy m => sh_126 ad cy m⟩
theorem i_127 : isI 0 20 127 := ⟨by decide, fun ad cy m => sh_127 ad cy m⟩
theorem i_128 : isI 0 20 128 := ⟨by decide, fun ad cy m => sh_128 ad cy m⟩
theorem i_129 : isI 0 20 129 := ⟨by decide, fun ad cy m => sh_129 ad cy m⟩
theorem i_130 : isI 0 20 130 := ⟨by decide, fun ad cy m => sh_130 ad cy m⟩
theorem i_131 : isI 0 8 131 := ⟨by decide, fun ad cy m => sh_131 ad cy m⟩
theorem i_132 : isI 0 10 132 := ⟨by decide, fun ad cy m => sh_132 ad cy m⟩
theorem i_133 : isI 0 80 133 := ⟨by decide, fun ad cy m => sh_133 ad cy m⟩
theorem i_134 : isI 0 280 134 := ⟨by decide, fun ad cy m => sh_134 ad cy m⟩
theorem i_135 : isI 0 832 135 := ⟨by decide, fun ad cy m => sh_135 ad cy m⟩
theorem i_136 : isI 0 104 136 := ⟨by decide, fun ad cy m => sh_136 ad cy m⟩
theorem i_137 : isI 0 104 137 := ⟨by decide, fun ad cy m => sh_137 ad cy m⟩
theorem i_138 : isI 0 104 138 := ⟨by decide, fun ad cy m => sh_138 ad cy m⟩
theorem i_139 : isI 0 400 139 := ⟨by decide, fun ad cy m => sh_139 ad cy m⟩
theorem i_140 : isI 0 400 140 := ⟨by decide, fun ad cy m => sh_140 ad cy m⟩
theorem i_141 : isI 0 400 141 := ⟨by decide, fun ad cy m => sh_141 ad cy m⟩
theorem i_142 : isI 0 400 142 := ⟨by decide, fun ad cy m => sh_142 ad cy m⟩
theorem i_143 : isI 0 400 143 := ⟨by decide, fun ad cy m => sh_143 ad cy m⟩
theorem i_144 : isI 0 10 144 := ⟨by decide, fun ad cy m => sh_144 ad cy m⟩
theorem i_145 : isI 2 400 145 := ⟨by decide, fun ad cy m => sh_145 ad cy m⟩
theorem i_146 : isI 0 10 146 := ⟨by decide, fun ad cy m => sh_146 ad cy m⟩
theorem i_147 : isI 0 10 147 := ⟨by decide, fun ad cy m => sh_147 ad cy m⟩
theorem i_148 : isI 0 60 148 := ⟨by decide, fun ad cy m => sh_148 ad cy m⟩
theorem i_149 : isI 0 30 149 := ⟨by decide, fun ad cy m => sh_149 ad cy m⟩
theorem i_150 : isI 0 30 150 := ⟨by decide, fun ad cy m => sh_150 ad cy m⟩
theorem i_151 : isI 0 30 151 := ⟨by decide, fun ad cy m => sh_151 ad cy m⟩
theorem i_152 : isI 0 30 152 := ⟨by decide, fun ad cy m => sh_152 ad cy m⟩
theorem i_153 : isI 0 30 153 := ⟨by decide, fun ad cy m => sh_153 ad cy m⟩
theorem i_154 : isI 0 24 154 := ⟨by decide, fun ad cy m => sh_154 ad cy m⟩
def isP (b : Nat) : Prop := ∃ i : Nat, i < 10 ∧ b = 1 + 8 * i
theorem isP_of {b : Nat} (h : isP b) {Q : Nat → Prop} (h0 : Q 1) (h1 : Q 9) (h2 : Q 17) (h3 : Q 25) (h4 : Q 33) (h5 : Q 41) (h6 : Q 49) (h7 : Q 57) (h8 : Q 65) (h9 : Q 73) : Q b := by
  obtain ⟨i, hi, rfl⟩ := h
  match i, hi with
  | 0, _ => exact h0
  | 1, _ => exact h1
  | 2, _ => exact h2
  | 3, _ => exact h3
  | 4, _ => exact h4
  | 5, _ => exact h5
  | 6, _ => exact h6
  | 7, _ => exact h7
  | 8, _ => exact h8
  | 9, _ => exact h9
theorem oP {b : Nat} (h : isP b) : isO 4 b := isP_of h o_1 o_9 o_17 o_25 o_33 o_41 o_49 o_57 o_65 o_73
theorem fP_0 {b : Nat} (h : isP b) : fR 4 b 0 (b + 1) := isP_of (Q := fun b => fR 4 b 0 (b + 1)) h ⟨by decide, fun ad cy m => ⟨_, sh_1 ad cy m, rfl⟩⟩ ⟨by decide, fun ad cy m => ⟨_, sh_9 ad cy m, rfl⟩⟩ ⟨by decide, fun ad cy m => ⟨_, sh_17 ad cy m, rfl⟩⟩ ⟨by decide, fun ad cy m => ⟨_, sh_25 ad cy m, rfl⟩⟩ ⟨by decide, fun ad cy m => ⟨_, sh_33 ad cy m, rfl⟩⟩ ⟨by decide, fun ad cy m => ⟨_, sh_41 ad cy m, rfl⟩⟩ ⟨by decide, fun ad cy m => ⟨_, sh_49 ad cy m, rfl⟩⟩ ⟨by decide, fun ad cy m => ⟨_, sh_57 ad cy m, rfl⟩⟩ ⟨by decide, fun ad cy m => ⟨_, sh_65 ad cy m, rfl⟩⟩ ⟨by decide, fun ad cy m => ⟨_, sh_73 ad cy m, rfl⟩⟩
theorem iP_0 {b : Nat} (h : isP b) : isI 0 10 (b + 1) := isP_of (Q := fun b => isI 0 10 (b + 1)) h i_2 i_10 i_18 i_26 i_34 i_42 i_50 i_58 i_66 i_74
theorem fP_1 {b : Nat} (h : isP b) : fR 4 b 1 (b + 2) := isP_of (Q := fun b => fR 4 b 1 (b + 2)) h ⟨by decide, fun ad cy m => ⟨_, sh_1 ad cy m, rfl⟩⟩ ⟨by decide, fun ad cy m => ⟨_, sh_9 ad cy m, rfl⟩⟩ ⟨by decide, fun ad cy m => ⟨_, sh_17 ad cy m, rfl⟩⟩ ⟨by decide, fun ad cy m => ⟨_, sh_25 ad cy m, rfl⟩⟩ ⟨by decide, fun ad cy m => ⟨_, sh_33 ad cy m, rfl⟩⟩ ⟨by decide, fun ad cy m => ⟨_, sh_41 ad cy m, rfl⟩⟩ ⟨by decide, fun ad cy m => ⟨_, sh_49 ad cy m, rfl⟩⟩ ⟨by decide, fun ad cy m => ⟨_, sh_57 ad cy m, rfl⟩⟩ ⟨by decide, fun ad cy m => ⟨_, sh_65 ad cy m, rfl⟩⟩ ⟨by decide, fun ad cy m => ⟨_, sh_73 ad cy m, rfl⟩⟩
theorem iP_1 {b : Nat} (h : isP b) : isI 0 10 (b + 2) := isP_of (Q := fun b => isI 0 10 (b + 2)) h i_3 i_11 i_19 i_27 i_35 i_43 i_51 i_59 i_67 i_75
theorem fP_2 {b : Nat} (h : isP b) : fR 4 b 2 (b + 3) := isP_of (Q := fun b => fR 4 b 2 (b + 3)) h ⟨by decide, fun ad cy m => ⟨_, sh_1 ad cy m, rfl⟩⟩ ⟨by decide, fun ad cy m => ⟨_, sh_9 ad cy m, rfl⟩⟩ ⟨by decide, fun ad cy m => ⟨_, sh_17 ad cy m, rfl⟩⟩ ⟨by decide, fun ad cy m => ⟨_, sh_25 ad cy m, rfl⟩⟩ ⟨by decide, fun ad cy m => ⟨_, sh_33 ad cy m, rfl⟩⟩ ⟨by decide, fun ad cy m => ⟨_, sh_41 ad cy m, rfl⟩⟩ ⟨by decide, fun ad cy m => ⟨_, sh_49 ad cy m, rfl⟩⟩ ⟨by decide, fun ad cy m => ⟨_, sh_57 ad cy m, rfl⟩⟩ ⟨by decide, fun ad cy m => ⟨_, sh_65 ad cy m, rfl⟩⟩ ⟨by decide, fun ad cy m => ⟨_, sh_73 ad cy m, rfl⟩⟩
theorem iP_2 {b : Nat} (h : isP b) : isI 0 20 (b + 3) := isP_of (Q := fun b => isI 0 20 (b + 3)) h i_4 i_12 i_20 i_28 i_36 i_44 i_52 i_60 i_68 i_76
theorem fP_3 {b : Nat} (h : isP b) : fR 4 b 3 (b + 4) := isP_of (Q := fun b => fR 4 b 3 (b + 4)) h ⟨by decide, fun ad cy m => ⟨_, sh_1 ad cy m, rfl⟩⟩ ⟨by decide, fun ad cy m => ⟨_, sh_9 ad cy m, rfl⟩⟩ ⟨by decide, fun ad cy m => ⟨_, sh_17 ad cy m, rfl⟩⟩ ⟨by decide, fun ad cy m => ⟨_, sh_25 ad cy m, rfl⟩⟩ ⟨by decide, fun ad cy m => ⟨_, sh_33 ad cy m, rfl⟩⟩ ⟨by decide, fun ad cy m => ⟨_, sh_41 ad cy m, rfl⟩⟩ ⟨by decide, fun ad cy m => ⟨_, sh_49 ad cy m, rfl⟩⟩ ⟨by decide, fun ad cy m => ⟨_, sh_57 ad cy m, rfl⟩⟩ ⟨by decide, fun ad cy m => ⟨_, sh_65 ad cy m, rfl⟩⟩ ⟨by decide, fun ad cy m => ⟨_, sh_73 ad cy m, rfl⟩⟩
theorem iP_3 {b : Nat} (h : isP b) : isI 0 20 (b + 4) := isP_of (Q := fun b => isI 0 20 (b + 4)) h i_5 i_13 i_21 i_29 i_37 i_45 i_53 i_61 i_69 i_77
theorem fP_4 {b : Nat} (h : isP b) : fR 4 b 4 (b + 5) := isP_of (Q := fun b => fR 4 b 4 (b + 5)) h ⟨by decide, fun ad cy m => ⟨_, sh_1 ad cy m, rfl⟩⟩ ⟨by decide, fun ad cy m => ⟨_, sh_9 ad cy m, rfl⟩⟩ ⟨by decide, fun ad cy m => ⟨_, sh_17 ad cy m, rfl⟩⟩ ⟨by decide, fun ad cy m => ⟨_, sh_25 ad cy m, rfl⟩⟩ ⟨by decide, fun ad cy m => ⟨_, sh_33 ad cy m, rfl⟩⟩ ⟨by decide, fun ad cy m => ⟨_, sh_41 ad cy m, rfl⟩⟩ ⟨by decide, fun ad cy m => ⟨_, sh_49 ad cy m, rfl⟩⟩ ⟨by decide, fun ad cy m => ⟨_, sh_57 ad cy m, rfl⟩⟩ ⟨by decide, fun ad cy m => ⟨_, sh_65 ad cy m, rfl⟩⟩ ⟨by decide, fun ad cy m => ⟨_, sh_73 ad cy m, rfl⟩⟩
theorem iP_4 {b : Nat} (h : isP b) : isI 0 20 (b + 5) := isP_of (Q := fun b => isI 0 20 (b + 5)) h i_6 i_14 i_22 i_30 i_38 i_46 i_54 i_62 i_70 i_78
theorem fP_5 {b : Nat} (h : isP b) : fR 4 b 5 (b + 6) := isP_of (Q := fun b => fR 4 b 5 (b + 6)) h ⟨by decide, fun ad cy m => ⟨_, sh_1 ad cy m, rfl⟩⟩ ⟨by decide, fun ad cy m => ⟨_, sh_9 ad cy m, rfl⟩⟩ ⟨by decide, fun ad cy m => ⟨_, sh_17 ad cy m, rfl⟩⟩ ⟨by decide, fun ad cy m => ⟨_, sh_25 ad cy m, rfl⟩⟩ ⟨by decide, fun ad cy m => ⟨_, sh_33 ad cy m, rfl⟩⟩ ⟨by decide, fun ad cy m => ⟨_, sh_41 ad cy m, rfl⟩⟩ ⟨by decide, fun ad cy m => ⟨_, sh_49 ad cy m, rfl⟩⟩ ⟨by decide, fun ad cy m => ⟨_, sh_57 ad cy m, rfl⟩⟩ ⟨by decide, fun ad cy m => ⟨_, sh_65 ad cy m, rfl⟩⟩ ⟨by decide, fun ad cy m => ⟨_, sh_73 ad cy m, rfl⟩⟩
theorem iP_5 {b : Nat} (h : isP b) : isI 0 20 (b + 6) := isP_of (Q := fun b => isI 0 20 (b + 6)) h i_7 i_15 i_23 i_31 i_39 i_47 i_55 i_63 i_71 i_79
theorem fP_6 {b : Nat} (h : isP b) : fR 4 b 6 (b + 7) := isP_of (Q := fun b => fR 4 b 6 (b + 7)) h ⟨by decide, fun ad cy m => ⟨_, sh_1 ad cy m, rfl⟩⟩ ⟨by decide, fun ad cy m => ⟨_, sh_9 ad cy m, rfl⟩⟩ ⟨by decide, fun ad cy m => ⟨_, sh_17 ad cy m, rfl⟩⟩ ⟨by decide, fun ad cy m => ⟨_, sh_25 ad cy m, rfl⟩⟩ ⟨by decide, fun ad cy m => ⟨_, sh_33 ad cy m, rfl⟩⟩ ⟨by decide, fun ad cy m => ⟨_, sh_41 ad cy m, rfl⟩⟩ ⟨by decide, fun ad cy m => ⟨_, sh_49 ad cy m, rfl⟩⟩ ⟨by decide, fun ad cy m => ⟨_, sh_57 ad cy m, rfl⟩⟩ ⟨by decide, fun ad cy m => ⟨_, sh_65 ad cy m, rfl⟩⟩ ⟨by decide, fun ad cy m => ⟨_, sh_73 ad cy m, rfl⟩⟩
theorem iP_6 {b : Nat} (h : isP b) : isI 0 10 (b + 7) := isP_of (Q := fun b => isI 0 10 (b + 7)) h i_8 i_16 i_24 i_32 i_40 i_48 i_56 i_64 i_72 i_80
theorem fP_7 {b : Nat} (h : isP b) : fI 4 b 7 := isP_of (Q := fun b => fI 4 b 7) h ⟨by decide, fun ad cy m => ⟨_, sh_1 ad cy m, rfl, Nat.le_of_ble_eq_true rfl, fun x => rfl⟩⟩ ⟨by decide, fun ad cy m => ⟨_, sh_9 ad cy m, rfl, Nat.le_of_ble_eq_true rfl, fun x => rfl⟩⟩ ⟨by decide, fun ad cy m => ⟨_, sh_17 ad cy m, rfl, Nat.le_of_ble_eq_true rfl, fun x => rfl⟩⟩ ⟨by decide, fun ad cy m => ⟨_, sh_25 ad cy m, rfl, Nat.le_of_ble_eq_true rfl, fun x => rfl⟩⟩ ⟨by decide, fun ad cy m => ⟨_, sh_33 ad cy m, rfl, Nat.le_of_ble_eq_true rfl, fun x => rfl⟩⟩ ⟨by decide, fun ad cy m => ⟨_, sh_41 ad cy m, rfl, Nat.le_of_ble_eq_true rfl, fun x => rfl⟩⟩ ⟨by decide, fun ad cy m => ⟨_, sh_49 ad cy m, rfl, Nat.le_of_ble_eq_true rfl, fun x => rfl⟩⟩ ⟨by decide, fun ad cy m => ⟨_, sh_57 ad cy m, rfl, Nat.le_of_ble_eq_true rfl, fun x => rfl⟩⟩ ⟨by decide, fun ad cy m => ⟨_, sh_65 ad cy m, rfl, Nat.le_of_ble_eq_true rfl, fun x => rfl⟩⟩ ⟨by decide, fun ad cy m => ⟨_, sh_73 ad cy m, rfl, Nat.le_of_ble_eq_true rfl, fun x => rfl⟩⟩
theorem fP_8 {b : Nat} (h : isP b) : fI 4 b 8 := isP_of (Q := fun b => fI 4 b 8) h ⟨by decide, fun ad cy m => ⟨_, sh_1 ad cy m, rfl, Nat.le_of_ble_eq_true rfl, fun x => rfl⟩⟩ ⟨by decide, fun ad cy m => ⟨_, sh_9 ad cy m, rfl, Nat.le_of_ble_eq_true rfl, fun x => rfl⟩⟩ ⟨by decide, fun ad cy m => ⟨_, sh_17 ad cy m, rfl, Nat.le_of_ble_eq_true rfl, fun x => rfl⟩⟩ ⟨by decide, fun ad cy m => ⟨_, sh_25 ad cy m, rfl, Nat.le_of_ble_eq_true rfl, fun x => rfl⟩⟩ ⟨by decide, fun ad cy m => ⟨_, sh_33 ad cy m, rfl, Nat.le_of_ble_eq_true rfl, fun x => rfl⟩⟩ ⟨by decide, fun ad cy m => ⟨_, sh_41 ad cy m, rfl, Nat.le_of_ble_eq_true rfl, fun x => rfl⟩⟩ ⟨by decide, fun ad cy m => ⟨_, sh_49 ad cy m, rfl, Nat.le_of_ble_eq_true rfl, fun x => rfl⟩⟩ ⟨by decide, fun ad cy m => ⟨_, sh_57 ad cy m, rfl, Nat.le_of_ble_eq_true rfl, fun x => rfl⟩⟩ ⟨by decide, fun ad cy m => ⟨_, sh_65 ad cy m, rfl, Nat.le_of_ble_eq_true rfl, fun x => rfl⟩⟩ ⟨by decide, fun ad cy m => ⟨_, sh_73 ad cy m, rfl, Nat.le_of_ble_eq_true rfl, fun x => rfl⟩⟩
theorem row_87 {i : Int32} (h : vp_in i 10) : isI 0 8 (88 + 1 * i.toNatClampNeg) := by
  have h2 : i.toNatClampNeg < 10 := Nat.lt_of_not_le (fun q => h (Or.inr q))
  match i.toNatClampNeg, h2 with
  | 0, _ => exact i_88
  | 1, _ => exact i_89
  | 2, _ => exact i_90
  | 3, _ => exact i_91
  | 4, _ => exact i_92
  | 5, _ => exact i_93
  | 6, _ => exact i_94
  | 7, _ => exact i_95
  | 8, _ => exact i_96
  | 9, _ => exact i_97
theorem row_99 {i : Int32} (h : vp_in i 4) : isI 0 375 (100 + 1 * i.toNatClampNeg) := by
  have h2 : i.toNatClampNeg < 4 := Nat.lt_of_not_le (fun q => h (Or.inr q))
  match i.toNatClampNeg, h2 with
  | 0, _ => exact i_100
  | 1, _ => exact i_101
  | 2, _ => exact i_102
  | 3, _ => exact i_103
theorem row_105 {i : Int32} (h : vp_in i 7) : isI 0 40 (106 + 1 * i.toNatClampNeg) := by
  have h2 : i.toNatClampNeg < 7 := Nat.lt_of_not_le (fun q => h (Or.inr q))
  match i.toNatClampNeg, h2 with
  | 0, _ => exact i_106
  | 1, _ => exact i_107
  | 2, _ => exact i_108
  | 3, _ => exact i_109
  | 4, _ => exact i_110
  | 5, _ => exact i_111
  | 6, _ => exact i_112
theorem row_82 {i : Int32} (h : vp_in i 8) : isP (17 + 8 * i.toNatClampNeg) := by
  have h2 : i.toNatClampNeg < 8 := Nat.lt_of_not_le (fun q => h (Or.inr q))
  exact ⟨i.toNatClampNeg + 2, by omega, by omega⟩
theorem ck_0 : cK 0 RX0 TX0 2 tyX0 := ⟨rfl, by decide +kernel, nmX0, tyX0_ok⟩
theorem ck_1 : cK 1 RX1 TX1 3 tyX1 := ⟨rfl, by decide +kernel, nmX1, tyX1_ok⟩
theorem ck_2 : cK 2 RX2 TX2 8 tyX2 := ⟨rfl, by decide +kernel, nmX2, tyX2_ok⟩
theorem ck_3 : cK 3 RX3 TX3 2 tyX3 := ⟨rfl, by decide +kernel, nmX3, tyX3_ok⟩
theorem ck_4 : cK 4 RX4 TX4 9 tyX4 := ⟨rfl, by decide +kernel, nmX4, tyX4_ok⟩
theorem ck_5 : cK 5 RX5 TX5 4 tyX5 := ⟨rfl, by decide +kernel, nmX5, tyX5_ok⟩
theorem ck_6 : cK 6 RX6 TX6 3 tyX6 := ⟨rfl, by decide +kernel, nmX6, tyX6_ok⟩
theorem ck_7 : cK 7 RX7 TX7 7 tyX7 := ⟨rfl, by decide +kernel, nmX7, tyX7_ok⟩
theorem ck_8 : cK 8 RX8 TX8 10 tyX8 := ⟨rfl, by decide +kernel, nmX8, tyX8_ok⟩
theorem ck_9 : cK 9 RX9 TX9 10 tyX9 := ⟨rfl, by decide +kernel, nmX9, tyX9_ok⟩
theorem ck_10 : cK 10 RX10 TX10 58 tyX10 := ⟨rfl, by decide +kernel, nmX10, tyX10_ok⟩
