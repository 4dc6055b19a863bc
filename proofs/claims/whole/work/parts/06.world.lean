def wx (g : Gx) (μ : Mm) : va_W := [(ad g 0, .inr (11, [.ref (ad g 1), .ref (ad g 2), .ref (ad g 3), .ref (ad g 4), .ref (ad g 5), .ref (ad g 6), .ref (ad g 7), .ref (ad g 8), .ref (ad g 9), .ref (ad g 12), .ref (ad g 13), .ref (ad g 11), .int (μ 0 12)])),
  (ad g 1, .inr (9, [.ref (ad g 14), .int (μ 1 1)])),
  (ad g 2, .inr (2, [.ref (ad g 15), .ref (ad g 16), .ref (ad g 17), .ref (ad g 18), .ref (ad g 19), .ref (ad g 20), .ref (ad g 21), .ref (ad g 22), .ref (ad g 23), .ref (ad g 24), .int (μ 2 10)])),
  (ad g 3, .inr (5, [.ref (ad g 25), .ref (ad g 26), .ref (ad g 27), .ref (ad g 28), .ref (ad g 29), .ref (ad g 30), .ref (ad g 31), .int (μ 3 7)])),
  (ad g 4, .inr (8, [.ref (ad g 32), .ref (ad g 33), .ref (ad g 34), .ref (ad g 35), .ref (ad g 36), .ref (ad g 37), .ref (ad g 38), .ref (ad g 39), .ref (ad g 40), .ref (ad g 41), .ref (ad g 42), .ref (ad g 43), .int (μ 4 12), .int (μ 4 13)])),
  (ad g 5, .inr (1, [.ref (ad g 44), .ref (ad g 45), .ref (ad g 46), .ref (ad g 47), .int (μ 5 4), .int (μ 5 5)])),
  (ad g 6, .inr (0, [.ref (ad g 48), .ref (ad g 49), .ref (ad g 50), .ref (ad g 51), .int (μ 6 4), .int (μ 6 5)])),
  (ad g 7, .inr (10, [.ref (ad g 2), .ref (ad g 3), .ref (ad g 4), .ref (ad g 52), .ref (ad g 10)])),
  (ad g 8, .inr (6, [.ref (ad g 4), .ref (ad g 53), .ref (ad g 54), .ref (ad g 55), .int (μ 8 4), .int (μ 8 5)])),
  (ad g 9, .inr (7, [.ref (ad g 56), .ref (ad g 57), .ref (ad g 58), .ref (ad g 59), .ref (ad g 60), .ref (ad g 61), .ref (ad g 62), .int (μ 9 7), .int (μ 9 8), .int (μ 9 9), .int (μ 9 10), .int (μ 9 11), .int (μ 9 12), .int (μ 9 13), .int (μ 9 14)])),
  (ad g 10, .inr (3, [.ref (ad g 63), .ref (ad g 64), .ref (ad g 65), .ref (ad g 66), .ref (ad g 67), .ref (ad g 68), .ref (ad g 69), .int (μ 10 7), .int (μ 10 8), .int (μ 10 9), .int (μ 10 10)])),
  (ad g 11, .inr (3, [.ref (ad g 70), .ref (ad g 71), .ref (ad g 72), .ref (ad g 73), .ref (ad g 74), .ref (ad g 75), .ref (ad g 76), .int (μ 11 7), .int (μ 11 8), .int (μ 11 9), .int (μ 11 10)])),
  (ad g 12, .inl (cI g, 3, .inl (μ 12))),
  (ad g 13, .inl (cI g, 3, .inl (μ 13))),
  (ad g 14, .inl (cI g, 400, .inl (μ 14))),
  (ad g 15, .inl (cI g, 32, .inl (μ 15))),
  (ad g 16, .inl (cI g, 32, .inl (μ 16))),
  (ad g 17, .inl (cI g, 32, .inl (μ 17))),
  (ad g 18, .inl (cI g, 32, .inl (μ 18))),
  (ad g 19, .inl (cI g, 32, .inl (μ 19))),
  (ad g 20, .inl (cI g, 32, .inl (μ 20))),
  (ad g 21, .inl (cI g, 32, .inl (μ 21))),
  (ad g 22, .inl (cI g, 32, .inl (μ 22))),
  (ad g 23, .inl (cI g, 32, .inl (μ 23))),
  (ad g 24, .inl (cI g, 8, .inl (μ 24))),
  (ad g 25, .inl (cI g, 16, .inl (μ 25))),
  (ad g 26, .inl (cI g, 16, .inl (μ 26))),
  (ad g 27, .inl (cI g, 128, .inl (μ 27))),
  (ad g 28, .inl (cI g, 16, .inl (μ 28))),
  (ad g 29, .inl (cI g, 16, .inl (μ 29))),
  (ad g 30, .inl (cI g, 16, .inl (μ 30))),
  (ad g 31, .inl (cI g, 16, .inl (μ 31))),
  (ad g 32, .inl (cI g, 10, .inl (μ 32))),
  (ad g 33, .inl (cI g, 10, .inl (μ 33))),
  (ad g 34, .inl (cI g, 10, .inl (μ 34))),
  (ad g 35, .inl (cI g, 10, .inl (μ 35))),
  (ad g 36, .inl (cI g, 10, .inl (μ 36))),
  (ad g 37, .inl (cI g, 10, .inl (μ 37))),
  (ad g 38, .inl (cI g, 10, .inl (μ 38))),
  (ad g 39, .inl (cI g, 10, .inl (μ 39))),
  (ad g 40, .inl (cI g, 10, .inl (μ 40))),
  (ad g 41, .inl (cI g, 42, .inl (μ 41))),
  (ad g 42, .inl (cI g, 600, .inl (μ 42))),
  (ad g 43, .inl (cI g, 600, .inl (μ 43))),
  (ad g 44, .inl (cI g, 512, .inl (μ 44))),
  (ad g 45, .inl (cI g, 16, .inl (μ 45))),
  (ad g 46, .inl (cI g, 16, .inl (μ 46))),
  (ad g 47, .inl (cI g, 16, .inl (μ 47))),
  (ad g 48, .inl (cI g, 200, .inl (μ 48))),
  (ad g 49, .inl (cI g, 200, .inl (μ 49))),
  (ad g 50, .inl (cI g, 200, .inl (μ 50))),
  (ad g 51, .inl (cI g, 200, .inl (μ 51))),
  (ad g 52, .inl (cI g, 128, .inl (μ 52))),
  (ad g 53, .inl (cI g, 8, .inl (μ 53))),
  (ad g 54, .inl (cI g, 81, .inl (μ 54))),
  (ad g 55, .inl (cI g, 2304, .inl (μ 55))),
  (ad g 56, .inl (cI g, 12, .inl (μ 56))),
  (ad g 57, .inl (cI g, 12, .inl (μ 57))),
  (ad g 58, .inl (cI g, 12, .inl (μ 58))),
  (ad g 59, .inl (cI g, 12, .inl (μ 59))),
  (ad g 60, .inl (cI g, 4096, .inl (μ 60))),
  (ad g 61, .inl (cI g, 16, .inl (μ 61))),
  (ad g 62, .inl (cI g, 32, .inl (μ 62))),
  (ad g 63, .inl (cI g, 200, .inl (μ 63))),
  (ad g 64, .inl (cI g, 200, .inl (μ 64))),
  (ad g 65, .inl (cI g, 14, .inl (μ 65))),
  (ad g 66, .inl (cI g, 14, .inl (μ 66))),
  (ad g 67, .inl (cI g, 14, .inl (μ 67))),
  (ad g 68, .inl (cI g, 14, .inl (μ 68))),
  (ad g 69, .inl (cI g, 64, .inl (μ 69))),
  (ad g 70, .inl (cI g, 200, .inl (μ 70))),
  (ad g 71, .inl (cI g, 200, .inl (μ 71))),
  (ad g 72, .inl (cI g, 14, .inl (μ 72))),
  (ad g 73, .inl (cI g, 14, .inl (μ 73))),
  (ad g 74, .inl (cI g, 14, .inl (μ 74))),
  (ad g 75, .inl (cI g, 14, .inl (μ 75))),
  (ad g 76, .inl (cI g, 64, .inl (μ 76)))] ++ g.2.2.2
def wy (g : Gx) (μ : Mm) : va_W := [(ad g 0, .inr (11, [.ref (ad g 1), .ref (ad g 2), .ref (ad g 3), .ref (ad g 4), .ref (ad g 5), .ref (ad g 6), .ref (ad g 7), .ref (ad g 8), .ref (ad g 9), .ref (ad g 12), .ref (ad g 13), .ref (ad g 11), .int (μ 0 12)])),
  (ad g 1, .inr (9, [.ref (ad g 14), .int (μ 1 1)])),
  (ad g 2, .inr (2, [.ref (ad g 15), .ref (ad g 16), .ref (ad g 17), .ref (ad g 18), .ref (ad g 19), .ref (ad g 20), .ref (ad g 21), .ref (ad g 22), .ref (ad g 23), .ref (ad g 24), .int (μ 2 10)])),
  (ad g 3, .inr (5, [.ref (ad g 25), .ref (ad g 26), .ref (ad g 27), .ref (ad g 28), .ref (ad g 29), .ref (ad g 30), .ref (ad g 31), .int (μ 3 7)])),
  (ad g 4, .inr (8, [.ref (ad g 32), .ref (ad g 33), .ref (ad g 34), .ref (ad g 35), .ref (ad g 36), .ref (ad g 37), .ref (ad g 38), .ref (ad g 39), .ref (ad g 40), .ref (ad g 41), .ref (ad g 42), .ref (ad g 43), .int (μ 4 12), .int (μ 4 13)])),
  (ad g 5, .inr (1, [.ref (ad g 44), .ref (ad g 45), .ref (ad g 46), .ref (ad g 47), .int (μ 5 4), .int (μ 5 5)])),
  (ad g 6, .inr (0, [.ref (ad g 48), .ref (ad g 49), .ref (ad g 50), .ref (ad g 51), .int (μ 6 4), .int (μ 6 5)])),
  (ad g 7, .inr (10, [.ref (ad g 2), .ref (ad g 3), .ref (ad g 4), .ref (ad g 52), .ref (ad g 10)])),
  (ad g 8, .inr (6, [.ref (ad g 4), .ref (ad g 53), .ref (ad g 54), .ref (ad g 55), .int (μ 8 4), .int (μ 8 5)])),
  (ad g 9, .inr (7, [.ref (ad g 56), .ref (ad g 57), .ref (ad g 58), .ref (ad g 59), .ref (ad g 60), .ref (ad g 61), .ref (ad g 62), .int (μ 9 7), .int (μ 9 8), .int (μ 9 9), .int (μ 9 10), .int (μ 9 11), .int (μ 9 12), .int (μ 9 13), .int (μ 9 14)])),
  (ad g 10, .inr (3, [.ref (ad g 63), .ref (ad g 64), .ref (ad g 65), .ref (ad g 66), .ref (ad g 67), .ref (ad g 68), .ref (ad g 69), .int (μ 10 7), .int (μ 10 8), .int (μ 10 9), .int (μ 10 10)])),
  (ad g 11, .inr (3, [.ref (ad g 70), .ref (ad g 71), .ref (ad g 72), .ref (ad g 73), .ref (ad g 74), .ref (ad g 75), .ref (ad g 76), .int (μ 11 7), .int (μ 11 8), .int (μ 11 9), .int (μ 11 10)])),
  (ad g 12, .inl (cI g, 3, .inl (μ 12))),
  (ad g 13, .inl (cI g, 3, .inl (μ 13))),
  (ad g 14, .inl (cI g, 400, .inl (μ 14))),
  (ad g 15, .inl (cI g, 32, .inl (μ 15))),
  (ad g 16, .inl (cI g, 32, .inl (μ 16))),
  (ad g 17, .inl (cI g, 32, .inl (μ 17))),
  (ad g 18, .inl (cI g, 32, .inl (μ 18))),
  (ad g 19, .inl (cI g, 32, .inl (μ 19))),
  (ad g 20, .inl (cI g, 32, .inl (μ 20))),
  (ad g 21, .inl (cI g, 32, .inl (μ 21))),
  (ad g 22, .inl (cI g, 32, .inl (μ 22))),
  (ad g 23, .inl (cI g, 32, .inl (μ 23))),
  (ad g 24, .inl (cI g, 8, .inl (μ 24))),
  (ad g 25, .inl (cI g, 16, .inl (μ 25))),
  (ad g 26, .inl (cI g, 16, .inl (μ 26))),
  (ad g 27, .inl (cI g, 128, .inl (μ 27))),
  (ad g 28, .inl (cI g, 16, .inl (μ 28))),
  (ad g 29, .inl (cI g, 16, .inl (μ 29))),
  (ad g 30, .inl (cI g, 16, .inl (μ 30))),
  (ad g 31, .inl (cI g, 16, .inl (μ 31))),
  (ad g 32, .inl (cI g, 10, .inl (μ 32))),
  (ad g 33, .inl (cI g, 10, .inl (μ 33))),
  (ad g 34, .inl (cI g, 10, .inl (μ 34))),
  (ad g 35, .inl (cI g, 10, .inl (μ 35))),
  (ad g 36, .inl (cI g, 10, .inl (μ 36))),
  (ad g 37, .inl (cI g, 10, .inl (μ 37))),
  (ad g 38, .inl (cI g, 10, .inl (μ 38))),
  (ad g 39, .inl (cI g, 10, .inl (μ 39))),
  (ad g 40, .inl (cI g, 10, .inl (μ 40))),
  (ad g 41, .inl (cI g, 42, .inl (μ 41))),
  (ad g 42, .inl (cI g, 600, .inl (μ 42))),
  (ad g 43, .inl (cI g, 600, .inl (μ 43))),
  (ad g 44, .inl (cI g, 512, .inl (μ 44))),
  (ad g 45, .inl (cI g, 16, .inl (μ 45))),
  (ad g 46, .inl (cI g, 16, .inl (μ 46))),
  (ad g 47, .inl (cI g, 16, .inl (μ 47))),
  (ad g 48, .inl (cI g, 200, .inl (μ 48))),
  (ad g 49, .inl (cI g, 200, .inl (μ 49))),
  (ad g 50, .inl (cI g, 200, .inl (μ 50))),
  (ad g 51, .inl (cI g, 200, .inl (μ 51))),
  (ad g 52, .inl (cI g, 128, .inl (μ 52))),
  (ad g 53, .inl (cI g, 8, .inl (μ 53))),
  (ad g 54, .inl (cI g, 81, .inl (μ 54))),
  (ad g 55, .inl (cI g, 2304, .inl (μ 55))),
  (ad g 56, .inl (cI g, 12, .inl (μ 56))),
  (ad g 57, .inl (cI g, 12, .inl (μ 57))),
  (ad g 58, .inl (cI g, 12, .inl (μ 58))),
  (ad g 59, .inl (cI g, 12, .inl (μ 59))),
  (ad g 60, .inl (cI g, 4096, .inl (μ 60))),
  (ad g 61, .inl (cI g, 16, .inl (μ 61))),
  (ad g 62, .inl (cI g, 32, .inl (μ 62))),
  (ad g 63, .inl (cI g, 200, .inl (μ 63))),
  (ad g 64, .inl (cI g, 200, .inl (μ 64))),
  (ad g 65, .inl (cI g, 14, .inl (μ 65))),
  (ad g 66, .inl (cI g, 14, .inl (μ 66))),
  (ad g 67, .inl (cI g, 14, .inl (μ 67))),
  (ad g 68, .inl (cI g, 14, .inl (μ 68))),
  (ad g 69, .inl (cI g, 64, .inl (μ 69))),
  (ad g 70, .inl (cI g, 200, .inl (μ 70))),
  (ad g 71, .inl (cI g, 200, .inl (μ 71))),
  (ad g 72, .inl (cI g, 14, .inl (μ 72))),
  (ad g 73, .inl (cI g, 14, .inl (μ 73))),
  (ad g 74, .inl (cI g, 14, .inl (μ 74))),
  (ad g 75, .inl (cI g, 14, .inl (μ 75))),
  (ad g 76, .inl (cI g, 64, .inl (μ 76))),
  (ad g 77, .inr (4, [.ref (ad g 14), .int (μ 77 1), .ref (ad g 11), .int (μ 77 3), .int (μ 77 4)]))] ++ g.2.2.2
def wm (g : Gx) (μ : Mm) : va_W := [(ad g 0, .inr (12, [.int (μ 0 0), .int (μ 0 1), .int (μ 0 2), .int (μ 0 3), .int (μ 0 4), .int (μ 0 5), .ref (ad g 1), .ref (ad g 2), .ref (ad g 3), .ref (ad g 4), .ref (ad g 5), .ref (ad g 6), .ref (ad g 7), .ref (ad g 8), .ref (ad g 9), .ref (ad g 10), .ref (ad g 11), .ref (ad g 12), .ref (ad g 13), .ref (ad g 14), .ref (ad g 15), .ref (ad g 16), .ref (ad g 17), .ref (ad g 18), .ref (ad g 19), .ref (ad g 20), .ref (ad g 21), .ref (ad g 22), .ref (ad g 23), .ref (ad g 24), .ref (ad g 25), .ref (ad g 26), .ref (ad g 27), .ref (ad g 28), .ref (ad g 29), .int (μ 0 35), .int (μ 0 36), .ref (ad g 30), .int (μ 0 38), .int (μ 0 39), .int (μ 0 40), .int (μ 0 41), .int (μ 0 42), .int (μ 0 43), .int (μ 0 44), .int (μ 0 45), .int (μ 0 46), .ref (ad g 31), .ref (ad g 32), .ref (ad g 33), .ref (ad g 34), .ref (ad g 35), .ref (ad g 36), .ref (ad g 37), .ref (ad g 38), .ref (ad g 39), .ref (ad g 40), .ref (ad g 41), .int (μ 0 58), .ref (ad g 42), .ref (ad g 43), .int (μ 0 61), .ref (ad g 44), .ref (ad g 45), .ref (ad g 46), .ref (ad g 47), .ref (ad g 48), .ref (ad g 49), .int (μ 0 68), .ref (ad g 50), .ref (ad g 51), .ref (ad g 52), .ref (ad g 53), .ref (ad g 54), .ref (ad g 55), .ref (ad g 56), .ref (ad g 57), .int (μ 0 77)])),
  (ad g 1, .inl (cI g, 32, .inl (μ 1))),
  (ad g 2, .inl (cI g, 32, .inl (μ 2))),
  (ad g 3, .inl (cI g, 32, .inl (μ 3))),
  (ad g 4, .inl (cI g, 32, .inl (μ 4))),
  (ad g 5, .inl (cI g, 32, .inl (μ 5))),
  (ad g 6, .inl (cI g, 32, .inl (μ 6))),
  (ad g 7, .inl (cI g, 32, .inl (μ 7))),
  (ad g 8, .inl (cI g, 32, .inl (μ 8))),
  (ad g 9, .inl (cI g, 3, .inl (μ 9))),
  (ad g 10, .inl (cI g, 10, .inl (μ 10))),
  (ad g 11, .inl (cI g, 10, .inl (μ 11))),
  (ad g 12, .inl (cI g, 10, .inl (μ 12))),
  (ad g 13, .inl (cI g, 10, .inl (μ 13))),
  (ad g 14, .inl (cI g, 10, .inl (μ 14))),
  (ad g 15, .inl (cI g, 16, .inl (μ 15))),
  (ad g 16, .inl (cI g, 16, .inl (μ 16))),
  (ad g 17, .inl (cI g, 128, .inl (μ 17))),
  (ad g 18, .inl (cI g, 16, .inl (μ 18))),
  (ad g 19, .inl (cI g, 16, .inl (μ 19))),
  (ad g 20, .inl (cI g, 512, .inl (μ 20))),
  (ad g 21, .inl (cZ g, 512, .inl (μ 21))),
  (ad g 22, .inl (cZ g, 600, .inl (μ 22))),
  (ad g 23, .inl (cZ g, 6000, .inl (μ 23))),
  (ad g 24, .inl (cI g, 10, .inl (μ 24))),
  (ad g 25, .inl (cI g, 10, .inl (μ 25))),
  (ad g 26, .inl (cI g, 10, .inl (μ 26))),
  (ad g 27, .inl (cI g, 8, .inl (μ 27))),
  (ad g 28, .inl (cI g, 3, .inl (μ 28))),
  (ad g 29, .inl (cI g, 10, .inl (μ 29))),
  (ad g 30, .inl (cB g, 400, .inl (μ 30))),
  (ad g 31, .inl (cI g, 220, .inl (μ 31))),
  (ad g 32, .inl (cI g, 220, .inl (μ 32))),
  (ad g 33, .inl (cI g, 14, .inl (μ 33))),
  (ad g 34, .inl (cI g, 14, .inl (μ 34))),
  (ad g 35, .inl (cI g, 14, .inl (μ 35))),
  (ad g 36, .inl (cI g, 14, .inl (μ 36))),
  (ad g 37, .inl (cI g, 220, .inl (μ 37))),
  (ad g 38, .inl (cI g, 14, .inl (μ 38))),
  (ad g 39, .inl (cI g, 14, .inl (μ 39))),
  (ad g 40, .inl (cI g, 14, .inl (μ 40))),
  (ad g 41, .inl (cI g, 14, .inl (μ 41))),
  (ad g 42, .inl (cI g, 220, .inl (μ 42))),
  (ad g 43, .inl (cI g, 12, .inl (μ 43))),
  (ad g 44, .inl (cI g, 200, .inl (μ 44))),
  (ad g 45, .inl (cI g, 200, .inl (μ 45))),
  (ad g 46, .inl (cI g, 200, .inl (μ 46))),
  (ad g 47, .inl (cI g, 200, .inl (μ 47))),
  (ad g 48, .inl (cI g, 16, .inl (μ 48))),
  (ad g 49, .inl (cI g, 16, .inl (μ 49))),
  (ad g 50, .inl (cZ g, 512, .inl (μ 50))),
  (ad g 51, .inl (cI g, 16, .inl (μ 51))),
  (ad g 52, .inl (cI g, 32, .inl (μ 52))),
  (ad g 53, .inl (cI g, 16, .inl (μ 53))),
  (ad g 54, .inl (cI g, 32, .inl (μ 54))),
  (ad g 55, .inl (cI g, 12, .inl (μ 55))),
  (ad g 56, .inl (cI g, 10, .inl (μ 56))),
  (ad g 57, .inl (cI g, 2048, .inl (μ 57)))] ++ g.2.2.2
def wf (g : Gx) (μ : Mm) : va_W := [(ad g 0, .inl (cI g, 512, .inl (μ 0)))] ++ g.2.2.2
def wh (g : Gx) (μ : Mm) : va_W := [(ad g 0, .inl (cI g, 3, .inl (μ 0)))] ++ g.2.2.2
section
variable (g : Gx) (μ : Mm)
theorem wx_0 : (wx g μ)[0]? = some (ad g 0, .inr (11, [.ref (ad g 1), .ref (ad g 2), .ref (ad g 3), .ref (ad g 4), .ref (ad g 5), .ref (ad g 6), .ref (ad g 7), .ref (ad g 8), .ref (ad g 9), .ref (ad g 12), .ref (ad g 13), .ref (ad g 11), .int (μ 0 12)])) := rfl
theorem wx_1 : (wx g μ)[1]? = some (ad g 1, .inr (9, [.ref (ad g 14), .int (μ 1 1)])) := rfl
theorem wx_2 : (wx g μ)[2]? = some (ad g 2, .inr (2, [.ref (ad g 15), .ref (ad g 16), .ref (ad g 17), .ref (ad g 18), .ref (ad g 19), .ref (ad g 20), .ref (ad g 21), .ref (ad g 22), .ref (ad g 23), .ref (ad g 24), .int (μ 2 10)])) := rfl
theorem wx_3 : (wx g μ)[3]? = some (ad g 3, .inr (5, [.ref (ad g 25), .ref (ad g 26), .ref (ad g 27), .ref (ad g 28), .ref (ad g 29), .ref (ad g 30), .ref (ad g 31), .int (μ 3 7)])) := rfl
theorem wx_4 : (wx g μ)[4]? = some (ad g 4, .inr (8, [.ref (ad g 32), .ref (ad g 33), .ref (ad g 34), .ref (ad g 35), .ref (ad g 36), .ref (ad g 37), .ref (ad g 38), .ref (ad g 39), .ref (ad g 40), .ref (ad g 41), .ref (ad g 42), .ref (ad g 43), .int (μ 4 12), .int (μ 4 13)])) := rfl
theorem wx_5 : (wx g μ)[5]? = some (ad g 5, .inr (1, [.ref (ad g 44), .ref (ad g 45), .ref (ad g 46), .ref (ad g 47), .int (μ 5 4), .int (μ 5 5)])) := rfl
theorem wx_6 : (wx g μ)[6]? = some (ad g 6, .inr (0, [.ref (ad g 48), .ref (ad g 49), .ref (ad g 50), .ref (ad g 51), .int (μ 6 4), .int (μ 6 5)])) := rfl
theorem wx_7 : (wx g μ)[7]? = some (ad g 7, .inr (10, [.ref (ad g 2), .ref (ad g 3), .ref (ad g 4), .ref (ad g 52), .ref (ad g 10)])) := rfl
theorem wx_8 : (wx g μ)[8]? = some (ad g 8, .inr (6, [.ref (ad g 4), .ref (ad g 53), .ref (ad g 54), .ref (ad g 55), .int (μ 8 4), .int (μ 8 5)])) := rfl
theorem wx_9 : (wx g μ)[9]? = some (ad g 9, .inr (7, [.ref (ad g 56), .ref (ad g 57), .ref (ad g 58), .ref (ad g 59), .ref (ad g 60), .ref (ad g 61), .ref (ad g 62), .int (μ 9 7), .int (μ 9 8), .int (μ 9 9), .int (μ 9 10), .int (μ 9 11), .int (μ 9 12), .int (μ 9 13), .int (μ 9 14)])) := rfl
theorem wx_10 : (wx g μ)[10]? = some (ad g 10, .inr (3, [.ref (ad g 63), .ref (ad g 64), .ref (ad g 65), .ref (ad g 66), .ref (ad g 67), .ref (ad g 68), .ref (ad g 69), .int (μ 10 7), .int (μ 10 8), .int (μ 10 9), .int (μ 10 10)])) := rfl
theorem wx_11 : (wx g μ)[11]? = some (ad g 11, .inr (3, [.ref (ad g 70), .ref (ad g 71), .ref (ad g 72), .ref (ad g 73), .ref (ad g 74), .ref (ad g 75), .ref (ad g 76), .int (μ 11 7), .int (μ 11 8), .int (μ 11 9), .int (μ 11 10)])) := rfl
theorem wx_12 : (wx g μ)[12]? = some (ad g 12, .inl (cI g, 3, .inl (μ 12))) := rfl
theorem wx_13 : (wx g μ)[13]? = some (ad g 13, .inl (cI g, 3, .inl (μ 13))) := rfl
theorem wx_14 : (wx g μ)[14]? = some (ad g 14, .inl (cI g, 400, .inl (μ 14))) := rfl
theorem wx_15 : (wx g μ)[15]? = some (ad g 15, .inl (cI g, 32, .inl (μ 15))) := rfl
theorem wx_16 : (wx g μ)[16]? = some (ad g 16, .inl (cI g, 32, .inl (μ 16))) := rfl
theorem wx_17 : (wx g μ)[17]? = some (ad g 17, .inl (cI g, 32, .inl (μ 17))) := rfl
theorem wx_18 : (wx g μ)[18]? = some (ad g 18, .inl (cI g, 32, .inl (μ 18))) := rfl
theorem wx_19 : (wx g μ)[19]? = some (ad g 19, .inl (cI g, 32, .inl (μ 19))) := rfl
theorem wx_20 : (wx g μ)[20]? = some (ad g 20, .inl (cI g, 32, .inl (μ 20))) := rfl
theorem wx_21 : (wx g μ)[21]? = some (ad g 21, .inl (cI g, 32, .inl (μ 21))) := rfl
theorem wx_22 : (wx g μ)[22]? = some (ad g 22, .inl (cI g, 32, .inl (μ 22))) := rfl
theorem wx_23 : (wx g μ)[23]? = some (ad g 23, .inl (cI g, 32, .inl (μ 23))) := rfl
theorem wx_24 : (wx g μ)[24]? = some (ad g 24, .inl (cI g, 8, .inl (μ 24))) := rfl
theorem wx_25 : (wx g μ)[25]? = some (ad g 25, .inl (cI g, 16, .inl (μ 25))) := rfl
theorem wx_26 : (wx g μ)[26]? = some (ad g 26, .inl (cI g, 16, .inl (μ 26))) := rfl
theorem wx_27 : (wx g μ)[27]? = some (ad g 27, .inl (cI g, 128, .inl (μ 27))) := rfl
theorem wx_28 : (wx g μ)[28]? = some (ad g 28, .inl (cI g, 16, .inl (μ 28))) := rfl
theorem wx_29 : (wx g μ)[29]? = some (ad g 29, .inl (cI g, 16, .inl (μ 29))) := rfl
theorem wx_30 : (wx g μ)[30]? = some (ad g 30, .inl (cI g, 16, .inl (μ 30))) := rfl
theorem wx_31 : (wx g μ)[31]? = some (ad g 31, .inl (cI g, 16, .inl (μ 31))) := rfl
theorem wx_32 : (wx g μ)[32]? = some (ad g 32, .inl (cI g, 10, .inl (μ 32))) := rfl
theorem wx_33 : (wx g μ)[33]? = some (ad g 33, .inl (cI g, 10, .inl (μ 33))) := rfl
theorem wx_34 : (wx g μ)[34]? = some (ad g 34, .inl (cI g, 10, .inl (μ 34))) := rfl
theorem wx_35 : (wx g μ)[35]? = some (ad g 35, .inl (cI g, 10, .inl (μ 35))) := rfl
theorem wx_36 : (wx g μ)[36]? = some (ad g 36, .inl (cI g, 10, .inl (μ 36))) := rfl
theorem wx_37 : (wx g μ)[37]? = some (ad g 37, .inl (cI g, 10, .inl (μ 37))) := rfl
theorem wx_38 : (wx g μ)[38]? = some (ad g 38, .inl (cI g, 10, .inl (μ 38))) := rfl
theorem wx_39 : (wx g μ)[39]? = some (ad g 39, .inl (cI g, 10, .inl (μ 39))) := rfl
theorem wx_40 : (wx g μ)[40]? = some (ad g 40, .inl (cI g, 10, .inl (μ 40))) := rfl
theorem wx_41 : (wx g μ)[41]? = some (ad g 41, .inl (cI g, 42, .inl (μ 41))) := rfl
theorem wx_42 : (wx g μ)[42]? = some (ad g 42, .inl (cI g, 600, .inl (μ 42))) := rfl
theorem wx_43 : (wx g μ)[43]? = some (ad g 43, .inl (cI g, 600, .inl (μ 43))) := rfl
theorem wx_44 : (wx g μ)[44]? = some (ad g 44, .inl (cI g, 512, .inl (μ 44))) := rfl
theorem wx_45 : (wx g μ)[45]? = some (ad g 45, .inl (cI g, 16, .inl (μ 45))) := rfl
theorem wx_46 : (wx g μ)[46]? = some (ad g 46, .inl (cI g, 16, .inl (μ 46))) := rfl
theorem wx_47 : (wx g μ)[47]? = some (ad g 47, .inl (cI g, 16, .inl (μ 47))) := rfl
theorem wx_48 : (wx g μ)[48]? = some (ad g 48, .inl (cI g, 200, .inl (μ 48))) := rfl
theorem wx_49 : (wx g μ)[49]? = some (ad g 49, .inl (cI g, 200, .inl (μ 49))) := rfl
theorem wx_50 : (wx g μ)[50]? = some (ad g 50, .inl (cI g, 200, .inl (μ 50))) := rfl
theorem wx_51 : (wx g μ)[51]? = some (ad g 51, .inl (cI g, 200, .inl (μ 51))) := rfl
theorem wx_52 : (wx g μ)[52]? = some (ad g 52, .inl (cI g, 128, .inl (μ 52))) := rfl
theorem wx_53 : (wx g μ)[53]? = some (ad g 53, .inl (cI g, 8, .inl (μ 53))) := rfl
theorem wx_54 : (wx g μ)[54]? = some (ad g 54, .inl (cI g, 81, .inl (μ 54))) := rfl
theorem wx_55 : (wx g μ)[55]? = some (ad g 55, .inl (cI g, 2304, .inl (μ 55))) := rfl
theorem wx_56 : (wx g μ)[56]? = some (ad g 56, .inl (cI g, 12, .inl (μ 56))) := rfl
theorem wx_57 : (wx g μ)[57]? = some (ad g 57, .inl (cI g, 12, .inl (μ 57))) := rfl
theorem wx_58 : (wx g μ)[58]? = some (ad g 58, .inl (cI g, 12, .inl (μ 58))) := rfl
theorem wx_59 : (wx g μ)[59]? = some (ad g 59, .inl (cI g, 12, .inl (μ 59))) := rfl
theorem wx_60 : (wx g μ)[60]? = some (ad g 60, .inl (cI g, 4096, .inl (μ 60))) := rfl
theorem wx_61 : (wx g μ)[61]? = some (ad g 61, .inl (cI g, 16, .inl (μ 61))) := rfl
theorem wx_62 : (wx g μ)[62]? = some (ad g 62, .inl (cI g, 32, .inl (μ 62))) := rfl
theorem wx_63 : (wx g μ)[63]? = some (ad g 63, .inl (cI g, 200, .inl (μ 63))) := rfl
theorem wx_64 : (wx g μ)[64]? = some (ad g 64, .inl (cI g, 200, .inl (μ 64))) := rfl
theorem wx_65 : (wx g μ)[65]? = some (ad g 65, .inl (cI g, 14, .inl (μ 65))) := rfl
theorem wx_66 : (wx g μ)[66]? = some (ad g 66, .inl (cI g, 14, .inl (μ 66))) := rfl
theorem wx_67 : (wx g μ)[67]? = some (ad g 67, .inl (cI g, 14, .inl (μ 67))) := rfl
theorem wx_68 : (wx g μ)[68]? = some (ad g 68, .inl (cI g, 14, .inl (μ 68))) := rfl
theorem wx_69 : (wx g μ)[69]? = some (ad g 69, .inl (cI g, 64, .inl (μ 69))) := rfl
theorem wx_70 : (wx g μ)[70]? = some (ad g 70, .inl (cI g, 200, .inl (μ 70))) := rfl
theorem wx_71 : (wx g μ)[71]? = some (ad g 71, .inl (cI g, 200, .inl (μ 71))) := rfl
theorem wx_72 : (wx g μ)[72]? = some (ad g 72, .inl (cI g, 14, .inl (μ 72))) := rfl
theorem wx_73 : (wx g μ)[73]? = some (ad g 73, .inl (cI g, 14, .inl (μ 73))) := rfl
theorem wx_74 : (wx g μ)[74]? = some (ad g 74, .inl (cI g, 14, .inl (μ 74))) := rfl
theorem wx_75 : (wx g μ)[75]? = some (ad g 75, .inl (cI g, 14, .inl (μ 75))) := rfl
theorem wx_76 : (wx g μ)[76]? = some (ad g 76, .inl (cI g, 64, .inl (μ 76))) := rfl
theorem wy_0 : (wy g μ)[0]? = some (ad g 0, .inr (11, [.ref (ad g 1), .ref (ad g 2), .ref (ad g 3), .ref (ad g 4), .ref (ad g 5), .ref (ad g 6), .ref (ad g 7), .ref (ad g 8), .ref (ad g 9), .ref (ad g 12), .ref (ad g 13), .ref (ad g 11), .int (μ 0 12)])) := rfl
theorem wy_1 : (wy g μ)[1]? = some (ad g 1, .inr (9, [.ref (ad g 14), .int (μ 1 1)])) := rfl
theorem wy_2 : (wy g μ)[2]? = some (ad g 2, .inr (2, [.ref (ad g 15), .ref (ad g 16), .ref (ad g 17), .ref (ad g 18), .ref (ad g 19), .ref (ad g 20), .ref (ad g 21), .ref (ad g 22), .ref (ad g 23), .ref (ad g 24), .int (μ 2 10)])) := rfl
theorem wy_3 : (wy g μ)[3]? = some (ad g 3, .inr (5, [.ref (ad g 25), .ref (ad g 26), .ref (ad g 27), .ref (ad g 28), .ref (ad g 29), .ref (ad g 30), .ref (ad g 31), .int (μ 3 7)])) := rfl
theorem wy_4 : (wy g μ)[4]? = some (ad g 4, .inr (8, [.ref (ad g 32), .ref (ad g 33), .ref (ad g 34), .ref (ad g 35), .ref (ad g 36), .ref (ad g 37), .ref (ad g 38), .ref (ad g 39), .ref (ad g 40), .ref (ad g 41), .ref (ad g 42), .ref (ad g 43), .int (μ 4 12), .int (μ 4 13)])) := rfl
theorem wy_5 : (wy g μ)[5]? = some (ad g 5, .inr (1, [.ref (ad g 44), .ref (ad g 45), .ref (ad g 46), .ref (ad g 47), .int (μ 5 4), .int (μ 5 5)])) := rfl
theorem wy_6 : (wy g μ)[6]? = some (ad g 6, .inr (0, [.ref (ad g 48), .ref (ad g 49), .ref (ad g 50), .ref (ad g 51), .int (μ 6 4), .int (μ 6 5)])) := rfl
theorem wy_7 : (wy g μ)[7]? = some (ad g 7, .inr (10, [.ref (ad g 2), .ref (ad g 3), .ref (ad g 4), .ref (ad g 52), .ref (ad g 10)])) := rfl
theorem wy_8 : (wy g μ)[8]? = some (ad g 8, .inr (6, [.ref (ad g 4), .ref (ad g 53), .ref (ad g 54), .ref (ad g 55), .int (μ 8 4), .int (μ 8 5)])) := rfl
theorem wy_9 : (wy g μ)[9]? = some (ad g 9, .inr (7, [.ref (ad g 56), .ref (ad g 57), .ref (ad g 58), .ref (ad g 59), .ref (ad g 60), .ref (ad g 61), .ref (ad g 62), .int (μ 9 7), .int (μ 9 8), .int (μ 9 9), .int (μ 9 10), .int (μ 9 11), .int (μ 9 12), .int (μ 9 13), .int (μ 9 14)])) := rfl
theorem wy_10 : (wy g μ)[10]? = some (ad g 10, .inr (3, [.ref (ad g 63), .ref (ad g 64), .ref (ad g 65), .ref (ad g 66), .ref (ad g 67), .ref (ad g 68), .ref (ad g 69), .int (μ 10 7), .int (μ 10 8), .int (μ 10 9), .int (μ 10 10)])) := rfl
theorem wy_11 : (wy g μ)[11]? = some (ad g 11, .inr (3, [.ref (ad g 70), .ref (ad g 71), .ref (ad g 72), .ref (ad g 73), .ref (ad g 74), .ref (ad g 75), .ref (ad g 76), .int (μ 11 7), .int (μ 11 8), .int (μ 11 9), .int (μ 11 10)])) := rfl
theorem wy_12 : (wy g μ)[12]? = some (ad g 12, .inl (cI g, 3, .inl (μ 12))) := rfl
theorem wy_13 : (wy g μ)[13]? = some (ad g 13, .inl (cI g, 3, .inl (μ 13))) := rfl
theorem wy_14 : (wy g μ)[14]? = some (ad g 14, .inl (cI g, 400, .inl (μ 14))) := rfl
theorem wy_15 : (wy g μ)[15]? = some (ad g 15, .inl (cI g, 32, .inl (μ 15))) := rfl
theorem wy_16 : (wy g μ)[16]? = some (ad g 16, .inl (cI g, 32, .inl (μ 16))) := rfl
theorem wy_17 : (wy g μ)[17]? = some (ad g 17, .inl (cI g, 32, .inl (μ 17))) := rfl
theorem wy_18 : (wy g μ)[18]? = some (ad g 18, .inl (cI g, 32, .inl (μ 18))) := rfl
theorem wy_19 : (wy g μ)[19]? = some (ad g 19, .inl (cI g, 32, .inl (μ 19))) := rfl
theorem wy_20 : (wy g μ)[20]? = some (ad g 20, .inl (cI g, 32, .inl (μ 20))) := rfl
theorem wy_21 : (wy g μ)[21]? = some (ad g 21, .inl (cI g, 32, .inl (μ 21))) := rfl
theorem wy_22 : (wy g μ)[22]? = some (ad g 22, .inl (cI g, 32, .inl (μ 22))) := rfl
theorem wy_23 : (wy g μ)[23]? = some (ad g 23, .inl (cI g, 32, .inl (μ 23))) := rfl
theorem wy_24 : (wy g μ)[24]? = some (ad g 24, .inl (cI g, 8, .inl (μ 24))) := rfl
theorem wy_25 : (wy g μ)[25]? = some (ad g 25, .inl (cI g, 16, .inl (μ 25))) := rfl
theorem wy_26 : (wy g μ)[26]? = some (ad g 26, .inl (cI g, 16, .inl (μ 26))) := rfl
theorem wy_27 : (wy g μ)[27]? = some (ad g 27, .inl (cI g, 128, .inl (μ 27))) := rfl
theorem wy_28 : (wy g μ)[28]? = some (ad g 28, .inl (cI g, 16, .inl (μ 28))) := rfl
theorem wy_29 : (wy g μ)[29]? = some (ad g 29, .inl (cI g, 16, .inl (μ 29))) := rfl
theorem wy_30 : (wy g μ)[30]? = some (ad g 30, .inl (cI g, 16, .inl (μ 30))) := rfl
theorem wy_31 : (wy g μ)[31]? = some (ad g 31, .inl (cI g, 16, .inl (μ 31))) := rfl
theorem wy_32 : (wy g μ)[32]? = some (ad g 32, .inl (cI g, 10, .inl (μ 32))) := rfl
theorem wy_33 : (wy g μ)[33]? = some (ad g 33, .inl (cI g, 10, .inl (μ 33))) := rfl
theorem wy_34 : (wy g μ)[34]? = some (ad g 34, .inl (cI g, 10, .inl (μ 34))) := rfl
theorem wy_35 : (wy g μ)[35]? = some (ad g 35, .inl (cI g, 10, .inl (μ 35))) := rfl
theorem wy_36 : (wy g μ)[36]? = some (ad g 36, .inl (cI g, 10, .inl (μ 36))) := rfl
theorem wy_37 : (wy g μ)[37]? = some (ad g 37, .inl (cI g, 10, .inl (μ 37))) := rfl
theorem wy_38 : (wy g μ)[38]? = some (ad g 38, .inl (cI g, 10, .inl (μ 38))) := rfl
theorem wy_39 : (wy g μ)[39]? = some (ad g 39, .inl (cI g, 10, .inl (μ 39))) := rfl
theorem wy_40 : (wy g μ)[40]? = some (ad g 40, .inl (cI g, 10, .inl (μ 40))) := rfl
theorem wy_41 : (wy g μ)[41]? = some (ad g 41, .inl (cI g, 42, .inl (μ 41))) := rfl
theorem wy_42 : (wy g μ)[42]? = some (ad g 42, .inl (cI g, 600, .inl (μ 42))) := rfl
theorem wy_43 : (wy g μ)[43]? = some (ad g 43, .inl (cI g, 600, .inl (μ 43))) := rfl
theorem wy_44 : (wy g μ)[44]? = some (ad g 44, .inl (cI g, 512, .inl (μ 44))) := rfl
theorem wy_45 : (wy g μ)[45]? = some (ad g 45, .inl (cI g, 16, .inl (μ 45))) := rfl
theorem wy_46 : (wy g μ)[46]? = some (ad g 46, .inl (cI g, 16, .inl (μ 46))) := rfl
theorem wy_47 : (wy g μ)[47]? = some (ad g 47, .inl (cI g, 16, .inl (μ 47))) := rfl
theorem wy_48 : (wy g μ)[48]? = some (ad g 48, .inl (cI g, 200, .inl (μ 48))) := rfl
theorem wy_49 : (wy g μ)[49]? = some (ad g 49, .inl (cI g, 200, .inl (μ 49))) := rfl
theorem wy_50 : (wy g μ)[50]? = some (ad g 50, .inl (cI g, 200, .inl (μ 50))) := rfl
theorem wy_51 : (wy g μ)[51]? = some (ad g 51, .inl (cI g, 200, .inl (μ 51))) := rfl
theorem wy_52 : (wy g μ)[52]? = some (ad g 52, .inl (cI g, 128, .inl (μ 52))) := rfl
theorem wy_53 : (wy g μ)[53]? = some (ad g 53, .inl (cI g, 8, .inl (μ 53))) := rfl
theorem wy_54 : (wy g μ)[54]? = some (ad g 54, .inl (cI g, 81, .inl (μ 54))) := rfl
theorem wy_55 : (wy g μ)[55]? = some (ad g 55, .inl (cI g, 2304, .inl (μ 55))) := rfl
theorem wy_56 : (wy g μ)[56]? = some (ad g 56, .inl (cI g, 12, .inl (μ 56))) := rfl
theorem wy_57 : (wy g μ)[57]? = some (ad g 57, .inl (cI g, 12, .inl (μ 57))) := rfl
theorem wy_58 : (wy g μ)[58]? = some (ad g 58, .inl (cI g, 12, .inl (μ 58))) := rfl
theorem wy_59 : (wy g μ)[59]? = some (ad g 59, .inl (cI g, 12, .inl (μ 59))) := rfl
theorem wy_60 : (wy g μ)[60]? = some (ad g 60, .inl (cI g, 4096, .inl (μ 60))) := rfl
theorem wy_61 : (wy g μ)[61]? = some (ad g 61, .inl (cI g, 16, .inl (μ 61))) := rfl
theorem wy_62 : (wy g μ)[62]? = some (ad g 62, .inl (cI g, 32, .inl (μ 62))) := rfl
theorem wy_63 : (wy g μ)[63]? = some (ad g 63, .inl (cI g, 200, .inl (μ 63))) := rfl
theorem wy_64 : (wy g μ)[64]? = some (ad g 64, .inl (cI g, 200, .inl (μ 64))) := rfl
theorem wy_65 : (wy g μ)[65]? = some (ad g 65, .inl (cI g, 14, .inl (μ 65))) := rfl
theorem wy_66 : (wy g μ)[66]? = some (ad g 66, .inl (cI g, 14, .inl (μ 66))) := rfl
theorem wy_67 : (wy g μ)[67]? = some (ad g 67, .inl (cI g, 14, .inl (μ 67))) := rfl
theorem wy_68 : (wy g μ)[68]? = some (ad g 68, .inl (cI g, 14, .inl (μ 68))) := rfl
theorem wy_69 : (wy g μ)[69]? = some (ad g 69, .inl (cI g, 64, .inl (μ 69))) := rfl
theorem wy_70 : (wy g μ)[70]? = some (ad g 70, .inl (cI g, 200, .inl (μ 70))) := rfl
theorem wy_71 : (wy g μ)[71]? = some (ad g 71, .inl (cI g, 200, .inl (μ 71))) := rfl
theorem wy_72 : (wy g μ)[72]? = some (ad g 72, .inl (cI g, 14, .inl (μ 72))) := rfl
theorem wy_73 : (wy g μ)[73]? = some (ad g 73, .inl (cI g, 14, .inl (μ 73))) := rfl
theorem wy_74 : (wy g μ)[74]? = some (ad g 74, .inl (cI g, 14, .inl (μ 74))) := rfl
theorem wy_75 : (wy g μ)[75]? = some (ad g 75, .inl (cI g, 14, .inl (μ 75))) := rfl
theorem wy_76 : (wy g μ)[76]? = some (ad g 76, .inl (cI g, 64, .inl (μ 76))) := rfl
theorem wy_77 : (wy g μ)[77]? = some (ad g 77, .inr (4, [.ref (ad g 14), .int (μ 77 1), .ref (ad g 11), .int (μ 77 3), .int (μ 77 4)])) := rfl
theorem wm_0 : (wm g μ)[0]? = some (ad g 0, .inr (12, [.int (μ 0 0), .int (μ 0 1), .int (μ 0 2), .int (μ 0 3), .int (μ 0 4), .int (μ 0 5), .ref (ad g 1), .ref (ad g 2), .ref (ad g 3), .ref (ad g 4), .ref (ad g 5), .ref (ad g 6), .ref (ad g 7), .ref (ad g 8), .ref (ad g 9), .ref (ad g 10), .ref (ad g 11), .ref (ad g 12), .ref (ad g 13), .ref (ad g 14), .ref (ad g 15), .ref (ad g 16), .ref (ad g 17), .ref (ad g 18), .ref (ad g 19), .ref (ad g 20), .ref (ad g 21), .ref (ad g 22), .ref (ad g 23), .ref (ad g 24), .ref (ad g 25), .ref (ad g 26), .ref (ad g 27), .ref (ad g 28), .ref (ad g 29), .int (μ 0 35), .int (μ 0 36), .ref (ad g 30), .int (μ 0 38), .int (μ 0 39), .int (μ 0 40), .int (μ 0 41), .int (μ 0 42), .int (μ 0 43), .int (μ 0 44), .int (μ 0 45), .int (μ 0 46), .ref (ad g 31), .ref (ad g 32), .ref (ad g 33), .ref (ad g 34), .ref (ad g 35), .ref (ad g 36), .ref (ad g 37), .ref (ad g 38), .ref (ad g 39), .ref (ad g 40), .ref (ad g 41), .int (μ 0 58), .ref (ad g 42), .ref (ad g 43), .int (μ 0 61), .ref (ad g 44), .ref (ad g 45), .ref (ad g 46), .ref (ad g 47), .ref (ad g 48), .ref (ad g 49), .int (μ 0 68), .ref (ad g 50), .ref (ad g 51), .ref (ad g 52), .ref (ad g 53), .ref (ad g 54), .ref (ad g 55), .ref (ad g 56), .ref (ad g 57), .int (μ 0 77)])) := rfl
theorem wm_1 : (wm g μ)[1]? = some (ad g 1, .inl (cI g, 32, .inl (μ 1))) := rfl
theorem wm_2 : (wm g μ)[2]? = some (ad g 2, .inl (cI g, 32, .inl (μ 2))) := rfl
theorem wm_3 : (wm g μ)[3]? = some (ad g 3, .inl (cI g, 32, .inl (μ 3))) := rfl
theorem wm_4 : (wm g μ)[4]? = some (ad g 4, .inl (cI g, 32, .inl (μ 4))) := rfl
theorem wm_5 : (wm g μ)[5]? = some (ad g 5, .inl (cI g, 32, .inl (μ 5))) := rfl
theorem wm_6 : (wm g μ)[6]? = some (ad g 6, .inl (cI g, 32, .inl (μ 6))) := rfl
theorem wm_7 : (wm g μ)[7]? = some (ad g 7, .inl (cI g, 32, .inl (μ 7))) := rfl
theorem wm_8 : (wm g μ)[8]? = some (ad g 8, .inl (cI g, 32, .inl (μ 8))) := rfl
theorem wm_9 : (wm g μ)[9]? = some (ad g 9, .inl (cI g, 3, .inl (μ 9))) := rfl
theorem wm_10 : (wm g μ)[10]? = some (ad g 10, .inl (cI g, 10, .inl (μ 10))) := rfl
theorem wm_11 : (wm g μ)[11]? = some (ad g 11, .inl (cI g, 10, .inl (μ 11))) := rfl
theorem wm_12 : (wm g μ)[12]? = some (ad g 12, .inl (cI g, 10, .inl (μ 12))) := rfl
theorem wm_13 : (wm g μ)[13]? = some (ad g 13, .inl (cI g, 10, .inl (μ 13))) := rfl
theorem wm_14 : (wm g μ)[14]? = some (ad g 14, .inl (cI g, 10, .inl (μ 14))) := rfl
theorem wm_15 : (wm g μ)[15]? = some (ad g 15, .inl (cI g, 16, .inl (μ 15))) := rfl
theorem wm_16 : (wm g μ)[16]? = some (ad g 16, .inl (cI g, 16, .inl (μ 16))) := rfl
theorem wm_17 : (wm g μ)[17]? = some (ad g 17, .inl (cI g, 128, .inl (μ 17))) := rfl
theorem wm_18 : (wm g μ)[18]? = some (ad g 18, .inl (cI g, 16, .inl (μ 18))) := rfl
theorem wm_19 : (wm g μ)[19]? = some (ad g 19, .inl (cI g, 16, .inl (μ 19))) := rfl
theorem wm_20 : (wm g μ)[20]? = some (ad g 20, .inl (cI g, 512, .inl (μ 20))) := rfl
theorem wm_21 : (wm g μ)[21]? = some (ad g 21, .inl (cZ g, 512, .inl (μ 21))) := rfl
theorem wm_22 : (wm g μ)[22]? = some (ad g 22, .inl (cZ g, 600, .inl (μ 22))) := rfl
theorem wm_23 : (wm g μ)[23]? = some (ad g 23, .inl (cZ g, 6000, .inl (μ 23))) := rfl
theorem wm_24 : (wm g μ)[24]? = some (ad g 24, .inl (cI g, 10, .inl (μ 24))) := rfl
theorem wm_25 : (wm g μ)[25]? = some (ad g 25, .inl (cI g, 10, .inl (μ 25))) := rfl
theorem wm_26 : (wm g μ)[26]? = some (ad g 26, .inl (cI g, 10, .inl (μ 26))) := rfl
theorem wm_27 : (wm g μ)[27]? = some (ad g 27, .inl (cI g, 8, .inl (μ 27))) := rfl
theorem wm_28 : (wm g μ)[28]? = some (ad g 28, .inl (cI g, 3, .inl (μ 28))) := rfl
theorem wm_29 : (wm g μ)[29]? = some (ad g 29, .inl (cI g, 10, .inl (μ 29))) := rfl
theorem wm_30 : (wm g μ)[30]? = some (ad g 30, .inl (cB g, 400, .inl (μ 30))) := rfl
theorem wm_31 : (wm g μ)[31]? = some (ad g 31, .inl (cI g, 220, .inl (μ 31))) := rfl
theorem wm_32 : (wm g μ)[32]? = some (ad g 32, .inl (cI g, 220, .inl (μ 32))) := rfl
theorem wm_33 : (wm g μ)[33]? = some (ad g 33, .inl (cI g, 14, .inl (μ 33))) := rfl
theorem wm_34 : (wm g μ)[34]? = some (ad g 34, .inl (cI g, 14, .inl (μ 34))) := rfl
theorem wm_35 : (wm g μ)[35]? = some (ad g 35, .inl (cI g, 14, .inl (μ 35))) := rfl
theorem wm_36 : (wm g μ)[36]? = some (ad g 36, .inl (cI g, 14, .inl (μ 36))) := rfl
theorem wm_37 : (wm g μ)[37]? = some (ad g 37, .inl (cI g, 220, .inl (μ 37))) := rfl
theorem wm_38 : (wm g μ)[38]? = some (ad g 38, .inl (cI g, 14, .inl (μ 38))) := rfl
theorem wm_39 : (wm g μ)[39]? = some (ad g 39, .inl (cI g, 14, .inl (μ 39))) := rfl
theorem wm_40 : (wm g μ)[40]? = some (ad g 40, .inl (cI g, 14, .inl (μ 40))) := rfl
theorem wm_41 : (wm g μ)[41]? = some (ad g 41, .inl (cI g, 14, .inl (μ 41))) := rfl
theorem wm_42 : (wm g μ)[42]? = some (ad g 42, .inl (cI g, 220, .inl (μ 42))) := rfl
theorem wm_43 : (wm g μ)[43]? = some (ad g 43, .inl (cI g, 12, .inl (μ 43))) := rfl
theorem wm_44 : (wm g μ)[44]? = some (ad g 44, .inl (cI g, 200, .inl (μ 44))) := rfl
theorem wm_45 : (wm g μ)[45]? = some (ad g 45, .inl (cI g, 200, .inl (μ 45))) := rfl
theorem wm_46 : (wm g μ)[46]? = some (ad g 46, .inl (cI g, 200, .inl (μ 46))) := rfl
theorem wm_47 : (wm g μ)[47]? = some (ad g 47, .inl (cI g, 200, .inl (μ 47))) := rfl
theorem wm_48 : (wm g μ)[48]? = some (ad g 48, .inl (cI g, 16, .inl (μ 48))) := rfl
theorem wm_49 : (wm g μ)[49]? = some (ad g 49, .inl (cI g, 16, .inl (μ 49))) := rfl
theorem wm_50 : (wm g μ)[50]? = some (ad g 50, .inl (cZ g, 512, .inl (μ 50))) := rfl
theorem wm_51 : (wm g μ)[51]? = some (ad g 51, .inl (cI g, 16, .inl (μ 51))) := rfl
theorem wm_52 : (wm g μ)[52]? = some (ad g 52, .inl (cI g, 32, .inl (μ 52))) := rfl
theorem wm_53 : (wm g μ)[53]? = some (ad g 53, .inl (cI g, 16, .inl (μ 53))) := rfl
theorem wm_54 : (wm g μ)[54]? = some (ad g 54, .inl (cI g, 32, .inl (μ 54))) := rfl
theorem wm_55 : (wm g μ)[55]? = some (ad g 55, .inl (cI g, 12, .inl (μ 55))) := rfl
theorem wm_56 : (wm g μ)[56]? = some (ad g 56, .inl (cI g, 10, .inl (μ 56))) := rfl
theorem wm_57 : (wm g μ)[57]? = some (ad g 57, .inl (cI g, 2048, .inl (μ 57))) := rfl
theorem wf_0 : (wf g μ)[0]? = some (ad g 0, .inl (cI g, 512, .inl (μ 0))) := rfl
theorem wh_0 : (wh g μ)[0]? = some (ad g 0, .inl (cI g, 3, .inl (μ 0))) := rfl
end
section
variable {g : Gx} {μ μ1 : Mm}
theorem wxf_0_12 {v : Int32} (h : μ1 = mset μ 0 12 v) : (wx g μ).set 0 (ad g 0, .inr (11, ([.ref (ad g 1), .ref (ad g 2), .ref (ad g 3), .ref (ad g 4), .ref (ad g 5), .ref (ad g 6), .ref (ad g 7), .ref (ad g 8), .ref (ad g 9), .ref (ad g 12), .ref (ad g 13), .ref (ad g 11), .int (μ 0 12)] : List Value).set 12 (.int v))) = wx g μ1 := by subst h; rfl
theorem wxf_1_1 {v : Int32} (h : μ1 = mset μ 1 1 v) : (wx g μ).set 1 (ad g 1, .inr (9, ([.ref (ad g 14), .int (μ 1 1)] : List Value).set 1 (.int v))) = wx g μ1 := by subst h; rfl
theorem wxf_2_10 {v : Int32} (h : μ1 = mset μ 2 10 v) : (wx g μ).set 2 (ad g 2, .inr (2, ([.ref (ad g 15), .ref (ad g 16), .ref (ad g 17), .ref (ad g 18), .ref (ad g 19), .ref (ad g 20), .ref (ad g 21), .ref (ad g 22), .ref (ad g 23), .ref (ad g 24), .int (μ 2 10)] : List Value).set 10 (.int v))) = wx g μ1 := by subst h; rfl
theorem wxf_3_7 {v : Int32} (h : μ1 = mset μ 3 7 v) : (wx g μ).set 3 (ad g 3, .inr (5, ([.ref (ad g 25), .ref (ad g 26), .ref (ad g 27), .ref (ad g 28), .ref (ad g 29), .ref (ad g 30), .ref (ad g 31), .int (μ 3 7)] : List Value).set 7 (.int v))) = wx g μ1 := by subst h; rfl
theorem wxf_4_12 {v : Int32} (h : μ1 = mset μ 4 12 v) : (wx g μ).set 4 (ad g 4, .inr (8, ([.ref (ad g 32), .ref (ad g 33), .ref (ad g 34), .ref (ad g 35), .ref (ad g 36), .ref (ad g 37), .ref (ad g 38), .ref (ad g 39), .ref (ad g 40), .ref (ad g 41), .ref (ad g 42), .ref (ad g 43), .int (μ 4 12), .int (μ 4 13)] : List Value).set 12 (.int v))) = wx g μ1 := by subst h; rfl
theorem wxf_4_13 {v : Int32} (h : μ1 = mset μ 4 13 v) : (wx g μ).set 4 (ad g 4, .inr (8, ([.ref (ad g 32), .ref (ad g 33), .ref (ad g 34), .ref (ad g 35), .ref (ad g 36), .ref (ad g 37), .ref (ad g 38), .ref (ad g 39), .ref (ad g 40), .ref (ad g 41), .ref (ad g 42), .ref (ad g 43), .int (μ 4 12), .int (μ 4 13)] : List Value).set 13 (.int v))) = wx g μ1 := by subst h; rfl
theorem wxf_5_4 {v : Int32} (h : μ1 = mset μ 5 4 v) : (wx g μ).set 5 (ad g 5, .inr (1, ([.ref (ad g 44), .ref (ad g 45), .ref (ad g 46), .ref (ad g 47), .int (μ 5 4), .int (μ 5 5)] : List Value).set 4 (.int v))) = wx g μ1 := by subst h; rfl
theorem wxf_5_5 {v : Int32} (h : μ1 = mset μ 5 5 v) : (wx g μ).set 5 (ad g 5, .inr (1, ([.ref (ad g 44), .ref (ad g 45), .ref (ad g 46), .ref (ad g 47), .int (μ 5 4), .int (μ 5 5)] : List Value).set 5 (.int v))) = wx g μ1 := by subst h; rfl
theorem wxf_6_4 {v : Int32} (h : μ1 = mset μ 6 4 v) : (wx g μ).set 6 (ad g 6, .inr (0, ([.ref (ad g 48), .ref (ad g 49), .ref (ad g 50), .ref (ad g 51), .int (μ 6 4), .int (μ 6 5)] : List Value).set 4 (.int v))) = wx g μ1 := by subst h; rfl
theorem wxf_6_5 {v : Int32} (h : μ1 = mset μ 6 5 v) : (wx g μ).set 6 (ad g 6, .inr (0, ([.ref (ad g 48), .ref (ad g 49), .ref (ad g 50), .ref (ad g 51), .int (μ 6 4), .int (μ 6 5)] : List Value).set 5 (.int v))) = wx g μ1 := by subst h; rfl
theorem wxf_8_4 {v : Int32} (h : μ1 = mset μ 8 4 v) : (wx g μ).set 8 (ad g 8, .inr (6, ([.ref (ad g 4), .ref (ad g 53), .ref (ad g 54), .ref (ad g 55), .int (μ 8 4), .int (μ 8 5)] : List Value).set 4 (.int v))) = wx g μ1 := by subst h; rfl
theorem wxf_8_5 {v : Int32} (h : μ1 = mset μ 8 5 v) : (wx g μ).set 8 (ad g 8, .inr (6, ([.ref (ad g 4), .ref (ad g 53), .ref (ad g 54), .ref (ad g 55), .int (μ 8 4), .int (μ 8 5)] : List Value).set 5 (.int v))) = wx g μ1 := by subst h; rfl
theorem wxf_9_7 {v : Int32} (h : μ1 = mset μ 9 7 v) : (wx g μ).set 9 (ad g 9, .inr (7, ([.ref (ad g 56), .ref (ad g 57), .ref (ad g 58), .ref (ad g 59), .ref (ad g 60), .ref (ad g 61), .ref (ad g 62), .int (μ 9 7), .int (μ 9 8), .int (μ 9 9), .int (μ 9 10), .int (μ 9 11), .int (μ 9 12), .int (μ 9 13), .int (μ 9 14)] : List Value).set 7 (.int v))) = wx g μ1 := by subst h; rfl
theorem wxf_9_8 {v : Int32} (h : μ1 = mset μ 9 8 v) : (wx g μ).set 9 (ad g 9, .inr (7, ([.ref (ad g 56), .ref (ad g 57), .ref (ad g 58), .ref (ad g 59), .ref (ad g 60), .ref (ad g 61), .ref (ad g 62), .int (μ 9 7), .int (μ 9 8), .int (μ 9 9), .int (μ 9 10), .int (μ 9 11), .int (μ 9 12), .int (μ 9 13), .int (μ 9 14)] : List Value).set 8 (.int v))) = wx g μ1 := by subst h; rfl
theorem wxf_9_9 {v : Int32} (h : μ1 = mset μ 9 9 v) : (wx g μ).set 9 (ad g 9, .inr (7, ([.ref (ad g 56), .ref (ad g 57), .ref (ad g 58), .ref (ad g 59), .ref (ad g 60), .ref (ad g 61), .ref (ad g 62), .int (μ 9 7), .int (μ 9 8), .int (μ 9 9), .int (μ 9 10), .int (μ 9 11), .int (μ 9 12), .int (μ 9 13), .int (μ 9 14)] : List Value).set 9 (.int v))) = wx g μ1 := by subst h; rfl
theorem wxf_9_10 {v : Int32} (h : μ1 = mset μ 9 10 v) : (wx g μ).set 9 (ad g 9, .inr (7, ([.ref (ad g 56), .ref (ad g 57), .ref (ad g 58), .ref (ad g 59), .ref (ad g 60), .ref (ad g 61), .ref (ad g 62), .int (μ 9 7), .int (μ 9 8), .int (μ 9 9), .int (μ 9 10), .int (μ 9 11), .int (μ 9 12), .int (μ 9 13), .int (μ 9 14)] : List Value).set 10 (.int v))) = wx g μ1 := by subst h; rfl
theorem wxf_9_11 {v : Int32} (h : μ1 = mset μ 9 11 v) : (wx g μ).set 9 (ad g 9, .inr (7, ([.ref (ad g 56), .ref (ad g 57), .ref (ad g 58), .ref (ad g 59), .ref (ad g 60), .ref (ad g 61), .ref (ad g 62), .int (μ 9 7), .int (μ 9 8), .int (μ 9 9), .int (μ 9 10), .int (μ 9 11), .int (μ 9 12), .int (μ 9 13), .int (μ 9 14)] : List Value).set 11 (.int v))) = wx g μ1 := by subst h; rfl
theorem wxf_9_12 {v : Int32} (h : μ1 = mset μ 9 12 v) : (wx g μ).set 9 (ad g 9, .inr (7, ([.ref (ad g 56), .ref (ad g 57), .ref (ad g 58), .ref (ad g 59), .ref (ad g 60), .ref (ad g 61), .ref (ad g 62), .int (μ 9 7), .int (μ 9 8), .int (μ 9 9), .int (μ 9 10), .int (μ 9 11), .int (μ 9 12), .int (μ 9 13), .int (μ 9 14)] : List Value).set 12 (.int v))) = wx g μ1 := by subst h; rfl
theorem wxf_9_13 {v : Int32} (h : μ1 = mset μ 9 13 v) : (wx g μ).set 9 (ad g 9, .inr (7, ([.ref (ad g 56), .ref (ad g 57), .ref (ad g 58), .ref (ad g 59), .ref (ad g 60), .ref (ad g 61), .ref (ad g 62), .int (μ 9 7), .int (μ 9 8), .int (μ 9 9), .int (μ 9 10), .int (μ 9 11), .int (μ 9 12), .int (μ 9 13), .int (μ 9 14)] : List Value).set 13 (.int v))) = wx g μ1 := by subst h; rfl
theorem wxf_9_14 {v : Int32} (h : μ1 = mset μ 9 14 v) : (wx g μ).set 9 (ad g 9, .inr (7, ([.ref (ad g 56), .ref (ad g 57), .ref (ad g 58), .ref (ad g 59), .ref (ad g 60), .ref (ad g 61), .ref (ad g 62), .int (μ 9 7), .int (μ 9 8), .int (μ 9 9), .int (μ 9 10), .int (μ 9 11), .int (μ 9 12), .int (μ 9 13), .int (μ 9 14)] : List Value).set 14 (.int v))) = wx g μ1 := by subst h; rfl
theorem wxf_10_7 {v : Int32} (h : μ1 = mset μ 10 7 v) : (wx g μ).set 10 (ad g 10, .inr (3, ([.ref (ad g 63), .ref (ad g 64), .ref (ad g 65), .ref (ad g 66), .ref (ad g 67), .ref (ad g 68), .ref (ad g 69), .int (μ 10 7), .int (μ 10 8), .int (μ 10 9), .int (μ 10 10)] : List Value).set 7 (.int v))) = wx g μ1 := by subst h; rfl
theorem wxf_10_8 {v : Int32} (h : μ1 = mset μ 10 8 v) : (wx g μ).set 10 (ad g 10, .inr (3, ([.ref (ad g 63), .ref (ad g 64), .ref (ad g 65), .ref (ad g 66), .ref (ad g 67), .ref (ad g 68), .ref (ad g 69), .int (μ 10 7), .int (μ 10 8), .int (μ 10 9), .int (μ 10 10)] : List Value).set 8 (.int v))) = wx g μ1 := by subst h; rfl
theorem wxf_10_9 {v : Int32} (h : μ1 = mset μ 10 9 v) : (wx g μ).set 10 (ad g 10, .inr (3, ([.ref (ad g 63), .ref (ad g 64), .ref (ad g 65), .ref (ad g 66), .ref (ad g 67), .ref (ad g 68), .ref (ad g 69), .int (μ 10 7), .int (μ 10 8), .int (μ 10 9), .int (μ 10 10)] : List Value).set 9 (.int v))) = wx g μ1 := by subst h; rfl
theorem wxf_10_10 {v : Int32} (h : μ1 = mset μ 10 10 v) : (wx g μ).set 10 (ad g 10, .inr (3, ([.ref (ad g 63), .ref (ad g 64), .ref (ad g 65), .ref (ad g 66), .ref (ad g 67), .ref (ad g 68), .ref (ad g 69), .int (μ 10 7), .int (μ 10 8), .int (μ 10 9), .int (μ 10 10)] : List Value).set 10 (.int v))) = wx g μ1 := by subst h; rfl
theorem wxf_11_7 {v : Int32} (h : μ1 = mset μ 11 7 v) : (wx g μ).set 11 (ad g 11, .inr (3, ([.ref (ad g 70), .ref (ad g 71), .ref (ad g 72), .ref (ad g 73), .ref (ad g 74), .ref (ad g 75), .ref (ad g 76), .int (μ 11 7), .int (μ 11 8), .int (μ 11 9), .int (μ 11 10)] : List Value).set 7 (.int v))) = wx g μ1 := by subst h; rfl
theorem wxf_11_8 {v : Int32} (h : μ1 = mset μ 11 8 v) : (wx g μ).set 11 (ad g 11, .inr (3, ([.ref (ad g 70), .ref (ad g 71), .ref (ad g 72), .ref (ad g 73), .ref (ad g 74), .ref (ad g 75), .ref (ad g 76), .int (μ 11 7), .int (μ 11 8), .int (μ 11 9), .int (μ 11 10)] : List Value).set 8 (.int v))) = wx g μ1 := by subst h; rfl
theorem wxf_11_9 {v : Int32} (h : μ1 = mset μ 11 9 v) : (wx g μ).set 11 (ad g 11, .inr (3, ([.ref (ad g 70), .ref (ad g 71), .ref (ad g 72), .ref (ad g 73), .ref (ad g 74), .ref (ad g 75), .ref (ad g 76), .int (μ 11 7), .int (μ 11 8), .int (μ 11 9), .int (μ 11 10)] : List Value).set 9 (.int v))) = wx g μ1 := by subst h; rfl
theorem wxf_11_10 {v : Int32} (h : μ1 = mset μ 11 10 v) : (wx g μ).set 11 (ad g 11, .inr (3, ([.ref (ad g 70), .ref (ad g 71), .ref (ad g 72), .ref (ad g 73), .ref (ad g 74), .ref (ad g 75), .ref (ad g 76), .int (μ 11 7), .int (μ 11 8), .int (μ 11 9), .int (μ 11 10)] : List Value).set 10 (.int v))) = wx g μ1 := by subst h; rfl
theorem wxs_12 {i : Nat} {v : Int32} (h : μ1 = mset μ 12 i v) : (wx g μ).set 12 (ad g 12, .inl (cI g, 3, .inl (upd (μ 12) i v))) = wx g μ1 := by subst h; rfl
theorem wxs_13 {i : Nat} {v : Int32} (h : μ1 = mset μ 13 i v) : (wx g μ).set 13 (ad g 13, .inl (cI g, 3, .inl (upd (μ 13) i v))) = wx g μ1 := by subst h; rfl
theorem wxs_14 {i : Nat} {v : Int32} (h : μ1 = mset μ 14 i v) : (wx g μ).set 14 (ad g 14, .inl (cI g, 400, .inl (upd (μ 14) i v))) = wx g μ1 := by subst h; rfl
theorem wxs_15 {i : Nat} {v : Int32} (h : μ1 = mset μ 15 i v) : (wx g μ).set 15 (ad g 15, .inl (cI g, 32, .inl (upd (μ 15) i v))) = wx g μ1 := by subst h; rfl
theorem wxs_16 {i : Nat} {v : Int32} (h : μ1 = mset μ 16 i v) : (wx g μ).set 16 (ad g 16, .inl (cI g, 32, .inl (upd (μ 16) i v))) = wx g μ1 := by subst h; rfl
theorem wxs_17 {i : Nat} {v : Int32} (h : μ1 = mset μ 17 i v) : (wx g μ).set 17 (ad g 17, .inl (cI g, 32, .inl (upd (μ 17) i v))) = wx g μ1 := by subst h; rfl
theorem wxs_18 {i : Nat} {v : Int32} (h : μ1 = mset μ 18 i v) : (wx g μ).set 18 (ad g 18, .inl (cI g, 32, .inl (upd (μ 18) i v))) = wx g μ1 := by subst h; rfl
theorem wxs_19 {i : Nat} {v : Int32} (h : μ1 = mset μ 19 i v) : (wx g μ).set 19 (ad g 19, .inl (cI g, 32, .inl (upd (μ 19) i v))) = wx g μ1 := by subst h; rfl
theorem wxs_20 {i : Nat} {v : Int32} (h : μ1 = mset μ 20 i v) : (wx g μ).set 20 (ad g 20, .inl (cI g, 32, .inl (upd (μ 20) i v))) = wx g μ1 := by subst h; rfl
theorem wxs_21 {i : Nat} {v : Int32} (h : μ1 = mset μ 21 i v) : (wx g μ).set 21 (ad g 21, .inl (cI g, 32, .inl (upd (μ 21) i v))) = wx g μ1 := by subst h; rfl
theorem wxs_22 {i : Nat} {v : Int32} (h : μ1 = mset μ 22 i v) : (wx g μ).set 22 (ad g 22, .inl (cI g, 32, .inl (upd (μ 22) i v))) = wx g μ1 := by subst h; rfl
theorem wxs_23 {i : Nat} {v : Int32} (h : μ1 = mset μ 23 i v) : (wx g μ).set 23 (ad g 23, .inl (cI g, 32, .inl (upd (μ 23) i v))) = wx g μ1 := by subst h; rfl
theorem wxs_24 {i : Nat} {v : Int32} (h : μ1 = mset μ 24 i v) : (wx g μ).set 24 (ad g 24, .inl (cI g, 8, .inl (upd (μ 24) i v))) = wx g μ1 := by subst h; rfl
theorem wxs_25 {i : Nat} {v : Int32} (h : μ1 = mset μ 25 i v) : (wx g μ).set 25 (ad g 25, .inl (cI g, 16, .inl (upd (μ 25) i v))) = wx g μ1 := by subst h; rfl
theorem wxs_26 {i : Nat} {v : Int32} (h : μ1 = mset μ 26 i v) : (wx g μ).set 26 (ad g 26, .inl (cI g, 16, .inl (upd (μ 26) i v))) = wx g μ1 := by subst h; rfl
theorem wxs_27 {i : Nat} {v : Int32} (h : μ1 = mset μ 27 i v) : (wx g μ).set 27 (ad g 27, .inl (cI g, 128, .inl (upd (μ 27) i v))) = wx g μ1 := by subst h; rfl
theorem wxs_28 {i : Nat} {v : Int32} (h : μ1 = mset μ 28 i v) : (wx g μ).set 28 (ad g 28, .inl (cI g, 16, .inl (upd (μ 28) i v))) = wx g μ1 := by subst h; rfl
theorem wxs_29 {i : Nat} {v : Int32} (h : μ1 = mset μ 29 i v) : (wx g μ).set 29 (ad g 29, .inl (cI g, 16, .inl (upd (μ 29) i v))) = wx g μ1 := by subst h; rfl
theorem wxs_30 {i : Nat} {v : Int32} (h : μ1 = mset μ 30 i v) : (wx g μ).set 30 (ad g 30, .inl (cI g, 16, .inl (upd (μ 30) i v))) = wx g μ1 := by subst h; rfl
theorem wxs_31 {i : Nat} {v : Int32} (h : μ1 = mset μ 31 i v) : (wx g μ).set 31 (ad g 31, .inl (cI g, 16, .inl (upd (μ 31) i v))) = wx g μ1 := by subst h; rfl
theorem wxs_32 {i : Nat} {v : Int32} (h : μ1 = mset μ 32 i v) : (wx g μ).set 32 (ad g 32, .inl (cI g, 10, .inl (upd (μ 32) i v))) = wx g μ1 := by subst h; rfl
theorem wxs_33 {i : Nat} {v : Int32} (h : μ1 = mset μ 33 i v) : (wx g μ).set 33 (ad g 33, .inl (cI g, 10, .inl (upd (μ 33) i v))) = wx g μ1 := by subst h; rfl
theorem wxs_34 {i : Nat} {v : Int32} (h : μ1 = mset μ 34 i v) : (wx g μ).set 34 (ad g 34, .inl (cI g, 10, .inl (upd (μ 34) i v))) = wx g μ1 := by subst h; rfl
theorem wxs_35 {i : Nat} {v : Int32} (h : μ1 = mset μ 35 i v) : (wx g μ).set 35 (ad g 35, .inl (cI g, 10, .inl (upd (μ 35) i v))) = wx g μ1 := by subst h; rfl
theorem wxs_36 {i : Nat} {v : Int32} (h : μ1 = mset μ 36 i v) : (wx g μ).set 36 (ad g 36, .inl (cI g, 10, .inl (upd (μ 36) i v))) = wx g μ1 := by subst h; rfl
theorem wxs_37 {i : Nat} {v : Int32} (h : μ1 = mset μ 37 i v) : (wx g μ).set 37 (ad g 37, .inl (cI g, 10, .inl (upd (μ 37) i v))) = wx g μ1 := by subst h; rfl
theorem wxs_38 {i : Nat} {v : Int32} (h : μ1 = mset μ 38 i v) : (wx g μ).set 38 (ad g 38, .inl (cI g, 10, .inl (upd (μ 38) i v))) = wx g μ1 := by subst h; rfl
theorem wxs_39 {i : Nat} {v : Int32} (h : μ1 = mset μ 39 i v) : (wx g μ).set 39 (ad g 39, .inl (cI g, 10, .inl (upd (μ 39) i v))) = wx g μ1 := by subst h; rfl
theorem wxs_40 {i : Nat} {v : Int32} (h : μ1 = mset μ 40 i v) : (wx g μ).set 40 (ad g 40, .inl (cI g, 10, .inl (upd (μ 40) i v))) = wx g μ1 := by subst h; rfl
theorem wxs_41 {i : Nat} {v : Int32} (h : μ1 = mset μ 41 i v) : (wx g μ).set 41 (ad g 41, .inl (cI g, 42, .inl (upd (μ 41) i v))) = wx g μ1 := by subst h; rfl
theorem wxs_42 {i : Nat} {v : Int32} (h : μ1 = mset μ 42 i v) : (wx g μ).set 42 (ad g 42, .inl (cI g, 600, .inl (upd (μ 42) i v))) = wx g μ1 := by subst h; rfl
theorem wxs_43 {i : Nat} {v : Int32} (h : μ1 = mset μ 43 i v) : (wx g μ).set 43 (ad g 43, .inl (cI g, 600, .inl (upd (μ 43) i v))) = wx g μ1 := by subst h; rfl
theorem wxs_44 {i : Nat} {v : Int32} (h : μ1 = mset μ 44 i v) : (wx g μ).set 44 (ad g 44, .inl (cI g, 512, .inl (upd (μ 44) i v))) = wx g μ1 := by subst h; rfl
theorem wxs_45 {i : Nat} {v : Int32} (h : μ1 = mset μ 45 i v) : (wx g μ).set 45 (ad g 45, .inl (cI g, 16, .inl (upd (μ 45) i v))) = wx g μ1 := by subst h; rfl
theorem wxs_46 {i : Nat} {v : Int32} (h : μ1 = mset μ 46 i v) : (wx g μ).set 46 (ad g 46, .inl (cI g, 16, .inl (upd (μ 46) i v))) = wx g μ1 := by subst h; rfl
theorem wxs_47 {i : Nat} {v : Int32} (h : μ1 = mset μ 47 i v) : (wx g μ).set 47 (ad g 47, .inl (cI g, 16, .inl (upd (μ 47) i v))) = wx g μ1 := by subst h; rfl
theorem wxs_48 {i : Nat} {v : Int32} (h : μ1 = mset μ 48 i v) : (wx g μ).set 48 (ad g 48, .inl (cI g, 200, .inl (upd (μ 48) i v))) = wx g μ1 := by subst h; rfl
theorem wxs_49 {i : Nat} {v : Int32} (h : μ1 = mset μ 49 i v) : (wx g μ).set 49 (ad g 49, .inl (cI g, 200, .inl (upd (μ 49) i v))) = wx g μ1 := by subst h; rfl
theorem wxs_50 {i : Nat} {v : Int32} (h : μ1 = mset μ 50 i v) : (wx g μ).set 50 (ad g 50, .inl (cI g, 200, .inl (upd (μ 50) i v))) = wx g μ1 := by subst h; rfl
theorem wxs_51 {i : Nat} {v : Int32} (h : μ1 = mset μ 51 i v) : (wx g μ).set 51 (ad g 51, .inl (cI g, 200, .inl (upd (μ 51) i v))) = wx g μ1 := by subst h; rfl
theorem wxs_52 {i : Nat} {v : Int32} (h : μ1 = mset μ 52 i v) : (wx g μ).set 52 (ad g 52, .inl (cI g, 128, .inl (upd (μ 52) i v))) = wx g μ1 := by subst h; rfl
theorem wxs_53 {i : Nat} {v : Int32} (h : μ1 = mset μ 53 i v) : (wx g μ).set 53 (ad g 53, .inl (cI g, 8, .inl (upd (μ 53) i v))) = wx g μ1 := by subst h; rfl
theorem wxs_54 {i : Nat} {v : Int32} (h : μ1 = mset μ 54 i v) : (wx g μ).set 54 (ad g 54, .inl (cI g, 81, .inl (upd (μ 54) i v))) = wx g μ1 := by subst h; rfl
theorem wxs_55 {i : Nat} {v : Int32} (h : μ1 = mset μ 55 i v) : (wx g μ).set 55 (ad g 55, .inl (cI g, 2304, .inl (upd (μ 55) i v))) = wx g μ1 := by subst h; rfl
theorem wxs_56 {i : Nat} {v : Int32} (h : μ1 = mset μ 56 i v) : (wx g μ).set 56 (ad g 56, .inl (cI g, 12, .inl (upd (μ 56) i v))) = wx g μ1 := by subst h; rfl
theorem wxs_57 {i : Nat} {v : Int32} (h : μ1 = mset μ 57 i v) : (wx g μ).set 57 (ad g 57, .inl (cI g, 12, .inl (upd (μ 57) i v))) = wx g μ1 := by subst h; rfl
theorem wxs_58 {i : Nat} {v : Int32} (h : μ1 = mset μ 58 i v) : (wx g μ).set 58 (ad g 58, .inl (cI g, 12, .inl (upd (μ 58) i v))) = wx g μ1 := by subst h; rfl
theorem wxs_59 {i : Nat} {v : Int32} (h : μ1 = mset μ 59 i v) : (wx g μ).set 59 (ad g 59, .inl (cI g, 12, .inl (upd (μ 59) i v))) = wx g μ1 := by subst h; rfl
theorem wxs_60 {i : Nat} {v : Int32} (h : μ1 = mset μ 60 i v) : (wx g μ).set 60 (ad g 60, .inl (cI g, 4096, .inl (upd (μ 60) i v))) = wx g μ1 := by subst h; rfl
theorem wxs_61 {i : Nat} {v : Int32} (h : μ1 = mset μ 61 i v) : (wx g μ).set 61 (ad g 61, .inl (cI g, 16, .inl (upd (μ 61) i v))) = wx g μ1 := by subst h; rfl
theorem wxs_62 {i : Nat} {v : Int32} (h : μ1 = mset μ 62 i v) : (wx g μ).set 62 (ad g 62, .inl (cI g, 32, .inl (upd (μ 62) i v))) = wx g μ1 := by subst h; rfl
theorem wxs_63 {i : Nat} {v : Int32} (h : μ1 = mset μ 63 i v) : (wx g μ).set 63 (ad g 63, .inl (cI g, 200, .inl (upd (μ 63) i v))) = wx g μ1 := by subst h; rfl
theorem wxs_64 {i : Nat} {v : Int32} (h : μ1 = mset μ 64 i v) : (wx g μ).set 64 (ad g 64, .inl (cI g, 200, .inl (upd (μ 64) i v))) = wx g μ1 := by subst h; rfl
theorem wxs_65 {i : Nat} {v : Int32} (h : μ1 = mset μ 65 i v) : (wx g μ).set 65 (ad g 65, .inl (cI g, 14, .inl (upd (μ 65) i v))) = wx g μ1 := by subst h; rfl
theorem wxs_66 {i : Nat} {v : Int32} (h : μ1 = mset μ 66 i v) : (wx g μ).set 66 (ad g 66, .inl (cI g, 14, .inl (upd (μ 66) i v))) = wx g μ1 := by subst h; rfl
theorem wxs_67 {i : Nat} {v : Int32} (h : μ1 = mset μ 67 i v) : (wx g μ).set 67 (ad g 67, .inl (cI g, 14, .inl (upd (μ 67) i v))) = wx g μ1 := by subst h; rfl
theorem wxs_68 {i : Nat} {v : Int32} (h : μ1 = mset μ 68 i v) : (wx g μ).set 68 (ad g 68, .inl (cI g, 14, .inl (upd (μ 68) i v))) = wx g μ1 := by subst h; rfl
theorem wxs_69 {i : Nat} {v : Int32} (h : μ1 = mset μ 69 i v) : (wx g μ).set 69 (ad g 69, .inl (cI g, 64, .inl (upd (μ 69) i v))) = wx g μ1 := by subst h; rfl
theorem wxs_70 {i : Nat} {v : Int32} (h : μ1 = mset μ 70 i v) : (wx g μ).set 70 (ad g 70, .inl (cI g, 200, .inl (upd (μ 70) i v))) = wx g μ1 := by subst h; rfl
theorem wxs_71 {i : Nat} {v : Int32} (h : μ1 = mset μ 71 i v) : (wx g μ).set 71 (ad g 71, .inl (cI g, 200, .inl (upd (μ 71) i v))) = wx g μ1 := by subst h; rfl
theorem wxs_72 {i : Nat} {v : Int32} (h : μ1 = mset μ 72 i v) : (wx g μ).set 72 (ad g 72, .inl (cI g, 14, .inl (upd (μ 72) i v))) = wx g μ1 := by subst h; rfl
theorem wxs_73 {i : Nat} {v : Int32} (h : μ1 = mset μ 73 i v) : (wx g μ).set 73 (ad g 73, .inl (cI g, 14, .inl (upd (μ 73) i v))) = wx g μ1 := by subst h; rfl
theorem wxs_74 {i : Nat} {v : Int32} (h : μ1 = mset μ 74 i v) : (wx g μ).set 74 (ad g 74, .inl (cI g, 14, .inl (upd (μ 74) i v))) = wx g μ1 := by subst h; rfl
theorem wxs_75 {i : Nat} {v : Int32} (h : μ1 = mset μ 75 i v) : (wx g μ).set 75 (ad g 75, .inl (cI g, 14, .inl (upd (μ 75) i v))) = wx g μ1 := by subst h; rfl
theorem wxs_76 {i : Nat} {v : Int32} (h : μ1 = mset μ 76 i v) : (wx g μ).set 76 (ad g 76, .inl (cI g, 64, .inl (upd (μ 76) i v))) = wx g μ1 := by subst h; rfl
theorem wyf_0_12 {v : Int32} (h : μ1 = mset μ 0 12 v) : (wy g μ).set 0 (ad g 0, .inr (11, ([.ref (ad g 1), .ref (ad g 2), .ref (ad g 3), .ref (ad g 4), .ref (ad g 5), .ref (ad g 6), .ref (ad g 7), .ref (ad g 8), .ref (ad g 9), .ref (ad g 12), .ref (ad g 13), .ref (ad g 11), .int (μ 0 12)] : List Value).set 12 (.int v))) = wy g μ1 := by subst h; rfl
theorem wyf_1_1 {v : Int32} (h : μ1 = mset μ 1 1 v) : (wy g μ).set 1 (ad g 1, .inr (9, ([.ref (ad g 14), .int (μ 1 1)] : List Value).set 1 (.int v))) = wy g μ1 := by subst h; rfl
theorem wyf_2_10 {v : Int32} (h : μ1 = mset μ 2 10 v) : (wy g μ).set 2 (ad g 2, .inr (2, ([.ref (ad g 15), .ref (ad g 16), .ref (ad g 17), .ref (ad g 18), .ref (ad g 19), .ref (ad g 20), .ref (ad g 21), .ref (ad g 22), .ref (ad g 23), .ref (ad g 24), .int (μ 2 10)] : List Value).set 10 (.int v))) = wy g μ1 := by subst h; rfl
theorem wyf_3_7 {v : Int32} (h : μ1 = mset μ 3 7 v) : (wy g μ).set 3 (ad g 3, .inr (5, ([.ref (ad g 25), .ref (ad g 26), .ref (ad g 27), .ref (ad g 28), .ref (ad g 29), .ref (ad g 30), .ref (ad g 31), .int (μ 3 7)] : List Value).set 7 (.int v))) = wy g μ1 := by subst h; rfl
theorem wyf_4_12 {v : Int32} (h : μ1 = mset μ 4 12 v) : (wy g μ).set 4 (ad g 4, .inr (8, ([.ref (ad g 32), .ref (ad g 33), .ref (ad g 34), .ref (ad g 35), .ref (ad g 36), .ref (ad g 37), .ref (ad g 38), .ref (ad g 39), .ref (ad g 40), .ref (ad g 41), .ref (ad g 42), .ref (ad g 43), .int (μ 4 12), .int (μ 4 13)] : List Value).set 12 (.int v))) = wy g μ1 := by subst h; rfl
theorem wyf_4_13 {v : Int32} (h : μ1 = mset μ 4 13 v) : (wy g μ).set 4 (ad g 4, .inr (8, ([.ref (ad g 32), .ref (ad g 33), .ref (ad g 34), .ref (ad g 35), .ref (ad g 36), .ref (ad g 37), .ref (ad g 38), .ref (ad g 39), .ref (ad g 40), .ref (ad g 41), .ref (ad g 42), .ref (ad g 43), .int (μ 4 12), .int (μ 4 13)] : List Value).set 13 (.int v))) = wy g μ1 := by subst h; rfl
theorem wyf_5_4 {v : Int32} (h : μ1 = mset μ 5 4 v) : (wy g μ).set 5 (ad g 5, .inr (1, ([.ref (ad g 44), .ref (ad g 45), .ref (ad g 46), .ref (ad g 47), .int (μ 5 4), .int (μ 5 5)] : List Value).set 4 (.int v))) = wy g μ1 := by subst h; rfl
theorem wyf_5_5 {v : Int32} (h : μ1 = mset μ 5 5 v) : (wy g μ).set 5 (ad g 5, .inr (1, ([.ref (ad g 44), .ref (ad g 45), .ref (ad g 46), .ref (ad g 47), .int (μ 5 4), .int (μ 5 5)] : List Value).set 5 (.int v))) = wy g μ1 := by subst h; rfl
theorem wyf_6_4 {v : Int32} (h : μ1 = mset μ 6 4 v) : (wy g μ).set 6 (ad g 6, .inr (0, ([.ref (ad g 48), .ref (ad g 49), .ref (ad g 50), .ref (ad g 51), .int (μ 6 4), .int (μ 6 5)] : List Value).set 4 (.int v))) = wy g μ1 := by subst h; rfl
theorem wyf_6_5 {v : Int32} (h : μ1 = mset μ 6 5 v) : (wy g μ).set 6 (ad g 6, .inr (0, ([.ref (ad g 48), .ref (ad g 49), .ref (ad g 50), .ref (ad g 51), .int (μ 6 4), .int (μ 6 5)] : List Value).set 5 (.int v))) = wy g μ1 := by subst h; rfl
theorem wyf_8_4 {v : Int32} (h : μ1 = mset μ 8 4 v) : (wy g μ).set 8 (ad g 8, .inr (6, ([.ref (ad g 4), .ref (ad g 53), .ref (ad g 54), .ref (ad g 55), .int (μ 8 4), .int (μ 8 5)] : List Value).set 4 (.int v))) = wy g μ1 := by subst h; rfl
theorem wyf_8_5 {v : Int32} (h : μ1 = mset μ 8 5 v) : (wy g μ).set 8 (ad g 8, .inr (6, ([.ref (ad g 4), .ref (ad g 53), .ref (ad g 54), .ref (ad g 55), .int (μ 8 4), .int (μ 8 5)] : List Value).set 5 (.int v))) = wy g μ1 := by subst h; rfl
theorem wyf_9_7 {v : Int32} (h : μ1 = mset μ 9 7 v) : (wy g μ).set 9 (ad g 9, .inr (7, ([.ref (ad g 56), .ref (ad g 57), .ref (ad g 58), .ref (ad g 59), .ref (ad g 60), .ref (ad g 61), .ref (ad g 62), .int (μ 9 7), .int (μ 9 8), .int (μ 9 9), .int (μ 9 10), .int (μ 9 11), .int (μ 9 12), .int (μ 9 13), .int (μ 9 14)] : List Value).set 7 (.int v))) = wy g μ1 := by subst h; rfl
theorem wyf_9_8 {v : Int32} (h : μ1 = mset μ 9 8 v) : (wy g μ).set 9 (ad g 9, .inr (7, ([.ref (ad g 56), .ref (ad g 57), .ref (ad g 58), .ref (ad g 59), .ref (ad g 60), .ref (ad g 61), .ref (ad g 62), .int (μ 9 7), .int (μ 9 8), .int (μ 9 9), .int (μ 9 10), .int (μ 9 11), .int (μ 9 12), .int (μ 9 13), .int (μ 9 14)] : List Value).set 8 (.int v))) = wy g μ1 := by subst h; rfl
theorem wyf_9_9 {v : Int32} (h : μ1 = mset μ 9 9 v) : (wy g μ).set 9 (ad g 9, .inr (7, ([.ref (ad g 56), .ref (ad g 57), .ref (ad g 58), .ref (ad g 59), .ref (ad g 60), .ref (ad g 61), .ref (ad g 62), .int (μ 9 7), .int (μ 9 8), .int (μ 9 9), .int (μ 9 10), .int (μ 9 11), .int (μ 9 12), .int (μ 9 13), .int (μ 9 14)] : List Value).set 9 (.int v))) = wy g μ1 := by subst h; rfl
theorem wyf_9_10 {v : Int32} (h : μ1 = mset μ 9 10 v) : (wy g μ).set 9 (ad g 9, .inr (7, ([.ref (ad g 56), .ref (ad g 57), .ref (ad g 58), .ref (ad g 59), .ref (ad g 60), .ref (ad g 61), .ref (ad g 62), .int (μ 9 7), .int (μ 9 8), .int (μ 9 9), .int (μ 9 10), .int (μ 9 11), .int (μ 9 12), .int (μ 9 13), .int (μ 9 14)] : List Value).set 10 (.int v))) = wy g μ1 := by subst h; rfl
theorem wyf_9_11 {v : Int32} (h : μ1 = mset μ 9 11 v) : (wy g μ).set 9 (ad g 9, .inr (7, ([.ref (ad g 56), .ref (ad g 57), .ref (ad g 58), .ref (ad g 59), .ref (ad g 60), .ref (ad g 61), .ref (ad g 62), .int (μ 9 7), .int (μ 9 8), .int (μ 9 9), .int (μ 9 10), .int (μ 9 11), .int (μ 9 12), .int (μ 9 13), .int (μ 9 14)] : List Value).set 11 (.int v))) = wy g μ1 := by subst h; rfl
theorem wyf_9_12 {v : Int32} (h : μ1 = mset μ 9 12 v) : (wy g μ).set 9 (ad g 9, .inr (7, ([.ref (ad g 56), .ref (ad g 57), .ref (ad g 58), .ref (ad g 59), .ref (ad g 60), .ref (ad g 61), .ref (ad g 62), .int (μ 9 7), .int (μ 9 8), .int (μ 9 9), .int (μ 9 10), .int (μ 9 11), .int (μ 9 12), .int (μ 9 13), .int (μ 9 14)] : List Value).set 12 (.int v))) = wy g μ1 := by subst h; rfl
theorem wyf_9_13 {v : Int32} (h : μ1 = mset μ 9 13 v) : (wy g μ).set 9 (ad g 9, .inr (7, ([.ref (ad g 56), .ref (ad g 57), .ref (ad g 58), .ref (ad g 59), .ref (ad g 60), .ref (ad g 61), .ref (ad g 62), .int (μ 9 7), .int (μ 9 8), .int (μ 9 9), .int (μ 9 10), .int (μ 9 11), .int (μ 9 12), .int (μ 9 13), .int (μ 9 14)] : List Value).set 13 (.int v))) = wy g μ1 := by subst h; rfl
theorem wyf_9_14 {v : Int32} (h : μ1 = mset μ 9 14 v) : (wy g μ).set 9 (ad g 9, .inr (7, ([.ref (ad g 56), .ref (ad g 57), .ref (ad g 58), .ref (ad g 59), .ref (ad g 60), .ref (ad g 61), .ref (ad g 62), .int (μ 9 7), .int (μ 9 8), .int (μ 9 9), .int (μ 9 10), .int (μ 9 11), .int (μ 9 12), .int (μ 9 13), .int (μ 9 14)] : List Value).set 14 (.int v))) = wy g μ1 := by subst h; rfl
theorem wyf_10_7 {v : Int32} (h : μ1 = mset μ 10 7 v) : (wy g μ).set 10 (ad g 10, .inr (3, ([.ref (ad g 63), .ref (ad g 64), .ref (ad g 65), .ref (ad g 66), .ref (ad g 67), .ref (ad g 68), .ref (ad g 69), .int (μ 10 7), .int (μ 10 8), .int (μ 10 9), .int (μ 10 10)] : List Value).set 7 (.int v))) = wy g μ1 := by subst h; rfl
theorem wyf_10_8 {v : Int32} (h : μ1 = mset μ 10 8 v) : (wy g μ).set 10 (ad g 10, .inr (3, ([.ref (ad g 63), .ref (ad g 64), .ref (ad g 65), .ref (ad g 66), .ref (ad g 67), .ref (ad g 68), .ref (ad g 69), .int (μ 10 7), .int (μ 10 8), .int (μ 10 9), .int (μ 10 10)] : List Value).set 8 (.int v))) = wy g μ1 := by subst h; rfl
theorem wyf_10_9 {v : Int32} (h : μ1 = mset μ 10 9 v) : (wy g μ).set 10 (ad g 10, .inr (3, ([.ref (ad g 63), .ref (ad g 64), .ref (ad g 65), .ref (ad g 66), .ref (ad g 67), .ref (ad g 68), .ref (ad g 69), .int (μ 10 7), .int (μ 10 8), .int (μ 10 9), .int (μ 10 10)] : List Value).set 9 (.int v))) = wy g μ1 := by subst h; rfl
theorem wyf_10_10 {v : Int32} (h : μ1 = mset μ 10 10 v) : (wy g μ).set 10 (ad g 10, .inr (3, ([.ref (ad g 63), .ref (ad g 64), .ref (ad g 65), .ref (ad g 66), .ref (ad g 67), .ref (ad g 68), .ref (ad g 69), .int (μ 10 7), .int (μ 10 8), .int (μ 10 9), .int (μ 10 10)] : List Value).set 10 (.int v))) = wy g μ1 := by subst h; rfl
theorem wyf_11_7 {v : Int32} (h : μ1 = mset μ 11 7 v) : (wy g μ).set 11 (ad g 11, .inr (3, ([.ref (ad g 70), .ref (ad g 71), .ref (ad g 72), .ref (ad g 73), .ref (ad g 74), .ref (ad g 75), .ref (ad g 76), .int (μ 11 7), .int (μ 11 8), .int (μ 11 9), .int (μ 11 10)] : List Value).set 7 (.int v))) = wy g μ1 := by subst h; rfl
theorem wyf_11_8 {v : Int32} (h : μ1 = mset μ 11 8 v) : (wy g μ).set 11 (ad g 11, .inr (3, ([.ref (ad g 70), .ref (ad g 71), .ref (ad g 72), .ref (ad g 73), .ref (ad g 74), .ref (ad g 75), .ref (ad g 76), .int (μ 11 7), .int (μ 11 8), .int (μ 11 9), .int (μ 11 10)] : List Value).set 8 (.int v))) = wy g μ1 := by subst h; rfl
theorem wyf_11_9 {v : Int32} (h : μ1 = mset μ 11 9 v) : (wy g μ).set 11 (ad g 11, .inr (3, ([.ref (ad g 70), .ref (ad g 71), .ref (ad g 72), .ref (ad g 73), .ref (ad g 74), .ref (ad g 75), .ref (ad g 76), .int (μ 11 7), .int (μ 11 8), .int (μ 11 9), .int (μ 11 10)] : List Value).set 9 (.int v))) = wy g μ1 := by subst h; rfl
theorem wyf_11_10 {v : Int32} (h : μ1 = mset μ 11 10 v) : (wy g μ).set 11 (ad g 11, .inr (3, ([.ref (ad g 70), .ref (ad g 71), .ref (ad g 72), .ref (ad g 73), .ref (ad g 74), .ref (ad g 75), .ref (ad g 76), .int (μ 11 7), .int (μ 11 8), .int (μ 11 9), .int (μ 11 10)] : List Value).set 10 (.int v))) = wy g μ1 := by subst h; rfl
theorem wys_12 {i : Nat} {v : Int32} (h : μ1 = mset μ 12 i v) : (wy g μ).set 12 (ad g 12, .inl (cI g, 3, .inl (upd (μ 12) i v))) = wy g μ1 := by subst h; rfl
theorem wys_13 {i : Nat} {v : Int32} (h : μ1 = mset μ 13 i v) : (wy g μ).set 13 (ad g 13, .inl (cI g, 3, .inl (upd (μ 13) i v))) = wy g μ1 := by subst h; rfl
theorem wys_14 {i : Nat} {v : Int32} (h : μ1 = mset μ 14 i v) : (wy g μ).set 14 (ad g 14, .inl (cI g, 400, .inl (upd (μ 14) i v))) = wy g μ1 := by subst h; rfl
theorem wys_15 {i : Nat} {v : Int32} (h : μ1 = mset μ 15 i v) : (wy g μ).set 15 (ad g 15, .inl (cI g, 32, .inl (upd (μ 15) i v))) = wy g μ1 := by subst h; rfl
theorem wys_16 {i : Nat} {v : Int32} (h : μ1 = mset μ 16 i v) : (wy g μ).set 16 (ad g 16, .inl (cI g, 32, .inl (upd (μ 16) i v))) = wy g μ1 := by subst h; rfl
theorem wys_17 {i : Nat} {v : Int32} (h : μ1 = mset μ 17 i v) : (wy g μ).set 17 (ad g 17, .inl (cI g, 32, .inl (upd (μ 17) i v))) = wy g μ1 := by subst h; rfl
theorem wys_18 {i : Nat} {v : Int32} (h : μ1 = mset μ 18 i v) : (wy g μ).set 18 (ad g 18, .inl (cI g, 32, .inl (upd (μ 18) i v))) = wy g μ1 := by subst h; rfl
theorem wys_19 {i : Nat} {v : Int32} (h : μ1 = mset μ 19 i v) : (wy g μ).set 19 (ad g 19, .inl (cI g, 32, .inl (upd (μ 19) i v))) = wy g μ1 := by subst h; rfl
theorem wys_20 {i : Nat} {v : Int32} (h : μ1 = mset μ 20 i v) : (wy g μ).set 20 (ad g 20, .inl (cI g, 32, .inl (upd (μ 20) i v))) = wy g μ1 := by subst h; rfl
theorem wys_21 {i : Nat} {v : Int32} (h : μ1 = mset μ 21 i v) : (wy g μ).set 21 (ad g 21, .inl (cI g, 32, .inl (upd (μ 21) i v))) = wy g μ1 := by subst h; rfl
theorem wys_22 {i : Nat} {v : Int32} (h : μ1 = mset μ 22 i v) : (wy g μ).set 22 (ad g 22, .inl (cI g, 32, .inl (upd (μ 22) i v))) = wy g μ1 := by subst h; rfl
theorem wys_23 {i : Nat} {v : Int32} (h : μ1 = mset μ 23 i v) : (wy g μ).set 23 (ad g 23, .inl (cI g, 32, .inl (upd (μ 23) i v))) = wy g μ1 := by subst h; rfl
theorem wys_24 {i : Nat} {v : Int32} (h : μ1 = mset μ 24 i v) : (wy g μ).set 24 (ad g 24, .inl (cI g, 8, .inl (upd (μ 24) i v))) = wy g μ1 := by subst h; rfl
theorem wys_25 {i : Nat} {v : Int32} (h : μ1 = mset μ 25 i v) : (wy g μ).set 25 (ad g 25, .inl (cI g, 16, .inl (upd (μ 25) i v))) = wy g μ1 := by subst h; rfl
theorem wys_26 {i : Nat} {v : Int32} (h : μ1 = mset μ 26 i v) : (wy g μ).set 26 (ad g 26, .inl (cI g, 16, .inl (upd (μ 26) i v))) = wy g μ1 := by subst h; rfl
theorem wys_27 {i : Nat} {v : Int32} (h : μ1 = mset μ 27 i v) : (wy g μ).set 27 (ad g 27, .inl (cI g, 128, .inl (upd (μ 27) i v))) = wy g μ1 := by subst h; rfl
theorem wys_28 {i : Nat} {v : Int32} (h : μ1 = mset μ 28 i v) : (wy g μ).set 28 (ad g 28, .inl (cI g, 16, .inl (upd (μ 28) i v))) = wy g μ1 := by subst h; rfl
theorem wys_29 {i : Nat} {v : Int32} (h : μ1 = mset μ 29 i v) : (wy g μ).set 29 (ad g 29, .inl (cI g, 16, .inl (upd (μ 29) i v))) = wy g μ1 := by subst h; rfl
theorem wys_30 {i : Nat} {v : Int32} (h : μ1 = mset μ 30 i v) : (wy g μ).set 30 (ad g 30, .inl (cI g, 16, .inl (upd (μ 30) i v))) = wy g μ1 := by subst h; rfl
theorem wys_31 {i : Nat} {v : Int32} (h : μ1 = mset μ 31 i v) : (wy g μ).set 31 (ad g 31, .inl (cI g, 16, .inl (upd (μ 31) i v))) = wy g μ1 := by subst h; rfl
theorem wys_32 {i : Nat} {v : Int32} (h : μ1 = mset μ 32 i v) : (wy g μ).set 32 (ad g 32, .inl (cI g, 10, .inl (upd (μ 32) i v))) = wy g μ1 := by subst h; rfl
theorem wys_33 {i : Nat} {v : Int32} (h : μ1 = mset μ 33 i v) : (wy g μ).set 33 (ad g 33, .inl (cI g, 10, .inl (upd (μ 33) i v))) = wy g μ1 := by subst h; rfl
theorem wys_34 {i : Nat} {v : Int32} (h : μ1 = mset μ 34 i v) : (wy g μ).set 34 (ad g 34, .inl (cI g, 10, .inl (upd (μ 34) i v))) = wy g μ1 := by subst h; rfl
theorem wys_35 {i : Nat} {v : Int32} (h : μ1 = mset μ 35 i v) : (wy g μ).set 35 (ad g 35, .inl (cI g, 10, .inl (upd (μ 35) i v))) = wy g μ1 := by subst h; rfl
theorem wys_36 {i : Nat} {v : Int32} (h : μ1 = mset μ 36 i v) : (wy g μ).set 36 (ad g 36, .inl (cI g, 10, .inl (upd (μ 36) i v))) = wy g μ1 := by subst h; rfl
theorem wys_37 {i : Nat} {v : Int32} (h : μ1 = mset μ 37 i v) : (wy g μ).set 37 (ad g 37, .inl (cI g, 10, .inl (upd (μ 37) i v))) = wy g μ1 := by subst h; rfl
theorem wys_38 {i : Nat} {v : Int32} (h : μ1 = mset μ 38 i v) : (wy g μ).set 38 (ad g 38, .inl (cI g, 10, .inl (upd (μ 38) i v))) = wy g μ1 := by subst h; rfl
theorem wys_39 {i : Nat} {v : Int32} (h : μ1 = mset μ 39 i v) : (wy g μ).set 39 (ad g 39, .inl (cI g, 10, .inl (upd (μ 39) i v))) = wy g μ1 := by subst h; rfl
theorem wys_40 {i : Nat} {v : Int32} (h : μ1 = mset μ 40 i v) : (wy g μ).set 40 (ad g 40, .inl (cI g, 10, .inl (upd (μ 40) i v))) = wy g μ1 := by subst h; rfl
theorem wys_41 {i : Nat} {v : Int32} (h : μ1 = mset μ 41 i v) : (wy g μ).set 41 (ad g 41, .inl (cI g, 42, .inl (upd (μ 41) i v))) = wy g μ1 := by subst h; rfl
theorem wys_42 {i : Nat} {v : Int32} (h : μ1 = mset μ 42 i v) : (wy g μ).set 42 (ad g 42, .inl (cI g, 600, .inl (upd (μ 42) i v))) = wy g μ1 := by subst h; rfl
theorem wys_43 {i : Nat} {v : Int32} (h : μ1 = mset μ 43 i v) : (wy g μ).set 43 (ad g 43, .inl (cI g, 600, .inl (upd (μ 43) i v))) = wy g μ1 := by subst h; rfl
theorem wys_44 {i : Nat} {v : Int32} (h : μ1 = mset μ 44 i v) : (wy g μ).set 44 (ad g 44, .inl (cI g, 512, .inl (upd (μ 44) i v))) = wy g μ1 := by subst h; rfl
theorem wys_45 {i : Nat} {v : Int32} (h : μ1 = mset μ 45 i v) : (wy g μ).set 45 (ad g 45, .inl (cI g, 16, .inl (upd (μ 45) i v))) = wy g μ1 := by subst h; rfl
theorem wys_46 {i : Nat} {v : Int32} (h : μ1 = mset μ 46 i v) : (wy g μ).set 46 (ad g 46, .inl (cI g, 16, .inl (upd (μ 46) i v))) = wy g μ1 := by subst h; rfl
theorem wys_47 {i : Nat} {v : Int32} (h : μ1 = mset μ 47 i v) : (wy g μ).set 47 (ad g 47, .inl (cI g, 16, .inl (upd (μ 47) i v))) = wy g μ1 := by subst h; rfl
theorem wys_48 {i : Nat} {v : Int32} (h : μ1 = mset μ 48 i v) : (wy g μ).set 48 (ad g 48, .inl (cI g, 200, .inl (upd (μ 48) i v))) = wy g μ1 := by subst h; rfl
theorem wys_49 {i : Nat} {v : Int32} (h : μ1 = mset μ 49 i v) : (wy g μ).set 49 (ad g 49, .inl (cI g, 200, .inl (upd (μ 49) i v))) = wy g μ1 := by subst h; rfl
theorem wys_50 {i : Nat} {v : Int32} (h : μ1 = mset μ 50 i v) : (wy g μ).set 50 (ad g 50, .inl (cI g, 200, .inl (upd (μ 50) i v))) = wy g μ1 := by subst h; rfl
theorem wys_51 {i : Nat} {v : Int32} (h : μ1 = mset μ 51 i v) : (wy g μ).set 51 (ad g 51, .inl (cI g, 200, .inl (upd (μ 51) i v))) = wy g μ1 := by subst h; rfl
theorem wys_52 {i : Nat} {v : Int32} (h : μ1 = mset μ 52 i v) : (wy g μ).set 52 (ad g 52, .inl (cI g, 128, .inl (upd (μ 52) i v))) = wy g μ1 := by subst h; rfl
theorem wys_53 {i : Nat} {v : Int32} (h : μ1 = mset μ 53 i v) : (wy g μ).set 53 (ad g 53, .inl (cI g, 8, .inl (upd (μ 53) i v))) = wy g μ1 := by subst h; rfl
theorem wys_54 {i : Nat} {v : Int32} (h : μ1 = mset μ 54 i v) : (wy g μ).set 54 (ad g 54, .inl (cI g, 81, .inl (upd (μ 54) i v))) = wy g μ1 := by subst h; rfl
theorem wys_55 {i : Nat} {v : Int32} (h : μ1 = mset μ 55 i v) : (wy g μ).set 55 (ad g 55, .inl (cI g, 2304, .inl (upd (μ 55) i v))) = wy g μ1 := by subst h; rfl
theorem wys_56 {i : Nat} {v : Int32} (h : μ1 = mset μ 56 i v) : (wy g μ).set 56 (ad g 56, .inl (cI g, 12, .inl (upd (μ 56) i v))) = wy g μ1 := by subst h; rfl
theorem wys_57 {i : Nat} {v : Int32} (h : μ1 = mset μ 57 i v) : (wy g μ).set 57 (ad g 57, .inl (cI g, 12, .inl (upd (μ 57) i v))) = wy g μ1 := by subst h; rfl
theorem wys_58 {i : Nat} {v : Int32} (h : μ1 = mset μ 58 i v) : (wy g μ).set 58 (ad g 58, .inl (cI g, 12, .inl (upd (μ 58) i v))) = wy g μ1 := by subst h; rfl
theorem wys_59 {i : Nat} {v : Int32} (h : μ1 = mset μ 59 i v) : (wy g μ).set 59 (ad g 59, .inl (cI g, 12, .inl (upd (μ 59) i v))) = wy g μ1 := by subst h; rfl
theorem wys_60 {i : Nat} {v : Int32} (h : μ1 = mset μ 60 i v) : (wy g μ).set 60 (ad g 60, .inl (cI g, 4096, .inl (upd (μ 60) i v))) = wy g μ1 := by subst h; rfl
theorem wys_61 {i : Nat} {v : Int32} (h : μ1 = mset μ 61 i v) : (wy g μ).set 61 (ad g 61, .inl (cI g, 16, .inl (upd (μ 61) i v))) = wy g μ1 := by subst h; rfl
theorem wys_62 {i : Nat} {v : Int32} (h : μ1 = mset μ 62 i v) : (wy g μ).set 62 (ad g 62, .inl (cI g, 32, .inl (upd (μ 62) i v))) = wy g μ1 := by subst h; rfl
theorem wys_63 {i : Nat} {v : Int32} (h : μ1 = mset μ 63 i v) : (wy g μ).set 63 (ad g 63, .inl (cI g, 200, .inl (upd (μ 63) i v))) = wy g μ1 := by subst h; rfl
theorem wys_64 {i : Nat} {v : Int32} (h : μ1 = mset μ 64 i v) : (wy g μ).set 64 (ad g 64, .inl (cI g, 200, .inl (upd (μ 64) i v))) = wy g μ1 := by subst h; rfl
theorem wys_65 {i : Nat} {v : Int32} (h : μ1 = mset μ 65 i v) : (wy g μ).set 65 (ad g 65, .inl (cI g, 14, .inl (upd (μ 65) i v))) = wy g μ1 := by subst h; rfl
theorem wys_66 {i : Nat} {v : Int32} (h : μ1 = mset μ 66 i v) : (wy g μ).set 66 (ad g 66, .inl (cI g, 14, .inl (upd (μ 66) i v))) = wy g μ1 := by subst h; rfl
theorem wys_67 {i : Nat} {v : Int32} (h : μ1 = mset μ 67 i v) : (wy g μ).set 67 (ad g 67, .inl (cI g, 14, .inl (upd (μ 67) i v))) = wy g μ1 := by subst h; rfl
theorem wys_68 {i : Nat} {v : Int32} (h : μ1 = mset μ 68 i v) : (wy g μ).set 68 (ad g 68, .inl (cI g, 14, .inl (upd (μ 68) i v))) = wy g μ1 := by subst h; rfl
theorem wys_69 {i : Nat} {v : Int32} (h : μ1 = mset μ 69 i v) : (wy g μ).set 69 (ad g 69, .inl (cI g, 64, .inl (upd (μ 69) i v))) = wy g μ1 := by subst h; rfl
theorem wys_70 {i : Nat} {v : Int32} (h : μ1 = mset μ 70 i v) : (wy g μ).set 70 (ad g 70, .inl (cI g, 200, .inl (upd (μ 70) i v))) = wy g μ1 := by subst h; rfl
theorem wys_71 {i : Nat} {v : Int32} (h : μ1 = mset μ 71 i v) : (wy g μ).set 71 (ad g 71, .inl (cI g, 200, .inl (upd (μ 71) i v))) = wy g μ1 := by subst h; rfl
theorem wys_72 {i : Nat} {v : Int32} (h : μ1 = mset μ 72 i v) : (wy g μ).set 72 (ad g 72, .inl (cI g, 14, .inl (upd (μ 72) i v))) = wy g μ1 := by subst h; rfl
theorem wys_73 {i : Nat} {v : Int32} (h : μ1 = mset μ 73 i v) : (wy g μ).set 73 (ad g 73, .inl (cI g, 14, .inl (upd (μ 73) i v))) = wy g μ1 := by subst h; rfl
theorem wys_74 {i : Nat} {v : Int32} (h : μ1 = mset μ 74 i v) : (wy g μ).set 74 (ad g 74, .inl (cI g, 14, .inl (upd (μ 74) i v))) = wy g μ1 := by subst h; rfl
theorem wys_75 {i : Nat} {v : Int32} (h : μ1 = mset μ 75 i v) : (wy g μ).set 75 (ad g 75, .inl (cI g, 14, .inl (upd (μ 75) i v))) = wy g μ1 := by subst h; rfl
theorem wys_76 {i : Nat} {v : Int32} (h : μ1 = mset μ 76 i v) : (wy g μ).set 76 (ad g 76, .inl (cI g, 64, .inl (upd (μ 76) i v))) = wy g μ1 := by subst h; rfl
theorem wyf_77_3 {v : Int32} (h : μ1 = mset μ 77 3 v) : (wy g μ).set 77 (ad g 77, .inr (4, ([.ref (ad g 14), .int (μ 77 1), .ref (ad g 11), .int (μ 77 3), .int (μ 77 4)] : List Value).set 3 (.int v))) = wy g μ1 := by subst h; rfl
theorem wyf_77_4 {v : Int32} (h : μ1 = mset μ 77 4 v) : (wy g μ).set 77 (ad g 77, .inr (4, ([.ref (ad g 14), .int (μ 77 1), .ref (ad g 11), .int (μ 77 3), .int (μ 77 4)] : List Value).set 4 (.int v))) = wy g μ1 := by subst h; rfl
theorem wmf_0_0 {v : Int32} (h : μ1 = mset μ 0 0 v) : (wm g μ).set 0 (ad g 0, .inr (12, ([.int (μ 0 0), .int (μ 0 1), .int (μ 0 2), .int (μ 0 3), .int (μ 0 4), .int (μ 0 5), .ref (ad g 1), .ref (ad g 2), .ref (ad g 3), .ref (ad g 4), .ref (ad g 5), .ref (ad g 6), .ref (ad g 7), .ref (ad g 8), .ref (ad g 9), .ref (ad g 10), .ref (ad g 11), .ref (ad g 12), .ref (ad g 13), .ref (ad g 14), .ref (ad g 15), .ref (ad g 16), .ref (ad g 17), .ref (ad g 18), .ref (ad g 19), .ref (ad g 20), .ref (ad g 21), .ref (ad g 22), .ref (ad g 23), .ref (ad g 24), .ref (ad g 25), .ref (ad g 26), .ref (ad g 27), .ref (ad g 28), .ref (ad g 29), .int (μ 0 35), .int (μ 0 36), .ref (ad g 30), .int (μ 0 38), .int (μ 0 39), .int (μ 0 40), .int (μ 0 41), .int (μ 0 42), .int (μ 0 43), .int (μ 0 44), .int (μ 0 45), .int (μ 0 46), .ref (ad g 31), .ref (ad g 32), .ref (ad g 33), .ref (ad g 34), .ref (ad g 35), .ref (ad g 36), .ref (ad g 37), .ref (ad g 38), .ref (ad g 39), .ref (ad g 40), .ref (ad g 41), .int (μ 0 58), .ref (ad g 42), .ref (ad g 43), .int (μ 0 61), .ref (ad g 44), .ref (ad g 45), .ref (ad g 46), .ref (ad g 47), .ref (ad g 48), .ref (ad g 49), .int (μ 0 68), .ref (ad g 50), .ref (ad g 51), .ref (ad g 52), .ref (ad g 53), .ref (ad g 54), .ref (ad g 55), .ref (ad g 56), .ref (ad g 57), .int (μ 0 77)] : List Value).set 0 (.int v))) = wm g μ1 := by subst h; rfl
theorem wmf_0_1 {v : Int32} (h : μ1 = mset μ 0 1 v) : (wm g μ).set 0 (ad g 0, .inr (12, ([.int (μ 0 0), .int (μ 0 1), .int (μ 0 2), .int (μ 0 3), .int (μ 0 4), .int (μ 0 5), .ref (ad g 1), .ref (ad g 2), .ref (ad g 3), .ref (ad g 4), .ref (ad g 5), .ref (ad g 6), .ref (ad g 7), .ref (ad g 8), .ref (ad g 9), .ref (ad g 10), .ref (ad g 11), .ref (ad g 12), .ref (ad g 13), .ref (ad g 14), .ref (ad g 15), .ref (ad g 16), .ref (ad g 17), .ref (ad g 18), .ref (ad g 19), .ref (ad g 20), .ref (ad g 21), .ref (ad g 22), .ref (ad g 23), .ref (ad g 24), .ref (ad g 25), .ref (ad g 26), .ref (ad g 27), .ref (ad g 28), .ref (ad g 29), .int (μ 0 35), .int (μ 0 36), .ref (ad g 30), .int (μ 0 38), .int (μ 0 39), .int (μ 0 40), .int (μ 0 41), .int (μ 0 42), .int (μ 0 43), .int (μ 0 44), .int (μ 0 45), .int (μ 0 46), .ref (ad g 31), .ref (ad g 32), .ref (ad g 33), .ref (ad g 34), .ref (ad g 35), .ref (ad g 36), .ref (ad g 37), .ref (ad g 38), .ref (ad g 39), .ref (ad g 40), .ref (ad g 41), .int (μ 0 58), .ref (ad g 42), .ref (ad g 43), .int (μ 0 61), .ref (ad g 44), .ref (ad g 45), .ref (ad g 46), .ref (ad g 47), .ref (ad g 48), .ref (ad g 49), .int (μ 0 68), .ref (ad g 50), .ref (ad g 51), .ref (ad g 52), .ref (ad g 53), .ref (ad g 54), .ref (ad g 55), .ref (ad g 56), .ref (ad g 57), .int (μ 0 77)] : List Value).set 1 (.int v))) = wm g μ1 := by subst h; rfl
theorem wmf_0_2 {v : Int32} (h : μ1 = mset μ 0 2 v) : (wm g μ).set 0 (ad g 0, .inr (12, ([.int (μ 0 0), .int (μ 0 1), .int (μ 0 2), .int (μ 0 3), .int (μ 0 4), .int (μ 0 5), .ref (ad g 1), .ref (ad g 2), .ref (ad g 3), .ref (ad g 4), .ref (ad g 5), .ref (ad g 6), .ref (ad g 7), .ref (ad g 8), .ref (ad g 9), .ref (ad g 10), .ref (ad g 11), .ref (ad g 12), .ref (ad g 13), .ref (ad g 14), .ref (ad g 15), .ref (ad g 16), .ref (ad g 17), .ref (ad g 18), .ref (ad g 19), .ref (ad g 20), .ref (ad g 21), .ref (ad g 22), .ref (ad g 23), .ref (ad g 24), .ref (ad g 25), .ref (ad g 26), .ref (ad g 27), .ref (ad g 28), .ref (ad g 29), .int (μ 0 35), .int (μ 0 36), .ref (ad g 30), .int (μ 0 38), .int (μ 0 39), .int (μ 0 40), .int (μ 0 41), .int (μ 0 42), .int (μ 0 43), .int (μ 0 44), .int (μ 0 45), .int (μ 0 46), .ref (ad g 31), .ref (ad g 32), .ref (ad g 33), .ref (ad g 34), .ref (ad g 35), .ref (ad g 36), .ref (ad g 37), .ref (ad g 38), .ref (ad g 39), .ref (ad g 40), .ref (ad g 41), .int (μ 0 58), .ref (ad g 42), .ref (ad g 43), .int (μ 0 61), .ref (ad g 44), .ref (ad g 45), .ref (ad g 46), .ref (ad g 47), .ref (ad g 48), .ref (ad g 49), .int (μ 0 68), .ref (ad g 50), .ref (ad g 51), .ref (ad g 52), .ref (ad g 53), .ref (ad g 54), .ref (ad g 55), .ref (ad g 56), .ref (ad g 57), .int (μ 0 77)] : List Value).set 2 (.int v))) = wm g μ1 := by subst h; rfl
theorem wmf_0_3 {v : Int32} (h : μ1 = mset μ 0 3 v) : (wm g μ).set 0 (ad g 0, .inr (12, ([.int (μ 0 0), .int (μ 0 1), .int (μ 0 2), .int (μ 0 3), .int (μ 0 4), .int (μ 0 5), .ref (ad g 1), .ref (ad g 2), .ref (ad g 3), .ref (ad g 4), .ref (ad g 5), .ref (ad g 6), .ref (ad g 7), .ref (ad g 8), .ref (ad g 9), .ref (ad g 10), .ref (ad g 11), .ref (ad g 12), .ref (ad g 13), .ref (ad g 14), .ref (ad g 15), .ref (ad g 16), .ref (ad g 17), .ref (ad g 18), .ref (ad g 19), .ref (ad g 20), .ref (ad g 21), .ref (ad g 22), .ref (ad g 23), .ref (ad g 24), .ref (ad g 25), .ref (ad g 26), .ref (ad g 27), .ref (ad g 28), .ref (ad g 29), .int (μ 0 35), .int (μ 0 36), .ref (ad g 30), .int (μ 0 38), .int (μ 0 39), .int (μ 0 40), .int (μ 0 41), .int (μ 0 42), .int (μ 0 43), .int (μ 0 44), .int (μ 0 45), .int (μ 0 46), .ref (ad g 31), .ref (ad g 32), .ref (ad g 33), .ref (ad g 34), .ref (ad g 35), .ref (ad g 36), .ref (ad g 37), .ref (ad g 38), .ref (ad g 39), .ref (ad g 40), .ref (ad g 41), .int (μ 0 58), .ref (ad g 42), .ref (ad g 43), .int (μ 0 61), .ref (ad g 44), .ref (ad g 45), .ref (ad g 46), .ref (ad g 47), .ref (ad g 48), .ref (ad g 49), .int (μ 0 68), .ref (ad g 50), .ref (ad g 51), .ref (ad g 52), .ref (ad g 53), .ref (ad g 54), .ref (ad g 55), .ref (ad g 56), .ref (ad g 57), .int (μ 0 77)] : List Value).set 3 (.int v))) = wm g μ1 := by subst h; rfl
theorem wmf_0_4 {v : Int32} (h : μ1 = mset μ 0 4 v) : (wm g μ).set 0 (ad g 0, .inr (12, ([.int (μ 0 0), .int (μ 0 1), .int (μ 0 2), .int (μ 0 3), .int (μ 0 4), .int (μ 0 5), .ref (ad g 1), .ref (ad g 2), .ref (ad g 3), .ref (ad g 4), .ref (ad g 5), .ref (ad g 6), .ref (ad g 7), .ref (ad g 8), .ref (ad g 9), .ref (ad g 10), .ref (ad g 11), .ref (ad g 12), .ref (ad g 13), .ref (ad g 14), .ref (ad g 15), .ref (ad g 16), .ref (ad g 17), .ref (ad g 18), .ref (ad g 19), .ref (ad g 20), .ref (ad g 21), .ref (ad g 22), .ref (ad g 23), .ref (ad g 24), .ref (ad g 25), .ref (ad g 26), .ref (ad g 27), .ref (ad g 28), .ref (ad g 29), .int (μ 0 35), .int (μ 0 36), .ref (ad g 30), .int (μ 0 38), .int (μ 0 39), .int (μ 0 40), .int (μ 0 41), .int (μ 0 42), .int (μ 0 43), .int (μ 0 44), .int (μ 0 45), .int (μ 0 46), .ref (ad g 31), .ref (ad g 32), .ref (ad g 33), .ref (ad g 34), .ref (ad g 35), .ref (ad g 36), .ref (ad g 37), .ref (ad g 38), .ref (ad g 39), .ref (ad g 40), .ref (ad g 41), .int (μ 0 58), .ref (ad g 42), .ref (ad g 43), .int (μ 0 61), .ref (ad g 44), .ref (ad g 45), .ref (ad g 46), .ref (ad g 47), .ref (ad g 48), .ref (ad g 49), .int (μ 0 68), .ref (ad g 50), .ref (ad g 51), .ref (ad g 52), .ref (ad g 53), .ref (ad g 54), .ref (ad g 55), .ref (ad g 56), .ref (ad g 57), .int (μ 0 77)] : List Value).set 4 (.int v))) = wm g μ1 := by subst h; rfl
theorem wmf_0_5 {v : Int32} (h : μ1 = mset μ 0 5 v) : (wm g μ).set 0 (ad g 0, .inr (12, ([.int (μ 0 0), .int (μ 0 1), .int (μ 0 2), .int (μ 0 3), .int (μ 0 4), .int (μ 0 5), .ref (ad g 1), .ref (ad g 2), .ref (ad g 3), .ref (ad g 4), .ref (ad g 5), .ref (ad g 6), .ref (ad g 7), .ref (ad g 8), .ref (ad g 9), .ref (ad g 10), .ref (ad g 11), .ref (ad g 12), .ref (ad g 13), .ref (ad g 14), .ref (ad g 15), .ref (ad g 16), .ref (ad g 17), .ref (ad g 18), .ref (ad g 19), .ref (ad g 20), .ref (ad g 21), .ref (ad g 22), .ref (ad g 23), .ref (ad g 24), .ref (ad g 25), .ref (ad g 26), .ref (ad g 27), .ref (ad g 28), .ref (ad g 29), .int (μ 0 35), .int (μ 0 36), .ref (ad g 30), .int (μ 0 38), .int (μ 0 39), .int (μ 0 40), .int (μ 0 41), .int (μ 0 42), .int (μ 0 43), .int (μ 0 44), .int (μ 0 45), .int (μ 0 46), .ref (ad g 31), .ref (ad g 32), .ref (ad g 33), .ref (ad g 34), .ref (ad g 35), .ref (ad g 36), .ref (ad g 37), .ref (ad g 38), .ref (ad g 39), .ref (ad g 40), .ref (ad g 41), .int (μ 0 58), .ref (ad g 42), .ref (ad g 43), .int (μ 0 61), .ref (ad g 44), .ref (ad g 45), .ref (ad g 46), .ref (ad g 47), .ref (ad g 48), .ref (ad g 49), .int (μ 0 68), .ref (ad g 50), .ref (ad g 51), .ref (ad g 52), .ref (ad g 53), .ref (ad g 54), .ref (ad g 55), .ref (ad g 56), .ref (ad g 57), .int (μ 0 77)] : List Value).set 5 (.int v))) = wm g μ1 := by subst h; rfl
theorem wmf_0_35 {v : Int32} (h : μ1 = mset μ 0 35 v) : (wm g μ).set 0 (ad g 0, .inr (12, ([.int (μ 0 0), .int (μ 0 1), .int (μ 0 2), .int (μ 0 3), .int (μ 0 4), .int (μ 0 5), .ref (ad g 1), .ref (ad g 2), .ref (ad g 3), .ref (ad g 4), .ref (ad g 5), .ref (ad g 6), .ref (ad g 7), .ref (ad g 8), .ref (ad g 9), .ref (ad g 10), .ref (ad g 11), .ref (ad g 12), .ref (ad g 13), .ref (ad g 14), .ref (ad g 15), .ref (ad g 16), .ref (ad g 17), .ref (ad g 18), .ref (ad g 19), .ref (ad g 20), .ref (ad g 21), .ref (ad g 22), .ref (ad g 23), .ref (ad g 24), .ref (ad g 25), .ref (ad g 26), .ref (ad g 27), .ref (ad g 28), .ref (ad g 29), .int (μ 0 35), .int (μ 0 36), .ref (ad g 30), .int (μ 0 38), .int (μ 0 39), .int (μ 0 40), .int (μ 0 41), .int (μ 0 42), .int (μ 0 43), .int (μ 0 44), .int (μ 0 45), .int (μ 0 46), .ref (ad g 31), .ref (ad g 32), .ref (ad g 33), .ref (ad g 34), .ref (ad g 35), .ref (ad g 36), .ref (ad g 37), .ref (ad g 38), .ref (ad g 39), .ref (ad g 40), .ref (ad g 41), .int (μ 0 58), .ref (ad g 42), .ref (ad g 43), .int (μ 0 61), .ref (ad g 44), .ref (ad g 45), .ref (ad g 46), .ref (ad g 47), .ref (ad g 48), .ref (ad g 49), .int (μ 0 68), .ref (ad g 50), .ref (ad g 51), .ref (ad g 52), .ref (ad g 53), .ref (ad g 54), .ref (ad g 55), .ref (ad g 56), .ref (ad g 57), .int (μ 0 77)] : List Value).set 35 (.int v))) = wm g μ1 := by subst h; rfl
theorem wmf_0_36 {v : Int32} (h : μ1 = mset μ 0 36 v) : (wm g μ).set 0 (ad g 0, .inr (12, ([.int (μ 0 0), .int (μ 0 1), .int (μ 0 2), .int (μ 0 3), .int (μ 0 4), .int (μ 0 5), .ref (ad g 1), .ref (ad g 2), .ref (ad g 3), .ref (ad g 4), .ref (ad g 5), .ref (ad g 6), .ref (ad g 7), .ref (ad g 8), .ref (ad g 9), .ref (ad g 10), .ref (ad g 11), .ref (ad g 12), .ref (ad g 13), .ref (ad g 14), .ref (ad g 15), .ref (ad g 16), .ref (ad g 17), .ref (ad g 18), .ref (ad g 19), .ref (ad g 20), .ref (ad g 21), .ref (ad g 22), .ref (ad g 23), .ref (ad g 24), .ref (ad g 25), .ref (ad g 26), .ref (ad g 27), .ref (ad g 28), .ref (ad g 29), .int (μ 0 35), .int (μ 0 36), .ref (ad g 30), .int (μ 0 38), .int (μ 0 39), .int (μ 0 40), .int (μ 0 41), .int (μ 0 42), .int (μ 0 43), .int (μ 0 44), .int (μ 0 45), .int (μ 0 46), .ref (ad g 31), .ref (ad g 32), .ref (ad g 33), .ref (ad g 34), .ref (ad g 35), .ref (ad g 36), .ref (ad g 37), .ref (ad g 38), .ref (ad g 39), .ref (ad g 40), .ref (ad g 41), .int (μ 0 58), .ref (ad g 42), .ref (ad g 43), .int (μ 0 61), .ref (ad g 44), .ref (ad g 45), .ref (ad g 46), .ref (ad g 47), .ref (ad g 48), .ref (ad g 49), .int (μ 0 68), .ref (ad g 50), .ref (ad g 51), .ref (ad g 52), .ref (ad g 53), .ref (ad g 54), .ref (ad g 55), .ref (ad g 56), .ref (ad g 57), .int (μ 0 77)] : List Value).set 36 (.int v))) = wm g μ1 := by subst h; rfl
theorem wmf_0_38 {v : Int32} (h : μ1 = mset μ 0 38 v) : (wm g μ).set 0 (ad g 0, .inr (12, ([.int (μ 0 0), .int (μ 0 1), .int (μ 0 2), .int (μ 0 3), .int (μ 0 4), .int (μ 0 5), .ref (ad g 1), .ref (ad g 2), .ref (ad g 3), .ref (ad g 4), .ref (ad g 5), .ref (ad g 6), .ref (ad g 7), .ref (ad g 8), .ref (ad g 9), .ref (ad g 10), .ref (ad g 11), .ref (ad g 12), .ref (ad g 13), .ref (ad g 14), .ref (ad g 15), .ref (ad g 16), .ref (ad g 17), .ref (ad g 18), .ref (ad g 19), .ref (ad g 20), .ref (ad g 21), .ref (ad g 22), .ref (ad g 23), .ref (ad g 24), .ref (ad g 25), .ref (ad g 26), .ref (ad g 27), .ref (ad g 28), .ref (ad g 29), .int (μ 0 35), .int (μ 0 36), .ref (ad g 30), .int (μ 0 38), .int (μ 0 39), .int (μ 0 40), .int (μ 0 41), .int (μ 0 42), .int (μ 0 43), .int (μ 0 44), .int (μ 0 45), .int (μ 0 46), .ref (ad g 31), .ref (ad g 32), .ref (ad g 33), .ref (ad g 34), .ref (ad g 35), .ref (ad g 36), .ref (ad g 37), .ref (ad g 38), .ref (ad g 39), .ref (ad g 40), .ref (ad g 41), .int (μ 0 58), .ref (ad g 42), .ref (ad g 43), .int (μ 0 61), .ref (ad g 44), .ref (ad g 45), .ref (ad g 46), .ref (ad g 47), .ref (ad g 48), .ref (ad g 49), .int (μ 0 68), .ref (ad g 50), .ref (ad g 51), .ref (ad g 52), .ref (ad g 53), .ref (ad g 54), .ref (ad g 55), .ref (ad g 56), .ref (ad g 57), .int (μ 0 77)] : List Value).set 38 (.int v))) = wm g μ1 := by subst h; rfl
theorem wmf_0_39 {v : Int32} (h : μ1 = mset μ 0 39 v) : (wm g μ).set 0 (ad g 0, .inr (12, ([.int (μ 0 0), .int (μ 0 1), .int (μ 0 2), .int (μ 0 3), .int (μ 0 4), .int (μ 0 5), .ref (ad g 1), .ref (ad g 2), .ref (ad g 3), .ref (ad g 4), .ref (ad g 5), .ref (ad g 6), .ref (ad g 7), .ref (ad g 8), .ref (ad g 9), .ref (ad g 10), .ref (ad g 11), .ref (ad g 12), .ref (ad g 13), .ref (ad g 14), .ref (ad g 15), .ref (ad g 16), .ref (ad g 17), .ref (ad g 18), .ref (ad g 19), .ref (ad g 20), .ref (ad g 21), .ref (ad g 22), .ref (ad g 23), .ref (ad g 24), .ref (ad g 25), .ref (ad g 26), .ref (ad g 27), .ref (ad g 28), .ref (ad g 29), .int (μ 0 35), .int (μ 0 36), .ref (ad g 30), .int (μ 0 38), .int (μ 0 39), .int (μ 0 40), .int (μ 0 41), .int (μ 0 42), .int (μ 0 43), .int (μ 0 44), .int (μ 0 45), .int (μ 0 46), .ref (ad g 31), .ref (ad g 32), .ref (ad g 33), .ref (ad g 34), .ref (ad g 35), .ref (ad g 36), .ref (ad g 37), .ref (ad g 38), .ref (ad g 39), .ref (ad g 40), .ref (ad g 41), .int (μ 0 58), .ref (ad g 42), .ref (ad g 43), .int (μ 0 61), .ref (ad g 44), .ref (ad g 45), .ref (ad g 46), .ref (ad g 47), .ref (ad g 48), .ref (ad g 49), .int (μ 0 68), .ref (ad g 50), .ref (ad g 51), .ref (ad g 52), .ref (ad g 53), .ref (ad g 54), .ref (ad g 55), .ref (ad g 56), .ref (ad g 57), .int (μ 0 77)] : List Value).set 39 (.int v))) = wm g μ1 := by subst h; rfl
theorem wmf_0_40 {v : Int32} (h : μ1 = mset μ 0 40 v) : (wm g μ).set 0 (ad g 0, .inr (12, ([.int (μ 0 0), .int (μ 0 1), .int (μ 0 2), .int (μ 0 3), .int (μ 0 4), .int (μ 0 5), .ref (ad g 1), .ref (ad g 2), .ref (ad g 3), .ref (ad g 4), .ref (ad g 5), .ref (ad g 6), .ref (ad g 7), .ref (ad g 8), .ref (ad g 9), .ref (ad g 10), .ref (ad g 11), .ref (ad g 12), .ref (ad g 13), .ref (ad g 14), .ref (ad g 15), .ref (ad g 16), .ref (ad g 17), .ref (ad g 18), .ref (ad g 19), .ref (ad g 20), .ref (ad g 21), .ref (ad g 22), .ref (ad g 23), .ref (ad g 24), .ref (ad g 25), .ref (ad g 26), .ref (ad g 27), .ref (ad g 28), .ref (ad g 29), .int (μ 0 35), .int (μ 0 36), .ref (ad g 30), .int (μ 0 38), .int (μ 0 39), .int (μ 0 40), .int (μ 0 41), .int (μ 0 42), .int (μ 0 43), .int (μ 0 44), .int (μ 0 45), .int (μ 0 46), .ref (ad g 31), .ref (ad g 32), .ref (ad g 33), .ref (ad g 34), .ref (ad g 35), .ref (ad g 36), .ref (ad g 37), .ref (ad g 38), .ref (ad g 39), .ref (ad g 40), .ref (ad g 41), .int (μ 0 58), .ref (ad g 42), .ref (ad g 43), .int (μ 0 61), .ref (ad g 44), .ref (ad g 45), .ref (ad g 46), .ref (ad g 47), .ref (ad g 48), .ref (ad g 49), .int (μ 0 68), .ref (ad g 50), .ref (ad g 51), .ref (ad g 52), .ref (ad g 53), .ref (ad g 54), .ref (ad g 55), .ref (ad g 56), .ref (ad g 57), .int (μ 0 77)] : List Value).set 40 (.int v))) = wm g μ1 := by subst h; rfl
theorem wmf_0_41 {v : Int32} (h : μ1 = mset μ 0 41 v) : (wm g μ).set 0 (ad g 0, .inr (12, ([.int (μ 0 0), .int (μ 0 1), .int (μ 0 2), .int (μ 0 3), .int (μ 0 4), .int (μ 0 5), .ref (ad g 1), .ref (ad g 2), .ref (ad g 3), .ref (ad g 4), .ref (ad g 5), .ref (ad g 6), .ref (ad g 7), .ref (ad g 8), .ref (ad g 9), .ref (ad g 10), .ref (ad g 11), .ref (ad g 12), .ref (ad g 13), .ref (ad g 14), .ref (ad g 15), .ref (ad g 16), .ref (ad g 17), .ref (ad g 18), .ref (ad g 19), .ref (ad g 20), .ref (ad g 21), .ref (ad g 22), .ref (ad g 23), .ref (ad g 24), .ref (ad g 25), .ref (ad g 26), .ref (ad g 27), .ref (ad g 28), .ref (ad g 29), .int (μ 0 35), .int (μ 0 36), .ref (ad g 30), .int (μ 0 38), .int (μ 0 39), .int (μ 0 40), .int (μ 0 41), .int (μ 0 42), .int (μ 0 43), .int (μ 0 44), .int (μ 0 45), .int (μ 0 46), .ref (ad g 31), .ref (ad g 32), .ref (ad g 33), .ref (ad g 34), .ref (ad g 35), .ref (ad g 36), .ref (ad g 37), .ref (ad g 38), .ref (ad g 39), .ref (ad g 40), .ref (ad g 41), .int (μ 0 58), .ref (ad g 42), .ref (ad g 43), .int (μ 0 61), .ref (ad g 44), .ref (ad g 45), .ref (ad g 46), .ref (ad g 47), .ref (ad g 48), .ref (ad g 49), .int (μ 0 68), .ref (ad g 50), .ref (ad g 51), .ref (ad g 52), .ref (ad g 53), .ref (ad g 54), .ref (ad g 55), .ref (ad g 56), .ref (ad g 57), .int (μ 0 77)] : List Value).set 41 (.int v))) = wm g μ1 := by subst h; rfl
theorem wmf_0_42 {v : Int32} (h : μ1 = mset μ 0 42 v) : (wm g μ).set 0 (ad g 0, .inr (12, ([.int (μ 0 0), .int (μ 0 1), .int (μ 0 2), .int (μ 0 3), .int (μ 0 4), .int (μ 0 5), .ref (ad g 1), .ref (ad g 2), .ref (ad g 3), .ref (ad g 4), .ref (ad g 5), .ref (ad g 6), .ref (ad g 7), .ref (ad g 8), .ref (ad g 9), .ref (ad g 10), .ref (ad g 11), .ref (ad g 12), .ref (ad g 13), .ref (ad g 14), .ref (ad g 15), .ref (ad g 16), .ref (ad g 17), .ref (ad g 18), .ref (ad g 19), .ref (ad g 20), .ref (ad g 21), .ref (ad g 22), .ref (ad g 23), .ref (ad g 24), .ref (ad g 25), .ref (ad g 26), .ref (ad g 27), .ref (ad g 28), .ref (ad g 29), .int (μ 0 35), .int (μ 0 36), .ref (ad g 30), .int (μ 0 38), .int (μ 0 39), .int (μ 0 40), .int (μ 0 41), .int (μ 0 42), .int (μ 0 43), .int (μ 0 44), .int (μ 0 45), .int (μ 0 46), .ref (ad g 31), .ref (ad g 32), .ref (ad g 33), .ref (ad g 34), .ref (ad g 35), .ref (ad g 36), .ref (ad g 37), .ref (ad g 38), .ref (ad g 39), .ref (ad g 40), .ref (ad g 41), .int (μ 0 58), .ref (ad g 42), .ref (ad g 43), .int (μ 0 61), .ref (ad g 44), .ref (ad g 45), .ref (ad g 46), .ref (ad g 47), .ref (ad g 48), .ref (ad g 49), .int (μ 0 68), .ref (ad g 50), .ref (ad g 51), .ref (ad g 52), .ref (ad g 53), .ref (ad g 54), .ref (ad g 55), .ref (ad g 56), .ref (ad g 57), .int (μ 0 77)] : List Value).set 42 (.int v))) = wm g μ1 := by subst h; rfl
theorem wmf_0_43 {v : Int32} (h : μ1 = mset μ 0 43 v) : (wm g μ).set 0 (ad g 0, .inr (12, ([.int (μ 0 0), .int (μ 0 1), .int (μ 0 2), .int (μ 0 3), .int (μ 0 4), .int (μ 0 5), .ref (ad g 1), .ref (ad g 2), .ref (ad g 3), .ref (ad g 4), .ref (ad g 5), .ref (ad g 6), .ref (ad g 7), .ref (ad g 8), .ref (ad g 9), .ref (ad g 10), .ref (ad g 11), .ref (ad g 12), .ref (ad g 13), .ref (ad g 14), .ref (ad g 15), .ref (ad g 16), .ref (ad g 17), .ref (ad g 18), .ref (ad g 19), .ref (ad g 20), .ref (ad g 21), .ref (ad g 22), .ref (ad g 23), .ref (ad g 24), .ref (ad g 25), .ref (ad g 26), .ref (ad g 27), .ref (ad g 28), .ref (ad g 29), .int (μ 0 35), .int (μ 0 36), .ref (ad g 30), .int (μ 0 38), .int (μ 0 39), .int (μ 0 40), .int (μ 0 41), .int (μ 0 42), .int (μ 0 43), .int (μ 0 44), .int (μ 0 45), .int (μ 0 46), .ref (ad g 31), .ref (ad g 32), .ref (ad g 33), .ref (ad g 34), .ref (ad g 35), .ref (ad g 36), .ref (ad g 37), .ref (ad g 38), .ref (ad g 39), .ref (ad g 40), .ref (ad g 41), .int (μ 0 58), .ref (ad g 42), .ref (ad g 43), .int (μ 0 61), .ref (ad g 44), .ref (ad g 45), .ref (ad g 46), .ref (ad g 47), .ref (ad g 48), .ref (ad g 49), .int (μ 0 68), .ref (ad g 50), .ref (ad g 51), .ref (ad g 52), .ref (ad g 53), .ref (ad g 54), .ref (ad g 55), .ref (ad g 56), .ref (ad g 57), .int (μ 0 77)] : List Value).set 43 (.int v))) = wm g μ1 := by subst h; rfl
theorem wmf_0_44 {v : Int32} (h : μ1 = mset μ 0 44 v) : (wm g μ).set 0 (ad g 0, .inr (12, ([.int (μ 0 0), .int (μ 0 1), .int (μ 0 2), .int (μ 0 3), .int (μ 0 4), .int (μ 0 5), .ref (ad g 1), .ref (ad g 2), .ref (ad g 3), .ref (ad g 4), .ref (ad g 5), .ref (ad g 6), .ref (ad g 7), .ref (ad g 8), .ref (ad g 9), .ref (ad g 10), .ref (ad g 11), .ref (ad g 12), .ref (ad g 13), .ref (ad g 14), .ref (ad g 15), .ref (ad g 16), .ref (ad g 17), .ref (ad g 18), .ref (ad g 19), .ref (ad g 20), .ref (ad g 21), .ref (ad g 22), .ref (ad g 23), .ref (ad g 24), .ref (ad g 25), .ref (ad g 26), .ref (ad g 27), .ref (ad g 28), .ref (ad g 29), .int (μ 0 35), .int (μ 0 36), .ref (ad g 30), .int (μ 0 38), .int (μ 0 39), .int (μ 0 40), .int (μ 0 41), .int (μ 0 42), .int (μ 0 43), .int (μ 0 44), .int (μ 0 45), .int (μ 0 46), .ref (ad g 31), .ref (ad g 32), .ref (ad g 33), .ref (ad g 34), .ref (ad g 35), .ref (ad g 36), .ref (ad g 37), .ref (ad g 38), .ref (ad g 39), .ref (ad g 40), .ref (ad g 41), .int (μ 0 58), .ref (ad g 42), .ref (ad g 43), .int (μ 0 61), .ref (ad g 44), .ref (ad g 45), .ref (ad g 46), .ref (ad g 47), .ref (ad g 48), .ref (ad g 49), .int (μ 0 68), .ref (ad g 50), .ref (ad g 51), .ref (ad g 52), .ref (ad g 53), .ref (ad g 54), .ref (ad g 55), .ref (ad g 56), .ref (ad g 57), .int (μ 0 77)] : List Value).set 44 (.int v))) = wm g μ1 := by subst h; rfl
theorem wmf_0_45 {v : Int32} (h : μ1 = mset μ 0 45 v) : (wm g μ).set 0 (ad g 0, .inr (12, ([.int (μ 0 0), .int (μ 0 1), .int (μ 0 2), .int (μ 0 3), .int (μ 0 4), .int (μ 0 5), .ref (ad g 1), .ref (ad g 2), .ref (ad g 3), .ref (ad g 4), .ref (ad g 5), .ref (ad g 6), .ref (ad g 7), .ref (ad g 8), .ref (ad g 9), .ref (ad g 10), .ref (ad g 11), .ref (ad g 12), .ref (ad g 13), .ref (ad g 14), .ref (ad g 15), .ref (ad g 16), .ref (ad g 17), .ref (ad g 18), .ref (ad g 19), .ref (ad g 20), .ref (ad g 21), .ref (ad g 22), .ref (ad g 23), .ref (ad g 24), .ref (ad g 25), .ref (ad g 26), .ref (ad g 27), .ref (ad g 28), .ref (ad g 29), .int (μ 0 35), .int (μ 0 36), .ref (ad g 30), .int (μ 0 38), .int (μ 0 39), .int (μ 0 40), .int (μ 0 41), .int (μ 0 42), .int (μ 0 43), .int (μ 0 44), .int (μ 0 45), .int (μ 0 46), .ref (ad g 31), .ref (ad g 32), .ref (ad g 33), .ref (ad g 34), .ref (ad g 35), .ref (ad g 36), .ref (ad g 37), .ref (ad g 38), .ref (ad g 39), .ref (ad g 40), .ref (ad g 41), .int (μ 0 58), .ref (ad g 42), .ref (ad g 43), .int (μ 0 61), .ref (ad g 44), .ref (ad g 45), .ref (ad g 46), .ref (ad g 47), .ref (ad g 48), .ref (ad g 49), .int (μ 0 68), .ref (ad g 50), .ref (ad g 51), .ref (ad g 52), .ref (ad g 53), .ref (ad g 54), .ref (ad g 55), .ref (ad g 56), .ref (ad g 57), .int (μ 0 77)] : List Value).set 45 (.int v))) = wm g μ1 := by subst h; rfl
theorem wmf_0_46 {v : Int32} (h : μ1 = mset μ 0 46 v) : (wm g μ).set 0 (ad g 0, .inr (12, ([.int (μ 0 0), .int (μ 0 1), .int (μ 0 2), .int (μ 0 3), .int (μ 0 4), .int (μ 0 5), .ref (ad g 1), .ref (ad g 2), .ref (ad g 3), .ref (ad g 4), .ref (ad g 5), .ref (ad g 6), .ref (ad g 7), .ref (ad g 8), .ref (ad g 9), .ref (ad g 10), .ref (ad g 11), .ref (ad g 12), .ref (ad g 13), .ref (ad g 14), .ref (ad g 15), .ref (ad g 16), .ref (ad g 17), .ref (ad g 18), .ref (ad g 19), .ref (ad g 20), .ref (ad g 21), .ref (ad g 22), .ref (ad g 23), .ref (ad g 24), .ref (ad g 25), .ref (ad g 26), .ref (ad g 27), .ref (ad g 28), .ref (ad g 29), .int (μ 0 35), .int (μ 0 36), .ref (ad g 30), .int (μ 0 38), .int (μ 0 39), .int (μ 0 40), .int (μ 0 41), .int (μ 0 42), .int (μ 0 43), .int (μ 0 44), .int (μ 0 45), .int (μ 0 46), .ref (ad g 31), .ref (ad g 32), .ref (ad g 33), .ref (ad g 34), .ref (ad g 35), .ref (ad g 36), .ref (ad g 37), .ref (ad g 38), .ref (ad g 39), .ref (ad g 40), .ref (ad g 41), .int (μ 0 58), .ref (ad g 42), .ref (ad g 43), .int (μ 0 61), .ref (ad g 44), .ref (ad g 45), .ref (ad g 46), .ref (ad g 47), .ref (ad g 48), .ref (ad g 49), .int (μ 0 68), .ref (ad g 50), .ref (ad g 51), .ref (ad g 52), .ref (ad g 53), .ref (ad g 54), .ref (ad g 55), .ref (ad g 56), .ref (ad g 57), .int (μ 0 77)] : List Value).set 46 (.int v))) = wm g μ1 := by subst h; rfl
theorem wmf_0_58 {v : Int32} (h : μ1 = mset μ 0 58 v) : (wm g μ).set 0 (ad g 0, .inr (12, ([.int (μ 0 0), .int (μ 0 1), .int (μ 0 2), .int (μ 0 3), .int (μ 0 4), .int (μ 0 5), .ref (ad g 1), .ref (ad g 2), .ref (ad g 3), .ref (ad g 4), .ref (ad g 5), .ref (ad g 6), .ref (ad g 7), .ref (ad g 8), .ref (ad g 9), .ref (ad g 10), .ref (ad g 11), .ref (ad g 12), .ref (ad g 13), .ref (ad g 14), .ref (ad g 15), .ref (ad g 16), .ref (ad g 17), .ref (ad g 18), .ref (ad g 19), .ref (ad g 20), .ref (ad g 21), .ref (ad g 22), .ref (ad g 23), .ref (ad g 24), .ref (ad g 25), .ref (ad g 26), .ref (ad g 27), .ref (ad g 28), .ref (ad g 29), .int (μ 0 35), .int (μ 0 36), .ref (ad g 30), .int (μ 0 38), .int (μ 0 39), .int (μ 0 40), .int (μ 0 41), .int (μ 0 42), .int (μ 0 43), .int (μ 0 44), .int (μ 0 45), .int (μ 0 46), .ref (ad g 31), .ref (ad g 32), .ref (ad g 33), .ref (ad g 34), .ref (ad g 35), .ref (ad g 36), .ref (ad g 37), .ref (ad g 38), .ref (ad g 39), .ref (ad g 40), .ref (ad g 41), .int (μ 0 58), .ref (ad g 42), .ref (ad g 43), .int (μ 0 61), .ref (ad g 44), .ref (ad g 45), .ref (ad g 46), .ref (ad g 47), .ref (ad g 48), .ref (ad g 49), .int (μ 0 68), .ref (ad g 50), .ref (ad g 51), .ref (ad g 52), .ref (ad g 53), .ref (ad g 54), .ref (ad g 55), .ref (ad g 56), .ref (ad g 57), .int (μ 0 77)] : List Value).set 58 (.int v))) = wm g μ1 := by subst h; rfl
theorem wmf_0_61 {v : Int32} (h : μ1 = mset μ 0 61 v) : (wm g μ).set 0 (ad g 0, .inr (12, ([.int (μ 0 0), .int (μ 0 1), .int (μ 0 2), .int (μ 0 3), .int (μ 0 4), .int (μ 0 5), .ref (ad g 1), .ref (ad g 2), .ref (ad g 3), .ref (ad g 4), .ref (ad g 5), .ref (ad g 6), .ref (ad g 7), .ref (ad g 8), .ref (ad g 9), .ref (ad g 10), .ref (ad g 11), .ref (ad g 12), .ref (ad g 13), .ref (ad g 14), .ref (ad g 15), .ref (ad g 16), .ref (ad g 17), .ref (ad g 18), .ref (ad g 19), .ref (ad g 20), .ref (ad g 21), .ref (ad g 22), .ref (ad g 23), .ref (ad g 24), .ref (ad g 25), .ref (ad g 26), .ref (ad g 27), .ref (ad g 28), .ref (ad g 29), .int (μ 0 35), .int (μ 0 36), .ref (ad g 30), .int (μ 0 38), .int (μ 0 39), .int (μ 0 40), .int (μ 0 41), .int (μ 0 42), .int (μ 0 43), .int (μ 0 44), .int (μ 0 45), .int (μ 0 46), .ref (ad g 31), .ref (ad g 32), .ref (ad g 33), .ref (ad g 34), .ref (ad g 35), .ref (ad g 36), .ref (ad g 37), .ref (ad g 38), .ref (ad g 39), .ref (ad g 40), .ref (ad g 41), .int (μ 0 58), .ref (ad g 42), .ref (ad g 43), .int (μ 0 61), .ref (ad g 44), .ref (ad g 45), .ref (ad g 46), .ref (ad g 47), .ref (ad g 48), .ref (ad g 49), .int (μ 0 68), .ref (ad g 50), .ref (ad g 51), .ref (ad g 52), .ref (ad g 53), .ref (ad g 54), .ref (ad g 55), .ref (ad g 56), .ref (ad g 57), .int (μ 0 77)] : List Value).set 61 (.int v))) = wm g μ1 := by subst h; rfl
theorem wmf_0_68 {v : Int32} (h : μ1 = mset μ 0 68 v) : (wm g μ).set 0 (ad g 0, .inr (12, ([.int (μ 0 0), .int (μ 0 1), .int (μ 0 2), .int (μ 0 3), .int (μ 0 4), .int (μ 0 5), .ref (ad g 1), .ref (ad g 2), .ref (ad g 3), .ref (ad g 4), .ref (ad g 5), .ref (ad g 6), .ref (ad g 7), .ref (ad g 8), .ref (ad g 9), .ref (ad g 10), .ref (ad g 11), .ref (ad g 12), .ref (ad g 13), .ref (ad g 14), .ref (ad g 15), .ref (ad g 16), .ref (ad g 17), .ref (ad g 18), .ref (ad g 19), .ref (ad g 20), .ref (ad g 21), .ref (ad g 22), .ref (ad g 23), .ref (ad g 24), .ref (ad g 25), .ref (ad g 26), .ref (ad g 27), .ref (ad g 28), .ref (ad g 29), .int (μ 0 35), .int (μ 0 36), .ref (ad g 30), .int (μ 0 38), .int (μ 0 39), .int (μ 0 40), .int (μ 0 41), .int (μ 0 42), .int (μ 0 43), .int (μ 0 44), .int (μ 0 45), .int (μ 0 46), .ref (ad g 31), .ref (ad g 32), .ref (ad g 33), .ref (ad g 34), .ref (ad g 35), .ref (ad g 36), .ref (ad g 37), .ref (ad g 38), .ref (ad g 39), .ref (ad g 40), .ref (ad g 41), .int (μ 0 58), .ref (ad g 42), .ref (ad g 43), .int (μ 0 61), .ref (ad g 44), .ref (ad g 45), .ref (ad g 46), .ref (ad g 47), .ref (ad g 48), .ref (ad g 49), .int (μ 0 68), .ref (ad g 50), .ref (ad g 51), .ref (ad g 52), .ref (ad g 53), .ref (ad g 54), .ref (ad g 55), .ref (ad g 56), .ref (ad g 57), .int (μ 0 77)] : List Value).set 68 (.int v))) = wm g μ1 := by subst h; rfl
theorem wmf_0_77 {v : Int32} (h : μ1 = mset μ 0 77 v) : (wm g μ).set 0 (ad g 0, .inr (12, ([.int (μ 0 0), .int (μ 0 1), .int (μ 0 2), .int (μ 0 3), .int (μ 0 4), .int (μ 0 5), .ref (ad g 1), .ref (ad g 2), .ref (ad g 3), .ref (ad g 4), .ref (ad g 5), .ref (ad g 6), .ref (ad g 7), .ref (ad g 8), .ref (ad g 9), .ref (ad g 10), .ref (ad g 11), .ref (ad g 12), .ref (ad g 13), .ref (ad g 14), .ref (ad g 15), .ref (ad g 16), .ref (ad g 17), .ref (ad g 18), .ref (ad g 19), .ref (ad g 20), .ref (ad g 21), .ref (ad g 22), .ref (ad g 23), .ref (ad g 24), .ref (ad g 25), .ref (ad g 26), .ref (ad g 27), .ref (ad g 28), .ref (ad g 29), .int (μ 0 35), .int (μ 0 36), .ref (ad g 30), .int (μ 0 38), .int (μ 0 39), .int (μ 0 40), .int (μ 0 41), .int (μ 0 42), .int (μ 0 43), .int (μ 0 44), .int (μ 0 45), .int (μ 0 46), .ref (ad g 31), .ref (ad g 32), .ref (ad g 33), .ref (ad g 34), .ref (ad g 35), .ref (ad g 36), .ref (ad g 37), .ref (ad g 38), .ref (ad g 39), .ref (ad g 40), .ref (ad g 41), .int (μ 0 58), .ref (ad g 42), .ref (ad g 43), .int (μ 0 61), .ref (ad g 44), .ref (ad g 45), .ref (ad g 46), .ref (ad g 47), .ref (ad g 48), .ref (ad g 49), .int (μ 0 68), .ref (ad g 50), .ref (ad g 51), .ref (ad g 52), .ref (ad g 53), .ref (ad g 54), .ref (ad g 55), .ref (ad g 56), .ref (ad g 57), .int (μ 0 77)] : List Value).set 77 (.int v))) = wm g μ1 := by subst h; rfl
theorem wms_1 {i : Nat} {v : Int32} (h : μ1 = mset μ 1 i v) : (wm g μ).set 1 (ad g 1, .inl (cI g, 32, .inl (upd (μ 1) i v))) = wm g μ1 := by subst h; rfl
theorem wms_2 {i : Nat} {v : Int32} (h : μ1 = mset μ 2 i v) : (wm g μ).set 2 (ad g 2, .inl (cI g, 32, .inl (upd (μ 2) i v))) = wm g μ1 := by subst h; rfl
theorem wms_3 {i : Nat} {v : Int32} (h : μ1 = mset μ 3 i v) : (wm g μ).set 3 (ad g 3, .inl (cI g, 32, .inl (upd (μ 3) i v))) = wm g μ1 := by subst h; rfl
theorem wms_4 {i : Nat} {v : Int32} (h : μ1 = mset μ 4 i v) : (wm g μ).set 4 (ad g 4, .inl (cI g, 32, .inl (upd (μ 4) i v))) = wm g μ1 := by subst h; rfl
theorem wms_5 {i : Nat} {v : Int32} (h : μ1 = mset μ 5 i v) : (wm g μ).set 5 (ad g 5, .inl (cI g, 32, .inl (upd (μ 5) i v))) = wm g μ1 := by subst h; rfl
theorem wms_6 {i : Nat} {v : Int32} (h : μ1 = mset μ 6 i v) : (wm g μ).set 6 (ad g 6, .inl (cI g, 32, .inl (upd (μ 6) i v))) = wm g μ1 := by subst h; rfl
theorem wms_7 {i : Nat} {v : Int32} (h : μ1 = mset μ 7 i v) : (wm g μ).set 7 (ad g 7, .inl (cI g, 32, .inl (upd (μ 7) i v))) = wm g μ1 := by subst h; rfl
theorem wms_8 {i : Nat} {v : Int32} (h : μ1 = mset μ 8 i v) : (wm g μ).set 8 (ad g 8, .inl (cI g, 32, .inl (upd (μ 8) i v))) = wm g μ1 := by subst h; rfl
theorem wms_9 {i : Nat} {v : Int32} (h : μ1 = mset μ 9 i v) : (wm g μ).set 9 (ad g 9, .inl (cI g, 3, .inl (upd (μ 9) i v))) = wm g μ1 := by subst h; rfl
theorem wms_10 {i : Nat} {v : Int32} (h : μ1 = mset μ 10 i v) : (wm g μ).set 10 (ad g 10, .inl (cI g, 10, .inl (upd (μ 10) i v))) = wm g μ1 := by subst h; rfl
theorem wms_11 {i : Nat} {v : Int32} (h : μ1 = mset μ 11 i v) : (wm g μ).set 11 (ad g 11, .inl (cI g, 10, .inl (upd (μ 11) i v))) = wm g μ1 := by subst h; rfl
theorem wms_12 {i : Nat} {v : Int32} (h : μ1 = mset μ 12 i v) : (wm g μ).set 12 (ad g 12, .inl (cI g, 10, .inl (upd (μ 12) i v))) = wm g μ1 := by subst h; rfl
theorem wms_13 {i : Nat} {v : Int32} (h : μ1 = mset μ 13 i v) : (wm g μ).set 13 (ad g 13, .inl (cI g, 10, .inl (upd (μ 13) i v))) = wm g μ1 := by subst h; rfl
theorem wms_14 {i : Nat} {v : Int32} (h : μ1 = mset μ 14 i v) : (wm g μ).set 14 (ad g 14, .inl (cI g, 10, .inl (upd (μ 14) i v))) = wm g μ1 := by subst h; rfl
theorem wms_15 {i : Nat} {v : Int32} (h : μ1 = mset μ 15 i v) : (wm g μ).set 15 (ad g 15, .inl (cI g, 16, .inl (upd (μ 15) i v))) = wm g μ1 := by subst h; rfl
theorem wms_16 {i : Nat} {v : Int32} (h : μ1 = mset μ 16 i v) : (wm g μ).set 16 (ad g 16, .inl (cI g, 16, .inl (upd (μ 16) i v))) = wm g μ1 := by subst h; rfl
theorem wms_17 {i : Nat} {v : Int32} (h : μ1 = mset μ 17 i v) : (wm g μ).set 17 (ad g 17, .inl (cI g, 128, .inl (upd (μ 17) i v))) = wm g μ1 := by subst h; rfl
theorem wms_18 {i : Nat} {v : Int32} (h : μ1 = mset μ 18 i v) : (wm g μ).set 18 (ad g 18, .inl (cI g, 16, .inl (upd (μ 18) i v))) = wm g μ1 := by subst h; rfl
theorem wms_19 {i : Nat} {v : Int32} (h : μ1 = mset μ 19 i v) : (wm g μ).set 19 (ad g 19, .inl (cI g, 16, .inl (upd (μ 19) i v))) = wm g μ1 := by subst h; rfl
theorem wms_20 {i : Nat} {v : Int32} (h : μ1 = mset μ 20 i v) : (wm g μ).set 20 (ad g 20, .inl (cI g, 512, .inl (upd (μ 20) i v))) = wm g μ1 := by subst h; rfl
theorem wms_21 {i : Nat} {v : Int32} (h : μ1 = mset μ 21 i v) : (wm g μ).set 21 (ad g 21, .inl (cZ g, 512, .inl (upd (μ 21) i v))) = wm g μ1 := by subst h; rfl
theorem wms_22 {i : Nat} {v : Int32} (h : μ1 = mset μ 22 i v) : (wm g μ).set 22 (ad g 22, .inl (cZ g, 600, .inl (upd (μ 22) i v))) = wm g μ1 := by subst h; rfl
theorem wms_23 {i : Nat} {v : Int32} (h : μ1 = mset μ 23 i v) : (wm g μ).set 23 (ad g 23, .inl (cZ g, 6000, .inl (upd (μ 23) i v))) = wm g μ1 := by subst h; rfl
theorem wms_24 {i : Nat} {v : Int32} (h : μ1 = mset μ 24 i v) : (wm g μ).set 24 (ad g 24, .inl (cI g, 10, .inl (upd (μ 24) i v))) = wm g μ1 := by subst h; rfl
theorem wms_25 {i : Nat} {v : Int32} (h : μ1 = mset μ 25 i v) : (wm g μ).set 25 (ad g 25, .inl (cI g, 10, .inl (upd (μ 25) i v))) = wm g μ1 := by subst h; rfl
theorem wms_26 {i : Nat} {v : Int32} (h : μ1 = mset μ 26 i v) : (wm g μ).set 26 (ad g 26, .inl (cI g, 10, .inl (upd (μ 26) i v))) = wm g μ1 := by subst h; rfl
theorem wms_27 {i : Nat} {v : Int32} (h : μ1 = mset μ 27 i v) : (wm g μ).set 27 (ad g 27, .inl (cI g, 8, .inl (upd (μ 27) i v))) = wm g μ1 := by subst h; rfl
theorem wms_28 {i : Nat} {v : Int32} (h : μ1 = mset μ 28 i v) : (wm g μ).set 28 (ad g 28, .inl (cI g, 3, .inl (upd (μ 28) i v))) = wm g μ1 := by subst h; rfl
theorem wms_29 {i : Nat} {v : Int32} (h : μ1 = mset μ 29 i v) : (wm g μ).set 29 (ad g 29, .inl (cI g, 10, .inl (upd (μ 29) i v))) = wm g μ1 := by subst h; rfl
theorem wms_30 {i : Nat} {v : Int32} (h : μ1 = mset μ 30 i v) : (wm g μ).set 30 (ad g 30, .inl (cB g, 400, .inl (upd (μ 30) i v))) = wm g μ1 := by subst h; rfl
theorem wms_31 {i : Nat} {v : Int32} (h : μ1 = mset μ 31 i v) : (wm g μ).set 31 (ad g 31, .inl (cI g, 220, .inl (upd (μ 31) i v))) = wm g μ1 := by subst h; rfl
theorem wms_32 {i : Nat} {v : Int32} (h : μ1 = mset μ 32 i v) : (wm g μ).set 32 (ad g 32, .inl (cI g, 220, .inl (upd (μ 32) i v))) = wm g μ1 := by subst h; rfl
theorem wms_33 {i : Nat} {v : Int32} (h : μ1 = mset μ 33 i v) : (wm g μ).set 33 (ad g 33, .inl (cI g, 14, .inl (upd (μ 33) i v))) = wm g μ1 := by subst h; rfl
theorem wms_34 {i : Nat} {v : Int32} (h : μ1 = mset μ 34 i v) : (wm g μ).set 34 (ad g 34, .inl (cI g, 14, .inl (upd (μ 34) i v))) = wm g μ1 := by subst h; rfl
theorem wms_35 {i : Nat} {v : Int32} (h : μ1 = mset μ 35 i v) : (wm g μ).set 35 (ad g 35, .inl (cI g, 14, .inl (upd (μ 35) i v))) = wm g μ1 := by subst h; rfl
theorem wms_36 {i : Nat} {v : Int32} (h : μ1 = mset μ 36 i v) : (wm g μ).set 36 (ad g 36, .inl (cI g, 14, .inl (upd (μ 36) i v))) = wm g μ1 := by subst h; rfl
theorem wms_37 {i : Nat} {v : Int32} (h : μ1 = mset μ 37 i v) : (wm g μ).set 37 (ad g 37, .inl (cI g, 220, .inl (upd (μ 37) i v))) = wm g μ1 := by subst h; rfl
theorem wms_38 {i : Nat} {v : Int32} (h : μ1 = mset μ 38 i v) : (wm g μ).set 38 (ad g 38, .inl (cI g, 14, .inl (upd (μ 38) i v))) = wm g μ1 := by subst h; rfl
theorem wms_39 {i : Nat} {v : Int32} (h : μ1 = mset μ 39 i v) : (wm g μ).set 39 (ad g 39, .inl (cI g, 14, .inl (upd (μ 39) i v))) = wm g μ1 := by subst h; rfl
theorem wms_40 {i : Nat} {v : Int32} (h : μ1 = mset μ 40 i v) : (wm g μ).set 40 (ad g 40, .inl (cI g, 14, .inl (upd (μ 40) i v))) = wm g μ1 := by subst h; rfl
theorem wms_41 {i : Nat} {v : Int32} (h : μ1 = mset μ 41 i v) : (wm g μ).set 41 (ad g 41, .inl (cI g, 14, .inl (upd (μ 41) i v))) = wm g μ1 := by subst h; rfl
theorem wms_42 {i : Nat} {v : Int32} (h : μ1 = mset μ 42 i v) : (wm g μ).set 42 (ad g 42, .inl (cI g, 220, .inl (upd (μ 42) i v))) = wm g μ1 := by subst h; rfl
theorem wms_43 {i : Nat} {v : Int32} (h : μ1 = mset μ 43 i v) : (wm g μ).set 43 (ad g 43, .inl (cI g, 12, .inl (upd (μ 43) i v))) = wm g μ1 := by subst h; rfl
theorem wms_44 {i : Nat} {v : Int32} (h : μ1 = mset μ 44 i v) : (wm g μ).set 44 (ad g 44, .inl (cI g, 200, .inl (upd (μ 44) i v))) = wm g μ1 := by subst h; rfl
theorem wms_45 {i : Nat} {v : Int32} (h : μ1 = mset μ 45 i v) : (wm g μ).set 45 (ad g 45, .inl (cI g, 200, .inl (upd (μ 45) i v))) = wm g μ1 := by subst h; rfl
theorem wms_46 {i : Nat} {v : Int32} (h : μ1 = mset μ 46 i v) : (wm g μ).set 46 (ad g 46, .inl (cI g, 200, .inl (upd (μ 46) i v))) = wm g μ1 := by subst h; rfl
theorem wms_47 {i : Nat} {v : Int32} (h : μ1 = mset μ 47 i v) : (wm g μ).set 47 (ad g 47, .inl (cI g, 200, .inl (upd (μ 47) i v))) = wm g μ1 := by subst h; rfl
theorem wms_48 {i : Nat} {v : Int32} (h : μ1 = mset μ 48 i v) : (wm g μ).set 48 (ad g 48, .inl (cI g, 16, .inl (upd (μ 48) i v))) = wm g μ1 := by subst h; rfl
theorem wms_49 {i : Nat} {v : Int32} (h : μ1 = mset μ 49 i v) : (wm g μ).set 49 (ad g 49, .inl (cI g, 16, .inl (upd (μ 49) i v))) = wm g μ1 := by subst h; rfl
theorem wms_50 {i : Nat} {v : Int32} (h : μ1 = mset μ 50 i v) : (wm g μ).set 50 (ad g 50, .inl (cZ g, 512, .inl (upd (μ 50) i v))) = wm g μ1 := by subst h; rfl
theorem wms_51 {i : Nat} {v : Int32} (h : μ1 = mset μ 51 i v) : (wm g μ).set 51 (ad g 51, .inl (cI g, 16, .inl (upd (μ 51) i v))) = wm g μ1 := by subst h; rfl
theorem wms_52 {i : Nat} {v : Int32} (h : μ1 = mset μ 52 i v) : (wm g μ).set 52 (ad g 52, .inl (cI g, 32, .inl (upd (μ 52) i v))) = wm g μ1 := by subst h; rfl
theorem wms_53 {i : Nat} {v : Int32} (h : μ1 = mset μ 53 i v) : (wm g μ).set 53 (ad g 53, .inl (cI g, 16, .inl (upd (μ 53) i v))) = wm g μ1 := by subst h; rfl
theorem wms_54 {i : Nat} {v : Int32} (h : μ1 = mset μ 54 i v) : (wm g μ).set 54 (ad g 54, .inl (cI g, 32, .inl (upd (μ 54) i v))) = wm g μ1 := by subst h; rfl
theorem wms_55 {i : Nat} {v : Int32} (h : μ1 = mset μ 55 i v) : (wm g μ).set 55 (ad g 55, .inl (cI g, 12, .inl (upd (μ 55) i v))) = wm g μ1 := by subst h; rfl
theorem wms_56 {i : Nat} {v : Int32} (h : μ1 = mset μ 56 i v) : (wm g μ).set 56 (ad g 56, .inl (cI g, 10, .inl (upd (μ 56) i v))) = wm g μ1 := by subst h; rfl
theorem wms_57 {i : Nat} {v : Int32} (h : μ1 = mset μ 57 i v) : (wm g μ).set 57 (ad g 57, .inl (cI g, 2048, .inl (upd (μ 57) i v))) = wm g μ1 := by subst h; rfl
theorem wfs_0 {i : Nat} {v : Int32} (h : μ1 = mset μ 0 i v) : (wf g μ).set 0 (ad g 0, .inl (cI g, 512, .inl (upd (μ 0) i v))) = wf g μ1 := by subst h; rfl
theorem whs_0 {i : Nat} {v : Int32} (h : μ1 = mset μ 0 i v) : (wh g μ).set 0 (ad g 0, .inl (cI g, 3, .inl (upd (μ 0) i v))) = wh g μ1 := by subst h; rfl
end
