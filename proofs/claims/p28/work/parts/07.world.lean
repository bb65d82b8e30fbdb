/-! the two worlds, with the ranges that hold at all times -/
abbrev SW : Type := (Nat → Int32) × (Nat → Int64) × (Nat → Nat → Int32) × (Nat → Nat → Int64)
def wX (cA : Nat → ClassId) (ad : Nat → Nat) (F : Nat → Int32) (L : Nat → Int64) (A : Nat → Nat → Int32) (B : Nat → Nat → Int64) : va_W := [(ad 0, .inr (11, [.ref (ad 1), .ref (ad 2), .ref (ad 18), .ref (ad 20), .ref (ad 24), .ref (ad 27), .ref (ad 46), .ref (ad 56), .ref (ad 61), .ref (ad 70), .ref (ad 11), .int (F 0), .int (F 1)])),
  (ad 1, .inl (cA 1, 1700, .inl (A 1))),
  (ad 2, .inr (6, [.ref (ad 3), .ref (ad 4), .int (F 2), .int (F 3)])),
  (ad 3, .inr (5, [.long (L 0), .long (L 1), .long (L 2), .long (L 3), .long (L 4), .long (L 5), .long (L 6), .ref (ad 71), .int (F 4), .int (F 5), .int (F 6), .int (F 7), .long (L 7), .int (F 8)])),
  (ad 4, .inr (10, [.ref (ad 5), .ref (ad 6), .ref (ad 7), .ref (ad 8), .ref (ad 9), .ref (ad 10), .int (F 9), .int (F 10), .int (F 11), .int (F 12), .int (F 13), .int (F 14)])),
  (ad 5, .inl (cA 5, 8, .inr (.inl (B 5)))),
  (ad 6, .inl (cA 6, 10, .inr (.inl (B 6)))),
  (ad 7, .inl (cA 7, 8, .inl (A 7))),
  (ad 8, .inl (cA 8, 8, .inl (A 8))),
  (ad 9, .inl (cA 9, 8, .inl (A 9))),
  (ad 10, .inl (cA 10, 80, .inl (A 10))),
  (ad 11, .inr (10, [.ref (ad 12), .ref (ad 13), .ref (ad 14), .ref (ad 15), .ref (ad 16), .ref (ad 17), .int (F 15), .int (F 16), .int (F 17), .int (F 18), .int (F 19), .int (F 20)])),
  (ad 12, .inl (cA 12, 8, .inr (.inl (B 12)))),
  (ad 13, .inl (cA 13, 10, .inr (.inl (B 13)))),
  (ad 14, .inl (cA 14, 8, .inl (A 14))),
  (ad 15, .inl (cA 15, 8, .inl (A 15))),
  (ad 16, .inl (cA 16, 8, .inl (A 16))),
  (ad 17, .inl (cA 17, 80, .inl (A 17))),
  (ad 18, .inr (3, [.ref (ad 19), .int (F 21), .int (F 22), .int (F 23)])),
  (ad 19, .inl (cA 19, 80, .inl (A 19))),
  (ad 20, .inr (0, [.ref (ad 21), .int (F 24), .int (F 25), .int (F 26)])),
  (ad 21, .inr (7, [.int (F 27), .ref (ad 22), .ref (ad 23)])),
  (ad 22, .inl (cA 22, 3280, .inl (A 22))),
  (ad 23, .inl (cA 23, 41, .inl (A 23))),
  (ad 24, .inr (7, [.int (F 28), .ref (ad 25), .ref (ad 26)])),
  (ad 25, .inl (cA 25, 240, .inl (A 25))),
  (ad 26, .inl (cA 26, 3, .inl (A 26))),
  (ad 27, .inr (2, [.ref (ad 28), .ref (ad 29), .int (F 29), .int (F 30), .ref (ad 30), .ref (ad 31), .int (F 31), .int (F 32), .ref (ad 32), .ref (ad 33), .ref (ad 34), .ref (ad 40), .int (F 33), .int (F 34), .int (F 35)])),
  (ad 28, .inl (cA 28, 80, .inl (A 28))),
  (ad 29, .inl (cA 29, 8, .inl (A 29))),
  (ad 30, .inl (cA 30, 100, .inl (A 30))),
  (ad 31, .inl (cA 31, 800, .inl (A 31))),
  (ad 32, .inl (cA 32, 8, .inl (A 32))),
  (ad 33, .inl (cA 33, 10, .inl (A 33))),
  (ad 34, .inr (1, [.ref (ad 35), .ref (ad 36), .ref (ad 37), .ref (ad 38), .ref (ad 39)])),
  (ad 35, .inl (cA 35, 10, .inl (A 35))),
  (ad 36, .inl (cA 36, 10, .inl (A 36))),
  (ad 37, .inl (cA 37, 10, .inl (A 37))),
  (ad 38, .inl (cA 38, 10, .inl (A 38))),
  (ad 39, .inl (cA 39, 11, .inl (A 39))),
  (ad 40, .inr (1, [.ref (ad 41), .ref (ad 42), .ref (ad 43), .ref (ad 44), .ref (ad 45)])),
  (ad 41, .inl (cA 41, 10, .inl (A 41))),
  (ad 42, .inl (cA 42, 10, .inl (A 42))),
  (ad 43, .inl (cA 43, 10, .inl (A 43))),
  (ad 44, .inl (cA 44, 10, .inl (A 44))),
  (ad 45, .inl (cA 45, 11, .inl (A 45))),
  (ad 46, .inr (4, [.ref (ad 47), .int (F 36), .ref (ad 48), .ref (ad 49), .ref (ad 50), .ref (ad 51), .ref (ad 52), .ref (ad 53), .ref (ad 54), .ref (ad 55), .int (F 37), .int (F 38)])),
  (ad 47, .inl (cA 47, 720, .inl (A 47))),
  (ad 48, .inl (cA 48, 80, .inl (A 48))),
  (ad 49, .inl (cA 49, 8, .inl (A 49))),
  (ad 50, .inl (cA 50, 8, .inl (A 50))),
  (ad 51, .inl (cA 51, 20, .inl (A 51))),
  (ad 52, .inl (cA 52, 20, .inl (A 52))),
  (ad 53, .inl (cA 53, 20, .inl (A 53))),
  (ad 54, .inl (cA 54, 20, .inl (A 54))),
  (ad 55, .inl (cA 55, 20, .inl (A 55))),
  (ad 56, .inr (9, [.ref (ad 57), .ref (ad 58), .ref (ad 59), .ref (ad 60), .int (F 39), .int (F 40), .int (F 41), .int (F 42)])),
  (ad 57, .inl (cA 57, 12, .inl (A 57))),
  (ad 58, .inl (cA 58, 12, .inl (A 58))),
  (ad 59, .inl (cA 59, 120, .inl (A 59))),
  (ad 60, .inl (cA 60, 80, .inl (A 60))),
  (ad 61, .inr (8, [.ref (ad 62), .ref (ad 63), .ref (ad 64), .ref (ad 65), .ref (ad 66), .ref (ad 67), .ref (ad 68), .ref (ad 69), .int (F 43)])),
  (ad 62, .inl (cA 62, 20, .inl (A 62))),
  (ad 63, .inl (cA 63, 20, .inl (A 63))),
  (ad 64, .inl (cA 64, 20, .inl (A 64))),
  (ad 65, .inl (cA 65, 20, .inl (A 65))),
  (ad 66, .inl (cA 66, 20, .inl (A 66))),
  (ad 67, .inl (cA 67, 80, .inl (A 67))),
  (ad 68, .inl (cA 68, 80, .inl (A 68))),
  (ad 69, .inl (cA 69, 80, .inr (.inl (B 69)))),
  (ad 70, .inl (cA 70, 8, .inl (A 70)))]
def tysX (cA : Nat → ClassId) : List (ClassId × FieldType) := [(cA 1, .byte), (cA 5, .long), (cA 6, .long), (cA 7, .int), (cA 8, .int), (cA 9, .int), (cA 10, .int), (cA 12, .long), (cA 13, .long), (cA 14, .int), (cA 15, .int), (cA 16, .int), (cA 17, .int), (cA 19, .int), (cA 22, .int), (cA 23, .int), (cA 25, .int), (cA 26, .int), (cA 28, .int), (cA 29, .int), (cA 30, .int), (cA 31, .int), (cA 32, .int), (cA 33, .int), (cA 35, .int), (cA 36, .int), (cA 37, .int), (cA 38, .int), (cA 39, .int), (cA 41, .int), (cA 42, .int), (cA 43, .int), (cA 44, .int), (cA 45, .int), (cA 47, .int), (cA 48, .int), (cA 49, .int), (cA 50, .int), (cA 51, .int), (cA 52, .int), (cA 53, .int), (cA 54, .int), (cA 55, .int), (cA 57, .int), (cA 58, .int), (cA 59, .int), (cA 60, .int), (cA 62, .int), (cA 63, .int), (cA 64, .int), (cA 65, .int), (cA 66, .int), (cA 67, .int), (cA 68, .int), (cA 69, .long), (cA 70, .int)]
theorem atX_0 {cA : Nat → ClassId} {ad : Nat → Nat} {F : Nat → Int32} {L : Nat → Int64} {A : Nat → Nat → Int32} {B : Nat → Nat → Int64} : (wX cA ad F L A B)[0]? = some (ad 0, .inr (11, [.ref (ad 1), .ref (ad 2), .ref (ad 18), .ref (ad 20), .ref (ad 24), .ref (ad 27), .ref (ad 46), .ref (ad 56), .ref (ad 61), .ref (ad 70), .ref (ad 11), .int (F 0), .int (F 1)])) := rfl
theorem atX_1 {cA : Nat → ClassId} {ad : Nat → Nat} {F : Nat → Int32} {L : Nat → Int64} {A : Nat → Nat → Int32} {B : Nat → Nat → Int64} : (wX cA ad F L A B)[1]? = some (ad 1, .inl (cA 1, 1700, .inl (A 1))) := rfl
theorem atX_2 {cA : Nat → ClassId} {ad : Nat → Nat} {F : Nat → Int32} {L : Nat → Int64} {A : Nat → Nat → Int32} {B : Nat → Nat → Int64} : (wX cA ad F L A B)[2]? = some (ad 2, .inr (6, [.ref (ad 3), .ref (ad 4), .int (F 2), .int (F 3)])) := rfl
theorem atX_3 {cA : Nat → ClassId} {ad : Nat → Nat} {F : Nat → Int32} {L : Nat → Int64} {A : Nat → Nat → Int32} {B : Nat → Nat → Int64} : (wX cA ad F L A B)[3]? = some (ad 3, .inr (5, [.long (L 0), .long (L 1), .long (L 2), .long (L 3), .long (L 4), .long (L 5), .long (L 6), .ref (ad 71), .int (F 4), .int (F 5), .int (F 6), .int (F 7), .long (L 7), .int (F 8)])) := rfl
theorem atX_4 {cA : Nat → ClassId} {ad : Nat → Nat} {F : Nat → Int32} {L : Nat → Int64} {A : Nat → Nat → Int32} {B : Nat → Nat → Int64} : (wX cA ad F L A B)[4]? = some (ad 4, .inr (10, [.ref (ad 5), .ref (ad 6), .ref (ad 7), .ref (ad 8), .ref (ad 9), .ref (ad 10), .int (F 9), .int (F 10), .int (F 11), .int (F 12), .int (F 13), .int (F 14)])) := rfl
theorem atX_5 {cA : Nat → ClassId} {ad : Nat → Nat} {F : Nat → Int32} {L : Nat → Int64} {A : Nat → Nat → Int32} {B : Nat → Nat → Int64} : (wX cA ad F L A B)[5]? = some (ad 5, .inl (cA 5, 8, .inr (.inl (B 5)))) := rfl
theorem atX_6 {cA : Nat → ClassId} {ad : Nat → Nat} {F : Nat → Int32} {L : Nat → Int64} {A : Nat → Nat → Int32} {B : Nat → Nat → Int64} : (wX cA ad F L A B)[6]? = some (ad 6, .inl (cA 6, 10, .inr (.inl (B 6)))) := rfl
theorem atX_7 {cA : Nat → ClassId} {ad : Nat → Nat} {F : Nat → Int32} {L : Nat → Int64} {A : Nat → Nat → Int32} {B : Nat → Nat → Int64} : (wX cA ad F L A B)[7]? = some (ad 7, .inl (cA 7, 8, .inl (A 7))) := rfl
theorem atX_8 {cA : Nat → ClassId} {ad : Nat → Nat} {F : Nat → Int32} {L : Nat → Int64} {A : Nat → Nat → Int32} {B : Nat → Nat → Int64} : (wX cA ad F L A B)[8]? = some (ad 8, .inl (cA 8, 8, .inl (A 8))) := rfl
theorem atX_9 {cA : Nat → ClassId} {ad : Nat → Nat} {F : Nat → Int32} {L : Nat → Int64} {A : Nat → Nat → Int32} {B : Nat → Nat → Int64} : (wX cA ad F L A B)[9]? = some (ad 9, .inl (cA 9, 8, .inl (A 9))) := rfl
theorem atX_10 {cA : Nat → ClassId} {ad : Nat → Nat} {F : Nat → Int32} {L : Nat → Int64} {A : Nat → Nat → Int32} {B : Nat → Nat → Int64} : (wX cA ad F L A B)[10]? = some (ad 10, .inl (cA 10, 80, .inl (A 10))) := rfl
theorem atX_11 {cA : Nat → ClassId} {ad : Nat → Nat} {F : Nat → Int32} {L : Nat → Int64} {A : Nat → Nat → Int32} {B : Nat → Nat → Int64} : (wX cA ad F L A B)[11]? = some (ad 11, .inr (10, [.ref (ad 12), .ref (ad 13), .ref (ad 14), .ref (ad 15), .ref (ad 16), .ref (ad 17), .int (F 15), .int (F 16), .int (F 17), .int (F 18), .int (F 19), .int (F 20)])) := rfl
theorem atX_12 {cA : Nat → ClassId} {ad : Nat → Nat} {F : Nat → Int32} {L : Nat → Int64} {A : Nat → Nat → Int32} {B : Nat → Nat → Int64} : (wX cA ad F L A B)[12]? = some (ad 12, .inl (cA 12, 8, .inr (.inl (B 12)))) := rfl
theorem atX_13 {cA : Nat → ClassId} {ad : Nat → Nat} {F : Nat → Int32} {L : Nat → Int64} {A : Nat → Nat → Int32} {B : Nat → Nat → Int64} : (wX cA ad F L A B)[13]? = some (ad 13, .inl (cA 13, 10, .inr (.inl (B 13)))) := rfl
theorem atX_14 {cA : Nat → ClassId} {ad : Nat → Nat} {F : Nat → Int32} {L : Nat → Int64} {A : Nat → Nat → Int32} {B : Nat → Nat → Int64} : (wX cA ad F L A B)[14]? = some (ad 14, .inl (cA 14, 8, .inl (A 14))) := rfl
theorem atX_15 {cA : Nat → ClassId} {ad : Nat → Nat} {F : Nat → Int32} {L : Nat → Int64} {A : Nat → Nat → Int32} {B : Nat → Nat → Int64} : (wX cA ad F L A B)[15]? = some (ad 15, .inl (cA 15, 8, .inl (A 15))) := rfl
theorem atX_16 {cA : Nat → ClassId} {ad : Nat → Nat} {F : Nat → Int32} {L : Nat → Int64} {A : Nat → Nat → Int32} {B : Nat → Nat → Int64} : (wX cA ad F L A B)[16]? = some (ad 16, .inl (cA 16, 8, .inl (A 16))) := rfl
theorem atX_17 {cA : Nat → ClassId} {ad : Nat → Nat} {F : Nat → Int32} {L : Nat → Int64} {A : Nat → Nat → Int32} {B : Nat → Nat → Int64} : (wX cA ad F L A B)[17]? = some (ad 17, .inl (cA 17, 80, .inl (A 17))) := rfl
theorem atX_18 {cA : Nat → ClassId} {ad : Nat → Nat} {F : Nat → Int32} {L : Nat → Int64} {A : Nat → Nat → Int32} {B : Nat → Nat → Int64} : (wX cA ad F L A B)[18]? = some (ad 18, .inr (3, [.ref (ad 19), .int (F 21), .int (F 22), .int (F 23)])) := rfl
theorem atX_19 {cA : Nat → ClassId} {ad : Nat → Nat} {F : Nat → Int32} {L : Nat → Int64} {A : Nat → Nat → Int32} {B : Nat → Nat → Int64} : (wX cA ad F L A B)[19]? = some (ad 19, .inl (cA 19, 80, .inl (A 19))) := rfl
theorem atX_20 {cA : Nat → ClassId} {ad : Nat → Nat} {F : Nat → Int32} {L : Nat → Int64} {A : Nat → Nat → Int32} {B : Nat → Nat → Int64} : (wX cA ad F L A B)[20]? = some (ad 20, .inr (0, [.ref (ad 21), .int (F 24), .int (F 25), .int (F 26)])) := rfl
theorem atX_21 {cA : Nat → ClassId} {ad : Nat → Nat} {F : Nat → Int32} {L : Nat → Int64} {A : Nat → Nat → Int32} {B : Nat → Nat → Int64} : (wX cA ad F L A B)[21]? = some (ad 21, .inr (7, [.int (F 27), .ref (ad 22), .ref (ad 23)])) := rfl
theorem atX_22 {cA : Nat → ClassId} {ad : Nat → Nat} {F : Nat → Int32} {L : Nat → Int64} {A : Nat → Nat → Int32} {B : Nat → Nat → Int64} : (wX cA ad F L A B)[22]? = some (ad 22, .inl (cA 22, 3280, .inl (A 22))) := rfl
theorem atX_23 {cA : Nat → ClassId} {ad : Nat → Nat} {F : Nat → Int32} {L : Nat → Int64} {A : Nat → Nat → Int32} {B : Nat → Nat → Int64} : (wX cA ad F L A B)[23]? = some (ad 23, .inl (cA 23, 41, .inl (A 23))) := rfl
theorem atX_24 {cA : Nat → ClassId} {ad : Nat → Nat} {F : Nat → Int32} {L : Nat → Int64} {A : Nat → Nat → Int32} {B : Nat → Nat → Int64} : (wX cA ad F L A B)[24]? = some (ad 24, .inr (7, [.int (F 28), .ref (ad 25), .ref (ad 26)])) := rfl
theorem atX_25 {cA : Nat → ClassId} {ad : Nat → Nat} {F : Nat → Int32} {L : Nat → Int64} {A : Nat → Nat → Int32} {B : Nat → Nat → Int64} : (wX cA ad F L A B)[25]? = some (ad 25, .inl (cA 25, 240, .inl (A 25))) := rfl
theorem atX_26 {cA : Nat → ClassId} {ad : Nat → Nat} {F : Nat → Int32} {L : Nat → Int64} {A : Nat → Nat → Int32} {B : Nat → Nat → Int64} : (wX cA ad F L A B)[26]? = some (ad 26, .inl (cA 26, 3, .inl (A 26))) := rfl
theorem atX_27 {cA : Nat → ClassId} {ad : Nat → Nat} {F : Nat → Int32} {L : Nat → Int64} {A : Nat → Nat → Int32} {B : Nat → Nat → Int64} : (wX cA ad F L A B)[27]? = some (ad 27, .inr (2, [.ref (ad 28), .ref (ad 29), .int (F 29), .int (F 30), .ref (ad 30), .ref (ad 31), .int (F 31), .int (F 32), .ref (ad 32), .ref (ad 33), .ref (ad 34), .ref (ad 40), .int (F 33), .int (F 34), .int (F 35)])) := rfl
theorem atX_28 {cA : Nat → ClassId} {ad : Nat → Nat} {F : Nat → Int32} {L : Nat → Int64} {A : Nat → Nat → Int32} {B : Nat → Nat → Int64} : (wX cA ad F L A B)[28]? = some (ad 28, .inl (cA 28, 80, .inl (A 28))) := rfl
theorem atX_29 {cA : Nat → ClassId} {ad : Nat → Nat} {F : Nat → Int32} {L : Nat → Int64} {A : Nat → Nat → Int32} {B : Nat → Nat → Int64} : (wX cA ad F L A B)[29]? = some (ad 29, .inl (cA 29, 8, .inl (A 29))) := rfl
theorem atX_30 {cA : Nat → ClassId} {ad : Nat → Nat} {F : Nat → Int32} {L : Nat → Int64} {A : Nat → Nat → Int32} {B : Nat → Nat → Int64} : (wX cA ad F L A B)[30]? = some (ad 30, .inl (cA 30, 100, .inl (A 30))) := rfl
theorem atX_31 {cA : Nat → ClassId} {ad : Nat → Nat} {F : Nat → Int32} {L : Nat → Int64} {A : Nat → Nat → Int32} {B : Nat → Nat → Int64} : (wX cA ad F L A B)[31]? = some (ad 31, .inl (cA 31, 800, .inl (A 31))) := rfl
theorem atX_32 {cA : Nat → ClassId} {ad : Nat → Nat} {F : Nat → Int32} {L : Nat → Int64} {A : Nat → Nat → Int32} {B : Nat → Nat → Int64} : (wX cA ad F L A B)[32]? = some (ad 32, .inl (cA 32, 8, .inl (A 32))) := rfl
theorem atX_33 {cA : Nat → ClassId} {ad : Nat → Nat} {F : Nat → Int32} {L : Nat → Int64} {A : Nat → Nat → Int32} {B : Nat → Nat → Int64} : (wX cA ad F L A B)[33]? = some (ad 33, .inl (cA 33, 10, .inl (A 33))) := rfl
theorem atX_34 {cA : Nat → ClassId} {ad : Nat → Nat} {F : Nat → Int32} {L : Nat → Int64} {A : Nat → Nat → Int32} {B : Nat → Nat → Int64} : (wX cA ad F L A B)[34]? = some (ad 34, .inr (1, [.ref (ad 35), .ref (ad 36), .ref (ad 37), .ref (ad 38), .ref (ad 39)])) := rfl
theorem atX_35 {cA : Nat → ClassId} {ad : Nat → Nat} {F : Nat → Int32} {L : Nat → Int64} {A : Nat → Nat → Int32} {B : Nat → Nat → Int64} : (wX cA ad F L A B)[35]? = some (ad 35, .inl (cA 35, 10, .inl (A 35))) := rfl
theorem atX_36 {cA : Nat → ClassId} {ad : Nat → Nat} {F : Nat → Int32} {L : Nat → Int64} {A : Nat → Nat → Int32} {B : Nat → Nat → Int64} : (wX cA ad F L A B)[36]? = some (ad 36, .inl (cA 36, 10, .inl (A 36))) := rfl
theorem atX_37 {cA : Nat → ClassId} {ad : Nat → Nat} {F : Nat → Int32} {L : Nat → Int64} {A : Nat → Nat → Int32} {B : Nat → Nat → Int64} : (wX cA ad F L A B)[37]? = some (ad 37, .inl (cA 37, 10, .inl (A 37))) := rfl
theorem atX_38 {cA : Nat → ClassId} {ad : Nat → Nat} {F : Nat → Int32} {L : Nat → Int64} {A : Nat → Nat → Int32} {B : Nat → Nat → Int64} : (wX cA ad F L A B)[38]? = some (ad 38, .inl (cA 38, 10, .inl (A 38))) := rfl
theorem atX_39 {cA : Nat → ClassId} {ad : Nat → Nat} {F : Nat → Int32} {L : Nat → Int64} {A : Nat → Nat → Int32} {B : Nat → Nat → Int64} : (wX cA ad F L A B)[39]? = some (ad 39, .inl (cA 39, 11, .inl (A 39))) := rfl
theorem atX_40 {cA : Nat → ClassId} {ad : Nat → Nat} {F : Nat → Int32} {L : Nat → Int64} {A : Nat → Nat → Int32} {B : Nat → Nat → Int64} : (wX cA ad F L A B)[40]? = some (ad 40, .inr (1, [.ref (ad 41), .ref (ad 42), .ref (ad 43), .ref (ad 44), .ref (ad 45)])) := rfl
theorem atX_41 {cA : Nat → ClassId} {ad : Nat → Nat} {F : Nat → Int32} {L : Nat → Int64} {A : Nat → Nat → Int32} {B : Nat → Nat → Int64} : (wX cA ad F L A B)[41]? = some (ad 41, .inl (cA 41, 10, .inl (A 41))) := rfl
theorem atX_42 {cA : Nat → ClassId} {ad : Nat → Nat} {F : Nat → Int32} {L : Nat → Int64} {A : Nat → Nat → Int32} {B : Nat → Nat → Int64} : (wX cA ad F L A B)[42]? = some (ad 42, .inl (cA 42, 10, .inl (A 42))) := rfl
theorem atX_43 {cA : Nat → ClassId} {ad : Nat → Nat} {F : Nat → Int32} {L : Nat → Int64} {A : Nat → Nat → Int32} {B : Nat → Nat → Int64} : (wX cA ad F L A B)[43]? = some (ad 43, .inl (cA 43, 10, .inl (A 43))) := rfl
theorem atX_44 {cA : Nat → ClassId} {ad : Nat → Nat} {F : Nat → Int32} {L : Nat → Int64} {A : Nat → Nat → Int32} {B : Nat → Nat → Int64} : (wX cA ad F L A B)[44]? = some (ad 44, .inl (cA 44, 10, .inl (A 44))) := rfl
theorem atX_45 {cA : Nat → ClassId} {ad : Nat → Nat} {F : Nat → Int32} {L : Nat → Int64} {A : Nat → Nat → Int32} {B : Nat → Nat → Int64} : (wX cA ad F L A B)[45]? = some (ad 45, .inl (cA 45, 11, .inl (A 45))) := rfl
theorem atX_46 {cA : Nat → ClassId} {ad : Nat → Nat} {F : Nat → Int32} {L : Nat → Int64} {A : Nat → Nat → Int32} {B : Nat → Nat → Int64} : (wX cA ad F L A B)[46]? = some (ad 46, .inr (4, [.ref (ad 47), .int (F 36), .ref (ad 48), .ref (ad 49), .ref (ad 50), .ref (ad 51), .ref (ad 52), .ref (ad 53), .ref (ad 54), .ref (ad 55), .int (F 37), .int (F 38)])) := rfl
theorem atX_47 {cA : Nat → ClassId} {ad : Nat → Nat} {F : Nat → Int32} {L : Nat → Int64} {A : Nat → Nat → Int32} {B : Nat → Nat → Int64} : (wX cA ad F L A B)[47]? = some (ad 47, .inl (cA 47, 720, .inl (A 47))) := rfl
theorem atX_48 {cA : Nat → ClassId} {ad : Nat → Nat} {F : Nat → Int32} {L : Nat → Int64} {A : Nat → Nat → Int32} {B : Nat → Nat → Int64} : (wX cA ad F L A B)[48]? = some (ad 48, .inl (cA 48, 80, .inl (A 48))) := rfl
theorem atX_49 {cA : Nat → ClassId} {ad : Nat → Nat} {F : Nat → Int32} {L : Nat → Int64} {A : Nat → Nat → Int32} {B : Nat → Nat → Int64} : (wX cA ad F L A B)[49]? = some (ad 49, .inl (cA 49, 8, .inl (A 49))) := rfl
theorem atX_50 {cA : Nat → ClassId} {ad : Nat → Nat} {F : Nat → Int32} {L : Nat → Int64} {A : Nat → Nat → Int32} {B : Nat → Nat → Int64} : (wX cA ad F L A B)[50]? = some (ad 50, .inl (cA 50, 8, .inl (A 50))) := rfl
theorem atX_51 {cA : Nat → ClassId} {ad : Nat → Nat} {F : Nat → Int32} {L : Nat → Int64} {A : Nat → Nat → Int32} {B : Nat → Nat → Int64} : (wX cA ad F L A B)[51]? = some (ad 51, .inl (cA 51, 20, .inl (A 51))) := rfl
theorem atX_52 {cA : Nat → ClassId} {ad : Nat → Nat} {F : Nat → Int32} {L : Nat → Int64} {A : Nat → Nat → Int32} {B : Nat → Nat → Int64} : (wX cA ad F L A B)[52]? = some (ad 52, .inl (cA 52, 20, .inl (A 52))) := rfl
theorem atX_53 {cA : Nat → ClassId} {ad : Nat → Nat} {F : Nat → Int32} {L : Nat → Int64} {A : Nat → Nat → Int32} {B : Nat → Nat → Int64} : (wX cA ad F L A B)[53]? = some (ad 53, .inl (cA 53, 20, .inl (A 53))) := rfl
theorem atX_54 {cA : Nat → ClassId} {ad : Nat → Nat} {F : Nat → Int32} {L : Nat → Int64} {A : Nat → Nat → Int32} {B : Nat → Nat → Int64} : (wX cA ad F L A B)[54]? = some (ad 54, .inl (cA 54, 20, .inl (A 54))) := rfl
theorem atX_55 {cA : Nat → ClassId} {ad : Nat → Nat} {F : Nat → Int32} {L : Nat → Int64} {A : Nat → Nat → Int32} {B : Nat → Nat → Int64} : (wX cA ad F L A B)[55]? = some (ad 55, .inl (cA 55, 20, .inl (A 55))) := rfl
theorem atX_56 {cA : Nat → ClassId} {ad : Nat → Nat} {F : Nat → Int32} {L : Nat → Int64} {A : Nat → Nat → Int32} {B : Nat → Nat → Int64} : (wX cA ad F L A B)[56]? = some (ad 56, .inr (9, [.ref (ad 57), .ref (ad 58), .ref (ad 59), .ref (ad 60), .int (F 39), .int (F 40), .int (F 41), .int (F 42)])) := rfl
theorem atX_57 {cA : Nat → ClassId} {ad : Nat → Nat} {F : Nat → Int32} {L : Nat → Int64} {A : Nat → Nat → Int32} {B : Nat → Nat → Int64} : (wX cA ad F L A B)[57]? = some (ad 57, .inl (cA 57, 12, .inl (A 57))) := rfl
theorem atX_58 {cA : Nat → ClassId} {ad : Nat → Nat} {F : Nat → Int32} {L : Nat → Int64} {A : Nat → Nat → Int32} {B : Nat → Nat → Int64} : (wX cA ad F L A B)[58]? = some (ad 58, .inl (cA 58, 12, .inl (A 58))) := rfl
theorem atX_59 {cA : Nat → ClassId} {ad : Nat → Nat} {F : Nat → Int32} {L : Nat → Int64} {A : Nat → Nat → Int32} {B : Nat → Nat → Int64} : (wX cA ad F L A B)[59]? = some (ad 59, .inl (cA 59, 120, .inl (A 59))) := rfl
theorem atX_60 {cA : Nat → ClassId} {ad : Nat → Nat} {F : Nat → Int32} {L : Nat → Int64} {A : Nat → Nat → Int32} {B : Nat → Nat → Int64} : (wX cA ad F L A B)[60]? = some (ad 60, .inl (cA 60, 80, .inl (A 60))) := rfl
theorem atX_61 {cA : Nat → ClassId} {ad : Nat → Nat} {F : Nat → Int32} {L : Nat → Int64} {A : Nat → Nat → Int32} {B : Nat → Nat → Int64} : (wX cA ad F L A B)[61]? = some (ad 61, .inr (8, [.ref (ad 62), .ref (ad 63), .ref (ad 64), .ref (ad 65), .ref (ad 66), .ref (ad 67), .ref (ad 68), .ref (ad 69), .int (F 43)])) := rfl
theorem atX_62 {cA : Nat → ClassId} {ad : Nat → Nat} {F : Nat → Int32} {L : Nat → Int64} {A : Nat → Nat → Int32} {B : Nat → Nat → Int64} : (wX cA ad F L A B)[62]? = some (ad 62, .inl (cA 62, 20, .inl (A 62))) := rfl
theorem atX_63 {cA : Nat → ClassId} {ad : Nat → Nat} {F : Nat → Int32} {L : Nat → Int64} {A : Nat → Nat → Int32} {B : Nat → Nat → Int64} : (wX cA ad F L A B)[63]? = some (ad 63, .inl (cA 63, 20, .inl (A 63))) := rfl
theorem atX_64 {cA : Nat → ClassId} {ad : Nat → Nat} {F : Nat → Int32} {L : Nat → Int64} {A : Nat → Nat → Int32} {B : Nat → Nat → Int64} : (wX cA ad F L A B)[64]? = some (ad 64, .inl (cA 64, 20, .inl (A 64))) := rfl
theorem atX_65 {cA : Nat → ClassId} {ad : Nat → Nat} {F : Nat → Int32} {L : Nat → Int64} {A : Nat → Nat → Int32} {B : Nat → Nat → Int64} : (wX cA ad F L A B)[65]? = some (ad 65, .inl (cA 65, 20, .inl (A 65))) := rfl
theorem atX_66 {cA : Nat → ClassId} {ad : Nat → Nat} {F : Nat → Int32} {L : Nat → Int64} {A : Nat → Nat → Int32} {B : Nat → Nat → Int64} : (wX cA ad F L A B)[66]? = some (ad 66, .inl (cA 66, 20, .inl (A 66))) := rfl
theorem atX_67 {cA : Nat → ClassId} {ad : Nat → Nat} {F : Nat → Int32} {L : Nat → Int64} {A : Nat → Nat → Int32} {B : Nat → Nat → Int64} : (wX cA ad F L A B)[67]? = some (ad 67, .inl (cA 67, 80, .inl (A 67))) := rfl
theorem atX_68 {cA : Nat → ClassId} {ad : Nat → Nat} {F : Nat → Int32} {L : Nat → Int64} {A : Nat → Nat → Int32} {B : Nat → Nat → Int64} : (wX cA ad F L A B)[68]? = some (ad 68, .inl (cA 68, 80, .inl (A 68))) := rfl
theorem atX_69 {cA : Nat → ClassId} {ad : Nat → Nat} {F : Nat → Int32} {L : Nat → Int64} {A : Nat → Nat → Int32} {B : Nat → Nat → Int64} : (wX cA ad F L A B)[69]? = some (ad 69, .inl (cA 69, 80, .inr (.inl (B 69)))) := rfl
theorem atX_70 {cA : Nat → ClassId} {ad : Nat → Nat} {F : Nat → Int32} {L : Nat → Int64} {A : Nat → Nat → Int32} {B : Nat → Nat → Int64} : (wX cA ad F L A B)[70]? = some (ad 70, .inl (cA 70, 8, .inl (A 70))) := rfl
theorem tyX_1 {cA : Nat → ClassId} : (tysX cA)[0]? = some (cA 1, .byte) := rfl
theorem tyX_5 {cA : Nat → ClassId} : (tysX cA)[1]? = some (cA 5, .long) := rfl
theorem tyX_6 {cA : Nat → ClassId} : (tysX cA)[2]? = some (cA 6, .long) := rfl
theorem tyX_7 {cA : Nat → ClassId} : (tysX cA)[3]? = some (cA 7, .int) := rfl
theorem tyX_8 {cA : Nat → ClassId} : (tysX cA)[4]? = some (cA 8, .int) := rfl
theorem tyX_9 {cA : Nat → ClassId} : (tysX cA)[5]? = some (cA 9, .int) := rfl
theorem tyX_10 {cA : Nat → ClassId} : (tysX cA)[6]? = some (cA 10, .int) := rfl
theorem tyX_12 {cA : Nat → ClassId} : (tysX cA)[7]? = some (cA 12, .long) := rfl
theorem tyX_13 {cA : Nat → ClassId} : (tysX cA)[8]? = some (cA 13, .long) := rfl
theorem tyX_14 {cA : Nat → ClassId} : (tysX cA)[9]? = some (cA 14, .int) := rfl
theorem tyX_15 {cA : Nat → ClassId} : (tysX cA)[10]? = some (cA 15, .int) := rfl
theorem tyX_16 {cA : Nat → ClassId} : (tysX cA)[11]? = some (cA 16, .int) := rfl
theorem tyX_17 {cA : Nat → ClassId} : (tysX cA)[12]? = some (cA 17, .int) := rfl
theorem tyX_19 {cA : Nat → ClassId} : (tysX cA)[13]? = some (cA 19, .int) := rfl
theorem tyX_22 {cA : Nat → ClassId} : (tysX cA)[14]? = some (cA 22, .int) := rfl
theorem tyX_23 {cA : Nat → ClassId} : (tysX cA)[15]? = some (cA 23, .int) := rfl
theorem tyX_25 {cA : Nat → ClassId} : (tysX cA)[16]? = some (cA 25, .int) := rfl
theorem tyX_26 {cA : Nat → ClassId} : (tysX cA)[17]? = some (cA 26, .int) := rfl
theorem tyX_28 {cA : Nat → ClassId} : (tysX cA)[18]? = some (cA 28, .int) := rfl
theorem tyX_29 {cA : Nat → ClassId} : (tysX cA)[19]? = some (cA 29, .int) := rfl
theorem tyX_30 {cA : Nat → ClassId} : (tysX cA)[20]? = some (cA 30, .int) := rfl
theorem tyX_31 {cA : Nat → ClassId} : (tysX cA)[21]? = some (cA 31, .int) := rfl
theorem tyX_32 {cA : Nat → ClassId} : (tysX cA)[22]? = some (cA 32, .int) := rfl
theorem tyX_33 {cA : Nat → ClassId} : (tysX cA)[23]? = some (cA 33, .int) := rfl
theorem tyX_35 {cA : Nat → ClassId} : (tysX cA)[24]? = some (cA 35, .int) := rfl
theorem tyX_36 {cA : Nat → ClassId} : (tysX cA)[25]? = some (cA 36, .int) := rfl
theorem tyX_37 {cA : Nat → ClassId} : (tysX cA)[26]? = some (cA 37, .int) := rfl
theorem tyX_38 {cA : Nat → ClassId} : (tysX cA)[27]? = some (cA 38, .int) := rfl
theorem tyX_39 {cA : Nat → ClassId} : (tysX cA)[28]? = some (cA 39, .int) := rfl
theorem tyX_41 {cA : Nat → ClassId} : (tysX cA)[29]? = some (cA 41, .int) := rfl
theorem tyX_42 {cA : Nat → ClassId} : (tysX cA)[30]? = some (cA 42, .int) := rfl
theorem tyX_43 {cA : Nat → ClassId} : (tysX cA)[31]? = some (cA 43, .int) := rfl
theorem tyX_44 {cA : Nat → ClassId} : (tysX cA)[32]? = some (cA 44, .int) := rfl
theorem tyX_45 {cA : Nat → ClassId} : (tysX cA)[33]? = some (cA 45, .int) := rfl
theorem tyX_47 {cA : Nat → ClassId} : (tysX cA)[34]? = some (cA 47, .int) := rfl
theorem tyX_48 {cA : Nat → ClassId} : (tysX cA)[35]? = some (cA 48, .int) := rfl
theorem tyX_49 {cA : Nat → ClassId} : (tysX cA)[36]? = some (cA 49, .int) := rfl
theorem tyX_50 {cA : Nat → ClassId} : (tysX cA)[37]? = some (cA 50, .int) := rfl
theorem tyX_51 {cA : Nat → ClassId} : (tysX cA)[38]? = some (cA 51, .int) := rfl
theorem tyX_52 {cA : Nat → ClassId} : (tysX cA)[39]? = some (cA 52, .int) := rfl
theorem tyX_53 {cA : Nat → ClassId} : (tysX cA)[40]? = some (cA 53, .int) := rfl
theorem tyX_54 {cA : Nat → ClassId} : (tysX cA)[41]? = some (cA 54, .int) := rfl
theorem tyX_55 {cA : Nat → ClassId} : (tysX cA)[42]? = some (cA 55, .int) := rfl
theorem tyX_57 {cA : Nat → ClassId} : (tysX cA)[43]? = some (cA 57, .int) := rfl
theorem tyX_58 {cA : Nat → ClassId} : (tysX cA)[44]? = some (cA 58, .int) := rfl
theorem tyX_59 {cA : Nat → ClassId} : (tysX cA)[45]? = some (cA 59, .int) := rfl
theorem tyX_60 {cA : Nat → ClassId} : (tysX cA)[46]? = some (cA 60, .int) := rfl
theorem tyX_62 {cA : Nat → ClassId} : (tysX cA)[47]? = some (cA 62, .int) := rfl
theorem tyX_63 {cA : Nat → ClassId} : (tysX cA)[48]? = some (cA 63, .int) := rfl
theorem tyX_64 {cA : Nat → ClassId} : (tysX cA)[49]? = some (cA 64, .int) := rfl
theorem tyX_65 {cA : Nat → ClassId} : (tysX cA)[50]? = some (cA 65, .int) := rfl
theorem tyX_66 {cA : Nat → ClassId} : (tysX cA)[51]? = some (cA 66, .int) := rfl
theorem tyX_67 {cA : Nat → ClassId} : (tysX cA)[52]? = some (cA 67, .int) := rfl
theorem tyX_68 {cA : Nat → ClassId} : (tysX cA)[53]? = some (cA 68, .int) := rfl
theorem tyX_69 {cA : Nat → ClassId} : (tysX cA)[54]? = some (cA 69, .long) := rfl
theorem tyX_70 {cA : Nat → ClassId} : (tysX cA)[55]? = some (cA 70, .int) := rfl
theorem setFX_0 {cA : Nat → ClassId} {ad : Nat → Nat} {F : Nat → Int32} {L : Nat → Int64} {A : Nat → Nat → Int32} {B : Nat → Nat → Int64} {x : Int32} : (wX cA ad F L A B).set 0 (ad 0, .inr (11, ([.ref (ad 1), .ref (ad 2), .ref (ad 18), .ref (ad 20), .ref (ad 24), .ref (ad 27), .ref (ad 46), .ref (ad 56), .ref (ad 61), .ref (ad 70), .ref (ad 11), .int (F 0), .int (F 1)] : List Value).set 11 (.int x))) = wX cA ad (upd F 0 x) L A B := rfl
theorem setFX_1 {cA : Nat → ClassId} {ad : Nat → Nat} {F : Nat → Int32} {L : Nat → Int64} {A : Nat → Nat → Int32} {B : Nat → Nat → Int64} {x : Int32} : (wX cA ad F L A B).set 0 (ad 0, .inr (11, ([.ref (ad 1), .ref (ad 2), .ref (ad 18), .ref (ad 20), .ref (ad 24), .ref (ad 27), .ref (ad 46), .ref (ad 56), .ref (ad 61), .ref (ad 70), .ref (ad 11), .int (F 0), .int (F 1)] : List Value).set 12 (.int x))) = wX cA ad (upd F 1 x) L A B := rfl
theorem setX_1 {cA : Nat → ClassId} {ad : Nat → Nat} {F : Nat → Int32} {L : Nat → Int64} {A : Nat → Nat → Int32} {B : Nat → Nat → Int64} {g : Nat → Int32} : (wX cA ad F L A B).set 1 (ad 1, .inl (cA 1, 1700, .inl g)) = wX cA ad F L (va_up A 1 g) B := rfl
theorem setFX_2 {cA : Nat → ClassId} {ad : Nat → Nat} {F : Nat → Int32} {L : Nat → Int64} {A : Nat → Nat → Int32} {B : Nat → Nat → Int64} {x : Int32} : (wX cA ad F L A B).set 2 (ad 2, .inr (6, ([.ref (ad 3), .ref (ad 4), .int (F 2), .int (F 3)] : List Value).set 2 (.int x))) = wX cA ad (upd F 2 x) L A B := rfl
theorem setFX_3 {cA : Nat → ClassId} {ad : Nat → Nat} {F : Nat → Int32} {L : Nat → Int64} {A : Nat → Nat → Int32} {B : Nat → Nat → Int64} {x : Int32} : (wX cA ad F L A B).set 2 (ad 2, .inr (6, ([.ref (ad 3), .ref (ad 4), .int (F 2), .int (F 3)] : List Value).set 3 (.int x))) = wX cA ad (upd F 3 x) L A B := rfl
theorem setLX_0 {cA : Nat → ClassId} {ad : Nat → Nat} {F : Nat → Int32} {L : Nat → Int64} {A : Nat → Nat → Int32} {B : Nat → Nat → Int64} {x : Int64} : (wX cA ad F L A B).set 3 (ad 3, .inr (5, ([.long (L 0), .long (L 1), .long (L 2), .long (L 3), .long (L 4), .long (L 5), .long (L 6), .ref (ad 71), .int (F 4), .int (F 5), .int (F 6), .int (F 7), .long (L 7), .int (F 8)] : List Value).set 0 (.long x))) = wX cA ad F (vp_updL L 0 x) A B := rfl
theorem setLX_1 {cA : Nat → ClassId} {ad : Nat → Nat} {F : Nat → Int32} {L : Nat → Int64} {A : Nat → Nat → Int32} {B : Nat → Nat → Int64} {x : Int64} : (wX cA ad F L A B).set 3 (ad 3, .inr (5, ([.long (L 0), .long (L 1), .long (L 2), .long (L 3), .long (L 4), .long (L 5), .long (L 6), .ref (ad 71), .int (F 4), .int (F 5), .int (F 6), .int (F 7), .long (L 7), .int (F 8)] : List Value).set 1 (.long x))) = wX cA ad F (vp_updL L 1 x) A B := rfl
theorem setLX_2 {cA : Nat → ClassId} {ad : Nat → Nat} {F : Nat → Int32} {L : Nat → Int64} {A : Nat → Nat → Int32} {B : Nat → Nat → Int64} {x : Int64} : (wX cA ad F L A B).set 3 (ad 3, .inr (5, ([.long (L 0), .long (L 1), .long (L 2), .long (L 3), .long (L 4), .long (L 5), .long (L 6), .ref (ad 71), .int (F 4), .int (F 5), .int (F 6), .int (F 7), .long (L 7), .int (F 8)] : List Value).set 2 (.long x))) = wX cA ad F (vp_updL L 2 x) A B := rfl
theorem setLX_3 {cA : Nat → ClassId} {ad : Nat → Nat} {F : Nat → Int32} {L : Nat → Int64} {A : Nat → Nat → Int32} {B : Nat → Nat → Int64} {x : Int64} : (wX cA ad F L A B).set 3 (ad 3, .inr (5, ([.long (L 0), .long (L 1), .long (L 2), .long (L 3), .long (L 4), .long (L 5), .long (L 6), .ref (ad 71), .int (F 4), .int (F 5), .int (F 6), .int (F 7), .long (L 7), .int (F 8)] : List Value).set 3 (.long x))) = wX cA ad F (vp_updL L 3 x) A B := rfl
theorem setLX_4 {cA : Nat → ClassId} {ad : Nat → Nat} {F : Nat → Int32} {L : Nat → Int64} {A : Nat → Nat → Int32} {B : Nat → Nat → Int64} {x : Int64} : (wX cA ad F L A B).set 3 (ad 3, .inr (5, ([.long (L 0), .long (L 1), .long (L 2), .long (L 3), .long (L 4), .long (L 5), .long (L 6), .ref (ad 71), .int (F 4), .int (F 5), .int (F 6), .int (F 7), .long (L 7), .int (F 8)] : List Value).set 4 (.long x))) = wX cA ad F (vp_updL L 4 x) A B := rfl
theorem setLX_5 {cA : Nat → ClassId} {ad : Nat → Nat} {F : Nat → Int32} {L : Nat → Int64} {A : Nat → Nat → Int32} {B : Nat → Nat → Int64} {x : Int64} : (wX cA ad F L A B).set 3 (ad 3, .inr (5, ([.long (L 0), .long (L 1), .long (L 2), .long (L 3), .long (L 4), .long (L 5), .long (L 6), .ref (ad 71), .int (F 4), .int (F 5), .int (F 6), .int (F 7), .long (L 7), .int (F 8)] : List Value).set 5 (.long x))) = wX cA ad F (vp_updL L 5 x) A B := rfl
theorem setLX_6 {cA : Nat → ClassId} {ad : Nat → Nat} {F : Nat → Int32} {L : Nat → Int64} {A : Nat → Nat → Int32} {B : Nat → Nat → Int64} {x : Int64} : (wX cA ad F L A B).set 3 (ad 3, .inr (5, ([.long (L 0), .long (L 1), .long (L 2), .long (L 3), .long (L 4), .long (L 5), .long (L 6), .ref (ad 71), .int (F 4), .int (F 5), .int (F 6), .int (F 7), .long (L 7), .int (F 8)] : List Value).set 6 (.long x))) = wX cA ad F (vp_updL L 6 x) A B := rfl
theorem setFX_4 {cA : Nat → ClassId} {ad : Nat → Nat} {F : Nat → Int32} {L : Nat → Int64} {A : Nat → Nat → Int32} {B : Nat → Nat → Int64} {x : Int32} : (wX cA ad F L A B).set 3 (ad 3, .inr (5, ([.long (L 0), .long (L 1), .long (L 2), .long (L 3), .long (L 4), .long (L 5), .long (L 6), .ref (ad 71), .int (F 4), .int (F 5), .int (F 6), .int (F 7), .long (L 7), .int (F 8)] : List Value).set 8 (.int x))) = wX cA ad (upd F 4 x) L A B := rfl
theorem setFX_5 {cA : Nat → ClassId} {ad : Nat → Nat} {F : Nat → Int32} {L : Nat → Int64} {A : Nat → Nat → Int32} {B : Nat → Nat → Int64} {x : Int32} : (wX cA ad F L A B).set 3 (ad 3, .inr (5, ([.long (L 0), .long (L 1), .long (L 2), .long (L 3), .long (L 4), .long (L 5), .long (L 6), .ref (ad 71), .int (F 4), .int (F 5), .int (F 6), .int (F 7), .long (L 7), .int (F 8)] : List Value).set 9 (.int x))) = wX cA ad (upd F 5 x) L A B := rfl
theorem setFX_6 {cA : Nat → ClassId} {ad : Nat → Nat} {F : Nat → Int32} {L : Nat → Int64} {A : Nat → Nat → Int32} {B : Nat → Nat → Int64} {x : Int32} : (wX cA ad F L A B).set 3 (ad 3, .inr (5, ([.long (L 0), .long (L 1), .long (L 2), .long (L 3), .long (L 4), .long (L 5), .long (L 6), .ref (ad 71), .int (F 4), .int (F 5), .int (F 6), .int (F 7), .long (L 7), .int (F 8)] : List Value).set 10 (.int x))) = wX cA ad (upd F 6 x) L A B := rfl
theorem setFX_7 {cA : Nat → ClassId} {ad : Nat → Nat} {F : Nat → Int32} {L : Nat → Int64} {A : Nat → Nat → Int32} {B : Nat → Nat → Int64} {x : Int32} : (wX cA ad F L A B).set 3 (ad 3, .inr (5, ([.long (L 0), .long (L 1), .long (L 2), .long (L 3), .long (L 4), .long (L 5), .long (L 6), .ref (ad 71), .int (F 4), .int (F 5), .int (F 6), .int (F 7), .long (L 7), .int (F 8)] : List Value).set 11 (.int x))) = wX cA ad (upd F 7 x) L A B := rfl
theorem setLX_7 {cA : Nat → ClassId} {ad : Nat → Nat} {F : Nat → Int32} {L : Nat → Int64} {A : Nat → Nat → Int32} {B : Nat → Nat → Int64} {x : Int64} : (wX cA ad F L A B).set 3 (ad 3, .inr (5, ([.long (L 0), .long (L 1), .long (L 2), .long (L 3), .long (L 4), .long (L 5), .long (L 6), .ref (ad 71), .int (F 4), .int (F 5), .int (F 6), .int (F 7), .long (L 7), .int (F 8)] : List Value).set 12 (.long x))) = wX cA ad F (vp_updL L 7 x) A B := rfl
theorem setFX_8 {cA : Nat → ClassId} {ad : Nat → Nat} {F : Nat → Int32} {L : Nat → Int64} {A : Nat → Nat → Int32} {B : Nat → Nat → Int64} {x : Int32} : (wX cA ad F L A B).set 3 (ad 3, .inr (5, ([.long (L 0), .long (L 1), .long (L 2), .long (L 3), .long (L 4), .long (L 5), .long (L 6), .ref (ad 71), .int (F 4), .int (F 5), .int (F 6), .int (F 7), .long (L 7), .int (F 8)] : List Value).set 13 (.int x))) = wX cA ad (upd F 8 x) L A B := rfl
theorem setFX_9 {cA : Nat → ClassId} {ad : Nat → Nat} {F : Nat → Int32} {L : Nat → Int64} {A : Nat → Nat → Int32} {B : Nat → Nat → Int64} {x : Int32} : (wX cA ad F L A B).set 4 (ad 4, .inr (10, ([.ref (ad 5), .ref (ad 6), .ref (ad 7), .ref (ad 8), .ref (ad 9), .ref (ad 10), .int (F 9), .int (F 10), .int (F 11), .int (F 12), .int (F 13), .int (F 14)] : List Value).set 6 (.int x))) = wX cA ad (upd F 9 x) L A B := rfl
theorem setFX_10 {cA : Nat → ClassId} {ad : Nat → Nat} {F : Nat → Int32} {L : Nat → Int64} {A : Nat → Nat → Int32} {B : Nat → Nat → Int64} {x : Int32} : (wX cA ad F L A B).set 4 (ad 4, .inr (10, ([.ref (ad 5), .ref (ad 6), .ref (ad 7), .ref (ad 8), .ref (ad 9), .ref (ad 10), .int (F 9), .int (F 10), .int (F 11), .int (F 12), .int (F 13), .int (F 14)] : List Value).set 7 (.int x))) = wX cA ad (upd F 10 x) L A B := rfl
theorem setFX_11 {cA : Nat → ClassId} {ad : Nat → Nat} {F : Nat → Int32} {L : Nat → Int64} {A : Nat → Nat → Int32} {B : Nat → Nat → Int64} {x : Int32} : (wX cA ad F L A B).set 4 (ad 4, .inr (10, ([.ref (ad 5), .ref (ad 6), .ref (ad 7), .ref (ad 8), .ref (ad 9), .ref (ad 10), .int (F 9), .int (F 10), .int (F 11), .int (F 12), .int (F 13), .int (F 14)] : List Value).set 8 (.int x))) = wX cA ad (upd F 11 x) L A B := rfl
theorem setFX_12 {cA : Nat → ClassId} {ad : Nat → Nat} {F : Nat → Int32} {L : Nat → Int64} {A : Nat → Nat → Int32} {B : Nat → Nat → Int64} {x : Int32} : (wX cA ad F L A B).set 4 (ad 4, .inr (10, ([.ref (ad 5), .ref (ad 6), .ref (ad 7), .ref (ad 8), .ref (ad 9), .ref (ad 10), .int (F 9), .int (F 10), .int (F 11), .int (F 12), .int (F 13), .int (F 14)] : List Value).set 9 (.int x))) = wX cA ad (upd F 12 x) L A B := rfl
theorem setFX_13 {cA : Nat → ClassId} {ad : Nat → Nat} {F : Nat → Int32} {L : Nat → Int64} {A : Nat → Nat → Int32} {B : Nat → Nat → Int64} {x : Int32} : (wX cA ad F L A B).set 4 (ad 4, .inr (10, ([.ref (ad 5), .ref (ad 6), .ref (ad 7), .ref (ad 8), .ref (ad 9), .ref (ad 10), .int (F 9), .int (F 10), .int (F 11), .int (F 12), .int (F 13), .int (F 14)] : List Value).set 10 (.int x))) = wX cA ad (upd F 13 x) L A B := rfl
theorem setFX_14 {cA : Nat → ClassId} {ad : Nat → Nat} {F : Nat → Int32} {L : Nat → Int64} {A : Nat → Nat → Int32} {B : Nat → Nat → Int64} {x : Int32} : (wX cA ad F L A B).set 4 (ad 4, .inr (10, ([.ref (ad 5), .ref (ad 6), .ref (ad 7), .ref (ad 8), .ref (ad 9), .ref (ad 10), .int (F 9), .int (F 10), .int (F 11), .int (F 12), .int (F 13), .int (F 14)] : List Value).set 11 (.int x))) = wX cA ad (upd F 14 x) L A B := rfl
theorem setBX_5 {cA : Nat → ClassId} {ad : Nat → Nat} {F : Nat → Int32} {L : Nat → Int64} {A : Nat → Nat → Int32} {B : Nat → Nat → Int64} {g : Nat → Int64} : (wX cA ad F L A B).set 5 (ad 5, .inl (cA 5, 8, .inr (.inl g))) = wX cA ad F L A (va_up B 5 g) := rfl
theorem setBX_6 {cA : Nat → ClassId} {ad : Nat → Nat} {F : Nat → Int32} {L : Nat → Int64} {A : Nat → Nat → Int32} {B : Nat → Nat → Int64} {g : Nat → Int64} : (wX cA ad F L A B).set 6 (ad 6, .inl (cA 6, 10, .inr (.inl g))) = wX cA ad F L A (va_up B 6 g) := rfl
theorem setX_7 {cA : Nat → ClassId} {ad : Nat → Nat} {F : Nat → Int32} {L : Nat → Int64} {A : Nat → Nat → Int32} {B : Nat → Nat → Int64} {g : Nat → Int32} : (wX cA ad F L A B).set 7 (ad 7, .inl (cA 7, 8, .inl g)) = wX cA ad F L (va_up A 7 g) B := rfl
theorem setX_8 {cA : Nat → ClassId} {ad : Nat → Nat} {F : Nat → Int32} {L : Nat → Int64} {A : Nat → Nat → Int32} {B : Nat → Nat → Int64} {g : Nat → Int32} : (wX cA ad F L A B).set 8 (ad 8, .inl (cA 8, 8, .inl g)) = wX cA ad F L (va_up A 8 g) B := rfl
theorem setX_9 {cA : Nat → ClassId} {ad : Nat → Nat} {F : Nat → Int32} {L : Nat → Int64} {A : Nat → Nat → Int32} {B : Nat → Nat → Int64} {g : Nat → Int32} : (wX cA ad F L A B).set 9 (ad 9, .inl (cA 9, 8, .inl g)) = wX cA ad F L (va_up A 9 g) B := rfl
theorem setX_10 {cA : Nat → ClassId} {ad : Nat → Nat} {F : Nat → Int32} {L : Nat → Int64} {A : Nat → Nat → Int32} {B : Nat → Nat → Int64} {g : Nat → Int32} : (wX cA ad F L A B).set 10 (ad 10, .inl (cA 10, 80, .inl g)) = wX cA ad F L (va_up A 10 g) B := rfl
theorem setFX_15 {cA : Nat → ClassId} {ad : Nat → Nat} {F : Nat → Int32} {L : Nat → Int64} {A : Nat → Nat → Int32} {B : Nat → Nat → Int64} {x : Int32} : (wX cA ad F L A B).set 11 (ad 11, .inr (10, ([.ref (ad 12), .ref (ad 13), .ref (ad 14), .ref (ad 15), .ref (ad 16), .ref (ad 17), .int (F 15), .int (F 16), .int (F 17), .int (F 18), .int (F 19), .int (F 20)] : List Value).set 6 (.int x))) = wX cA ad (upd F 15 x) L A B := rfl
theorem setFX_16 {cA : Nat → ClassId} {ad : Nat → Nat} {F : Nat → Int32} {L : Nat → Int64} {A : Nat → Nat → Int32} {B : Nat → Nat → Int64} {x : Int32} : (wX cA ad F L A B).set 11 (ad 11, .inr (10, ([.ref (ad 12), .ref (ad 13), .ref (ad 14), .ref (ad 15), .ref (ad 16), .ref (ad 17), .int (F 15), .int (F 16), .int (F 17), .int (F 18), .int (F 19), .int (F 20)] : List Value).set 7 (.int x))) = wX cA ad (upd F 16 x) L A B := rfl
theorem setFX_17 {cA : Nat → ClassId} {ad : Nat → Nat} {F : Nat → Int32} {L : Nat → Int64} {A : Nat → Nat → Int32} {B : Nat → Nat → Int64} {x : Int32} : (wX cA ad F L A B).set 11 (ad 11, .inr (10, ([.ref (ad 12), .ref (ad 13), .ref (ad 14), .ref (ad 15), .ref (ad 16), .ref (ad 17), .int (F 15), .int (F 16), .int (F 17), .int (F 18), .int (F 19), .int (F 20)] : List Value).set 8 (.int x))) = wX cA ad (upd F 17 x) L A B := rfl
theorem setFX_18 {cA : Nat → ClassId} {ad : Nat → Nat} {F : Nat → Int32} {L : Nat → Int64} {A : Nat → Nat → Int32} {B : Nat → Nat → Int64} {x : Int32} : (wX cA ad F L A B).set 11 (ad 11, .inr (10, ([.ref (ad 12), .ref (ad 13), .ref (ad 14), .ref (ad 15), .ref (ad 16), .ref (ad 17), .int (F 15), .int (F 16), .int (F 17), .int (F 18), .int (F 19), .int (F 20)] : List Value).set 9 (.int x))) = wX cA ad (upd F 18 x) L A B := rfl
theorem setFX_19 {cA : Nat → ClassId} {ad : Nat → Nat} {F : Nat → Int32} {L : Nat → Int64} {A : Nat → Nat → Int32} {B : Nat → Nat → Int64} {x : Int32} : (wX cA ad F L A B).set 11 (ad 11, .inr (10, ([.ref (ad 12), .ref (ad 13), .ref (ad 14), .ref (ad 15), .ref (ad 16), .ref (ad 17), .int (F 15), .int (F 16), .int (F 17), .int (F 18), .int (F 19), .int (F 20)] : List Value).set 10 (.int x))) = wX cA ad (upd F 19 x) L A B := rfl
theorem setFX_20 {cA : Nat → ClassId} {ad : Nat → Nat} {F : Nat → Int32} {L : Nat → Int64} {A : Nat → Nat → Int32} {B : Nat → Nat → Int64} {x : Int32} : (wX cA ad F L A B).set 11 (ad 11, .inr (10, ([.ref (ad 12), .ref (ad 13), .ref (ad 14), .ref (ad 15), .ref (ad 16), .ref (ad 17), .int (F 15), .int (F 16), .int (F 17), .int (F 18), .int (F 19), .int (F 20)] : List Value).set 11 (.int x))) = wX cA ad (upd F 20 x) L A B := rfl
theorem setBX_12 {cA : Nat → ClassId} {ad : Nat → Nat} {F : Nat → Int32} {L : Nat → Int64} {A : Nat → Nat → Int32} {B : Nat → Nat → Int64} {g : Nat → Int64} : (wX cA ad F L A B).set 12 (ad 12, .inl (cA 12, 8, .inr (.inl g))) = wX cA ad F L A (va_up B 12 g) := rfl
theorem setBX_13 {cA : Nat → ClassId} {ad : Nat → Nat} {F : Nat → Int32} {L : Nat → Int64} {A : Nat → Nat → Int32} {B : Nat → Nat → Int64} {g : Nat → Int64} : (wX cA ad F L A B).set 13 (ad 13, .inl (cA 13, 10, .inr (.inl g))) = wX cA ad F L A (va_up B 13 g) := rfl
theorem setX_14 {cA : Nat → ClassId} {ad : Nat → Nat} {F : Nat → Int32} {L : Nat → Int64} {A : Nat → Nat → Int32} {B : Nat → Nat → Int64} {g : Nat → Int32} : (wX cA ad F L A B).set 14 (ad 14, .inl (cA 14, 8, .inl g)) = wX cA ad F L (va_up A 14 g) B := rfl
theorem setX_15 {cA : Nat → ClassId} {ad : Nat → Nat} {F : Nat → Int32} {L : Nat → Int64} {A : Nat → Nat → Int32} {B : Nat → Nat → Int64} {g : Nat → Int32} : (wX cA ad F L A B).set 15 (ad 15, .inl (cA 15, 8, .inl g)) = wX cA ad F L (va_up A 15 g) B := rfl
theorem setX_16 {cA : Nat → ClassId} {ad : Nat → Nat} {F : Nat → Int32} {L : Nat → Int64} {A : Nat → Nat → Int32} {B : Nat → Nat → Int64} {g : Nat → Int32} : (wX cA ad F L A B).set 16 (ad 16, .inl (cA 16, 8, .inl g)) = wX cA ad F L (va_up A 16 g) B := rfl
theorem setX_17 {cA : Nat → ClassId} {ad : Nat → Nat} {F : Nat → Int32} {L : Nat → Int64} {A : Nat → Nat → Int32} {B : Nat → Nat → Int64} {g : Nat → Int32} : (wX cA ad F L A B).set 17 (ad 17, .inl (cA 17, 80, .inl g)) = wX cA ad F L (va_up A 17 g) B := rfl
theorem setFX_21 {cA : Nat → ClassId} {ad : Nat → Nat} {F : Nat → Int32} {L : Nat → Int64} {A : Nat → Nat → Int32} {B : Nat → Nat → Int64} {x : Int32} : (wX cA ad F L A B).set 18 (ad 18, .inr (3, ([.ref (ad 19), .int (F 21), .int (F 22), .int (F 23)] : List Value).set 1 (.int x))) = wX cA ad (upd F 21 x) L A B := rfl
theorem setFX_22 {cA : Nat → ClassId} {ad : Nat → Nat} {F : Nat → Int32} {L : Nat → Int64} {A : Nat → Nat → Int32} {B : Nat → Nat → Int64} {x : Int32} : (wX cA ad F L A B).set 18 (ad 18, .inr (3, ([.ref (ad 19), .int (F 21), .int (F 22), .int (F 23)] : List Value).set 2 (.int x))) = wX cA ad (upd F 22 x) L A B := rfl
theorem setFX_23 {cA : Nat → ClassId} {ad : Nat → Nat} {F : Nat → Int32} {L : Nat → Int64} {A : Nat → Nat → Int32} {B : Nat → Nat → Int64} {x : Int32} : (wX cA ad F L A B).set 18 (ad 18, .inr (3, ([.ref (ad 19), .int (F 21), .int (F 22), .int (F 23)] : List Value).set 3 (.int x))) = wX cA ad (upd F 23 x) L A B := rfl
theorem setX_19 {cA : Nat → ClassId} {ad : Nat → Nat} {F : Nat → Int32} {L : Nat → Int64} {A : Nat → Nat → Int32} {B : Nat → Nat → Int64} {g : Nat → Int32} : (wX cA ad F L A B).set 19 (ad 19, .inl (cA 19, 80, .inl g)) = wX cA ad F L (va_up A 19 g) B := rfl
theorem setFX_24 {cA : Nat → ClassId} {ad : Nat → Nat} {F : Nat → Int32} {L : Nat → Int64} {A : Nat → Nat → Int32} {B : Nat → Nat → Int64} {x : Int32} : (wX cA ad F L A B).set 20 (ad 20, .inr (0, ([.ref (ad 21), .int (F 24), .int (F 25), .int (F 26)] : List Value).set 1 (.int x))) = wX cA ad (upd F 24 x) L A B := rfl
theorem setFX_25 {cA : Nat → ClassId} {ad : Nat → Nat} {F : Nat → Int32} {L : Nat → Int64} {A : Nat → Nat → Int32} {B : Nat → Nat → Int64} {x : Int32} : (wX cA ad F L A B).set 20 (ad 20, .inr (0, ([.ref (ad 21), .int (F 24), .int (F 25), .int (F 26)] : List Value).set 2 (.int x))) = wX cA ad (upd F 25 x) L A B := rfl
theorem setFX_26 {cA : Nat → ClassId} {ad : Nat → Nat} {F : Nat → Int32} {L : Nat → Int64} {A : Nat → Nat → Int32} {B : Nat → Nat → Int64} {x : Int32} : (wX cA ad F L A B).set 20 (ad 20, .inr (0, ([.ref (ad 21), .int (F 24), .int (F 25), .int (F 26)] : List Value).set 3 (.int x))) = wX cA ad (upd F 26 x) L A B := rfl
theorem setFX_27 {cA : Nat → ClassId} {ad : Nat → Nat} {F : Nat → Int32} {L : Nat → Int64} {A : Nat → Nat → Int32} {B : Nat → Nat → Int64} {x : Int32} : (wX cA ad F L A B).set 21 (ad 21, .inr (7, ([.int (F 27), .ref (ad 22), .ref (ad 23)] : List Value).set 0 (.int x))) = wX cA ad (upd F 27 x) L A B := rfl
theorem setX_22 {cA : Nat → ClassId} {ad : Nat → Nat} {F : Nat → Int32} {L : Nat → Int64} {A : Nat → Nat → Int32} {B : Nat → Nat → Int64} {g : Nat → Int32} : (wX cA ad F L A B).set 22 (ad 22, .inl (cA 22, 3280, .inl g)) = wX cA ad F L (va_up A 22 g) B := rfl
theorem setX_23 {cA : Nat → ClassId} {ad : Nat → Nat} {F : Nat → Int32} {L : Nat → Int64} {A : Nat → Nat → Int32} {B : Nat → Nat → Int64} {g : Nat → Int32} : (wX cA ad F L A B).set 23 (ad 23, .inl (cA 23, 41, .inl g)) = wX cA ad F L (va_up A 23 g) B := rfl
theorem setFX_28 {cA : Nat → ClassId} {ad : Nat → Nat} {F : Nat → Int32} {L : Nat → Int64} {A : Nat → Nat → Int32} {B : Nat → Nat → Int64} {x : Int32} : (wX cA ad F L A B).set 24 (ad 24, .inr (7, ([.int (F 28), .ref (ad 25), .ref (ad 26)] : List Value).set 0 (.int x))) = wX cA ad (upd F 28 x) L A B := rfl
theorem setX_25 {cA : Nat → ClassId} {ad : Nat → Nat} {F : Nat → Int32} {L : Nat → Int64} {A : Nat → Nat → Int32} {B : Nat → Nat → Int64} {g : Nat → Int32} : (wX cA ad F L A B).set 25 (ad 25, .inl (cA 25, 240, .inl g)) = wX cA ad F L (va_up A 25 g) B := rfl
theorem setX_26 {cA : Nat → ClassId} {ad : Nat → Nat} {F : Nat → Int32} {L : Nat → Int64} {A : Nat → Nat → Int32} {B : Nat → Nat → Int64} {g : Nat → Int32} : (wX cA ad F L A B).set 26 (ad 26, .inl (cA 26, 3, .inl g)) = wX cA ad F L (va_up A 26 g) B := rfl
theorem setFX_29 {cA : Nat → ClassId} {ad : Nat → Nat} {F : Nat → Int32} {L : Nat → Int64} {A : Nat → Nat → Int32} {B : Nat → Nat → Int64} {x : Int32} : (wX cA ad F L A B).set 27 (ad 27, .inr (2, ([.ref (ad 28), .ref (ad 29), .int (F 29), .int (F 30), .ref (ad 30), .ref (ad 31), .int (F 31), .int (F 32), .ref (ad 32), .ref (ad 33), .ref (ad 34), .ref (ad 40), .int (F 33), .int (F 34), .int (F 35)] : List Value).set 2 (.int x))) = wX cA ad (upd F 29 x) L A B := rfl
theorem setFX_30 {cA : Nat → ClassId} {ad : Nat → Nat} {F : Nat → Int32} {L : Nat → Int64} {A : Nat → Nat → Int32} {B : Nat → Nat → Int64} {x : Int32} : (wX cA ad F L A B).set 27 (ad 27, .inr (2, ([.ref (ad 28), .ref (ad 29), .int (F 29), .int (F 30), .ref (ad 30), .ref (ad 31), .int (F 31), .int (F 32), .ref (ad 32), .ref (ad 33), .ref (ad 34), .ref (ad 40), .int (F 33), .int (F 34), .int (F 35)] : List Value).set 3 (.int x))) = wX cA ad (upd F 30 x) L A B := rfl
theorem setFX_31 {cA : Nat → ClassId} {ad : Nat → Nat} {F : Nat → Int32} {L : Nat → Int64} {A : Nat → Nat → Int32} {B : Nat → Nat → Int64} {x : Int32} : (wX cA ad F L A B).set 27 (ad 27, .inr (2, ([.ref (ad 28), .ref (ad 29), .int (F 29), .int (F 30), .ref (ad 30), .ref (ad 31), .int (F 31), .int (F 32), .ref (ad 32), .ref (ad 33), .ref (ad 34), .ref (ad 40), .int (F 33), .int (F 34), .int (F 35)] : List Value).set 6 (.int x))) = wX cA ad (upd F 31 x) L A B := rfl
theorem setFX_32 {cA : Nat → ClassId} {ad : Nat → Nat} {F : Nat → Int32} {L : Nat → Int64} {A : Nat → Nat → Int32} {B : Nat → Nat → Int64} {x : Int32} : (wX cA ad F L A B).set 27 (ad 27, .inr (2, ([.ref (ad 28), .ref (ad 29), .int (F 29), .int (F 30), .ref (ad 30), .ref (ad 31), .int (F 31), .int (F 32), .ref (ad 32), .ref (ad 33), .ref (ad 34), .ref (ad 40), .int (F 33), .int (F 34), .int (F 35)] : List Value).set 7 (.int x))) = wX cA ad (upd F 32 x) L A B := rfl
theorem setFX_33 {cA : Nat → ClassId} {ad : Nat → Nat} {F : Nat → Int32} {L : Nat → Int64} {A : Nat → Nat → Int32} {B : Nat → Nat → Int64} {x : Int32} : (wX cA ad F L A B).set 27 (ad 27, .inr (2, ([.ref (ad 28), .ref (ad 29), .int (F 29), .int (F 30), .ref (ad 30), .ref (ad 31), .int (F 31), .int (F 32), .ref (ad 32), .ref (ad 33), .ref (ad 34), .ref (ad 40), .int (F 33), .int (F 34), .int (F 35)] : List Value).set 12 (.int x))) = wX cA ad (upd F 33 x) L A B := rfl
theorem setFX_34 {cA : Nat → ClassId} {ad : Nat → Nat} {F : Nat → Int32} {L : Nat → Int64} {A : Nat → Nat → Int32} {B : Nat → Nat → Int64} {x : Int32} : (wX cA ad F L A B).set 27 (ad 27, .inr (2, ([.ref (ad 28), .ref (ad 29), .int (F 29), .int (F 30), .ref (ad 30), .ref (ad 31), .int (F 31), .int (F 32), .ref (ad 32), .ref (ad 33), .ref (ad 34), .ref (ad 40), .int (F 33), .int (F 34), .int (F 35)] : List Value).set 13 (.int x))) = wX cA ad (upd F 34 x) L A B := rfl
theorem setFX_35 {cA : Nat → ClassId} {ad : Nat → Nat} {F : Nat → Int32} {L : Nat → Int64} {A : Nat → Nat → Int32} {B : Nat → Nat → Int64} {x : Int32} : (wX cA ad F L A B).set 27 (ad 27, .inr (2, ([.ref (ad 28), .ref (ad 29), .int (F 29), .int (F 30), .ref (ad 30), .ref (ad 31), .int (F 31), .int (F 32), .ref (ad 32), .ref (ad 33), .ref (ad 34), .ref (ad 40), .int (F 33), .int (F 34), .int (F 35)] : List Value).set 14 (.int x))) = wX cA ad (upd F 35 x) L A B := rfl
theorem setX_28 {cA : Nat → ClassId} {ad : Nat → Nat} {F : Nat → Int32} {L : Nat → Int64} {A : Nat → Nat → Int32} {B : Nat → Nat → Int64} {g : Nat → Int32} : (wX cA ad F L A B).set 28 (ad 28, .inl (cA 28, 80, .inl g)) = wX cA ad F L (va_up A 28 g) B := rfl
theorem setX_29 {cA : Nat → ClassId} {ad : Nat → Nat} {F : Nat → Int32} {L : Nat → Int64} {A : Nat → Nat → Int32} {B : Nat → Nat → Int64} {g : Nat → Int32} : (wX cA ad F L A B).set 29 (ad 29, .inl (cA 29, 8, .inl g)) = wX cA ad F L (va_up A 29 g) B := rfl
theorem setX_30 {cA : Nat → ClassId} {ad : Nat → Nat} {F : Nat → Int32} {L : Nat → Int64} {A : Nat → Nat → Int32} {B : Nat → Nat → Int64} {g : Nat → Int32} : (wX cA ad F L A B).set 30 (ad 30, .inl (cA 30, 100, .inl g)) = wX cA ad F L (va_up A 30 g) B := rfl
theorem setX_31 {cA : Nat → ClassId} {ad : Nat → Nat} {F : Nat → Int32} {L : Nat → Int64} {A : Nat → Nat → Int32} {B : Nat → Nat → Int64} {g : Nat → Int32} : (wX cA ad F L A B).set 31 (ad 31, .inl (cA 31, 800, .inl g)) = wX cA ad F L (va_up A 31 g) B := rfl
theorem setX_32 {cA : Nat → ClassId} {ad : Nat → Nat} {F : Nat → Int32} {L : Nat → Int64} {A : Nat → Nat → Int32} {B : Nat → Nat → Int64} {g : Nat → Int32} : (wX cA ad F L A B).set 32 (ad 32, .inl (cA 32, 8, .inl g)) = wX cA ad F L (va_up A 32 g) B := rfl
theorem setX_33 {cA : Nat → ClassId} {ad : Nat → Nat} {F : Nat → Int32} {L : Nat → Int64} {A : Nat → Nat → Int32} {B : Nat → Nat → Int64} {g : Nat → Int32} : (wX cA ad F L A B).set 33 (ad 33, .inl (cA 33, 10, .inl g)) = wX cA ad F L (va_up A 33 g) B := rfl
theorem setX_35 {cA : Nat → ClassId} {ad : Nat → Nat} {F : Nat → Int32} {L : Nat → Int64} {A : Nat → Nat → Int32} {B : Nat → Nat → Int64} {g : Nat → Int32} : (wX cA ad F L A B).set 35 (ad 35, .inl (cA 35, 10, .inl g)) = wX cA ad F L (va_up A 35 g) B := rfl
theorem setX_36 {cA : Nat → ClassId} {ad : Nat → Nat} {F : Nat → Int32} {L : Nat → Int64} {A : Nat → Nat → Int32} {B : Nat → Nat → Int64} {g : Nat → Int32} : (wX cA ad F L A B).set 36 (ad 36, .inl (cA 36, 10, .inl g)) = wX cA ad F L (va_up A 36 g) B := rfl
theorem setX_37 {cA : Nat → ClassId} {ad : Nat → Nat} {F : Nat → Int32} {L : Nat → Int64} {A : Nat → Nat → Int32} {B : Nat → Nat → Int64} {g : Nat → Int32} : (wX cA ad F L A B).set 37 (ad 37, .inl (cA 37, 10, .inl g)) = wX cA ad F L (va_up A 37 g) B := rfl
theorem setX_38 {cA : Nat → ClassId} {ad : Nat → Nat} {F : Nat → Int32} {L : Nat → Int64} {A : Nat → Nat → Int32} {B : Nat → Nat → Int64} {g : Nat → Int32} : (wX cA ad F L A B).set 38 (ad 38, .inl (cA 38, 10, .inl g)) = wX cA ad F L (va_up A 38 g) B := rfl
theorem setX_39 {cA : Nat → ClassId} {ad : Nat → Nat} {F : Nat → Int32} {L : Nat → Int64} {A : Nat → Nat → Int32} {B : Nat → Nat → Int64} {g : Nat → Int32} : (wX cA ad F L A B).set 39 (ad 39, .inl (cA 39, 11, .inl g)) = wX cA ad F L (va_up A 39 g) B := rfl
theorem setX_41 {cA : Nat → ClassId} {ad : Nat → Nat} {F : Nat → Int32} {L : Nat → Int64} {A : Nat → Nat → Int32} {B : Nat → Nat → Int64} {g : Nat → Int32} : (wX cA ad F L A B).set 41 (ad 41, .inl (cA 41, 10, .inl g)) = wX cA ad F L (va_up A 41 g) B := rfl
theorem setX_42 {cA : Nat → ClassId} {ad : Nat → Nat} {F : Nat → Int32} {L : Nat → Int64} {A : Nat → Nat → Int32} {B : Nat → Nat → Int64} {g : Nat → Int32} : (wX cA ad F L A B).set 42 (ad 42, .inl (cA 42, 10, .inl g)) = wX cA ad F L (va_up A 42 g) B := rfl
theorem setX_43 {cA : Nat → ClassId} {ad : Nat → Nat} {F : Nat → Int32} {L : Nat → Int64} {A : Nat → Nat → Int32} {B : Nat → Nat → Int64} {g : Nat → Int32} : (wX cA ad F L A B).set 43 (ad 43, .inl (cA 43, 10, .inl g)) = wX cA ad F L (va_up A 43 g) B := rfl
theorem setX_44 {cA : Nat → ClassId} {ad : Nat → Nat} {F : Nat → Int32} {L : Nat → Int64} {A : Nat → Nat → Int32} {B : Nat → Nat → Int64} {g : Nat → Int32} : (wX cA ad F L A B).set 44 (ad 44, .inl (cA 44, 10, .inl g)) = wX cA ad F L (va_up A 44 g) B := rfl
theorem setX_45 {cA : Nat → ClassId} {ad : Nat → Nat} {F : Nat → Int32} {L : Nat → Int64} {A : Nat → Nat → Int32} {B : Nat → Nat → Int64} {g : Nat → Int32} : (wX cA ad F L A B).set 45 (ad 45, .inl (cA 45, 11, .inl g)) = wX cA ad F L (va_up A 45 g) B := rfl
theorem setFX_36 {cA : Nat → ClassId} {ad : Nat → Nat} {F : Nat → Int32} {L : Nat → Int64} {A : Nat → Nat → Int32} {B : Nat → Nat → Int64} {x : Int32} : (wX cA ad F L A B).set 46 (ad 46, .inr (4, ([.ref (ad 47), .int (F 36), .ref (ad 48), .ref (ad 49), .ref (ad 50), .ref (ad 51), .ref (ad 52), .ref (ad 53), .ref (ad 54), .ref (ad 55), .int (F 37), .int (F 38)] : List Value).set 1 (.int x))) = wX cA ad (upd F 36 x) L A B := rfl
theorem setFX_37 {cA : Nat → ClassId} {ad : Nat → Nat} {F : Nat → Int32} {L : Nat → Int64} {A : Nat → Nat → Int32} {B : Nat → Nat → Int64} {x : Int32} : (wX cA ad F L A B).set 46 (ad 46, .inr (4, ([.ref (ad 47), .int (F 36), .ref (ad 48), .ref (ad 49), .ref (ad 50), .ref (ad 51), .ref (ad 52), .ref (ad 53), .ref (ad 54), .ref (ad 55), .int (F 37), .int (F 38)] : List Value).set 10 (.int x))) = wX cA ad (upd F 37 x) L A B := rfl
theorem setFX_38 {cA : Nat → ClassId} {ad : Nat → Nat} {F : Nat → Int32} {L : Nat → Int64} {A : Nat → Nat → Int32} {B : Nat → Nat → Int64} {x : Int32} : (wX cA ad F L A B).set 46 (ad 46, .inr (4, ([.ref (ad 47), .int (F 36), .ref (ad 48), .ref (ad 49), .ref (ad 50), .ref (ad 51), .ref (ad 52), .ref (ad 53), .ref (ad 54), .ref (ad 55), .int (F 37), .int (F 38)] : List Value).set 11 (.int x))) = wX cA ad (upd F 38 x) L A B := rfl
theorem setX_47 {cA : Nat → ClassId} {ad : Nat → Nat} {F : Nat → Int32} {L : Nat → Int64} {A : Nat → Nat → Int32} {B : Nat → Nat → Int64} {g : Nat → Int32} : (wX cA ad F L A B).set 47 (ad 47, .inl (cA 47, 720, .inl g)) = wX cA ad F L (va_up A 47 g) B := rfl
theorem setX_48 {cA : Nat → ClassId} {ad : Nat → Nat} {F : Nat → Int32} {L : Nat → Int64} {A : Nat → Nat → Int32} {B : Nat → Nat → Int64} {g : Nat → Int32} : (wX cA ad F L A B).set 48 (ad 48, .inl (cA 48, 80, .inl g)) = wX cA ad F L (va_up A 48 g) B := rfl
theorem setX_49 {cA : Nat → ClassId} {ad : Nat → Nat} {F : Nat → Int32} {L : Nat → Int64} {A : Nat → Nat → Int32} {B : Nat → Nat → Int64} {g : Nat → Int32} : (wX cA ad F L A B).set 49 (ad 49, .inl (cA 49, 8, .inl g)) = wX cA ad F L (va_up A 49 g) B := rfl
theorem setX_50 {cA : Nat → ClassId} {ad : Nat → Nat} {F : Nat → Int32} {L : Nat → Int64} {A : Nat → Nat → Int32} {B : Nat → Nat → Int64} {g : Nat → Int32} : (wX cA ad F L A B).set 50 (ad 50, .inl (cA 50, 8, .inl g)) = wX cA ad F L (va_up A 50 g) B := rfl
theorem setX_51 {cA : Nat → ClassId} {ad : Nat → Nat} {F : Nat → Int32} {L : Nat → Int64} {A : Nat → Nat → Int32} {B : Nat → Nat → Int64} {g : Nat → Int32} : (wX cA ad F L A B).set 51 (ad 51, .inl (cA 51, 20, .inl g)) = wX cA ad F L (va_up A 51 g) B := rfl
theorem setX_52 {cA : Nat → ClassId} {ad : Nat → Nat} {F : Nat → Int32} {L : Nat → Int64} {A : Nat → Nat → Int32} {B : Nat → Nat → Int64} {g : Nat → Int32} : (wX cA ad F L A B).set 52 (ad 52, .inl (cA 52, 20, .inl g)) = wX cA ad F L (va_up A 52 g) B := rfl
theorem setX_53 {cA : Nat → ClassId} {ad : Nat → Nat} {F : Nat → Int32} {L : Nat → Int64} {A : Nat → Nat → Int32} {B : Nat → Nat → Int64} {g : Nat → Int32} : (wX cA ad F L A B).set 53 (ad 53, .inl (cA 53, 20, .inl g)) = wX cA ad F L (va_up A 53 g) B := rfl
theorem setX_54 {cA : Nat → ClassId} {ad : Nat → Nat} {F : Nat → Int32} {L : Nat → Int64} {A : Nat → Nat → Int32} {B : Nat → Nat → Int64} {g : Nat → Int32} : (wX cA ad F L A B).set 54 (ad 54, .inl (cA 54, 20, .inl g)) = wX cA ad F L (va_up A 54 g) B := rfl
theorem setX_55 {cA : Nat → ClassId} {ad : Nat → Nat} {F : Nat → Int32} {L : Nat → Int64} {A : Nat → Nat → Int32} {B : Nat → Nat → Int64} {g : Nat → Int32} : (wX cA ad F L A B).set 55 (ad 55, .inl (cA 55, 20, .inl g)) = wX cA ad F L (va_up A 55 g) B := rfl
theorem setFX_39 {cA : Nat → ClassId} {ad : Nat → Nat} {F : Nat → Int32} {L : Nat → Int64} {A : Nat → Nat → Int32} {B : Nat → Nat → Int64} {x : Int32} : (wX cA ad F L A B).set 56 (ad 56, .inr (9, ([.ref (ad 57), .ref (ad 58), .ref (ad 59), .ref (ad 60), .int (F 39), .int (F 40), .int (F 41), .int (F 42)] : List Value).set 4 (.int x))) = wX cA ad (upd F 39 x) L A B := rfl
theorem setFX_40 {cA : Nat → ClassId} {ad : Nat → Nat} {F : Nat → Int32} {L : Nat → Int64} {A : Nat → Nat → Int32} {B : Nat → Nat → Int64} {x : Int32} : (wX cA ad F L A B).set 56 (ad 56, .inr (9, ([.ref (ad 57), .ref (ad 58), .ref (ad 59), .ref (ad 60), .int (F 39), .int (F 40), .int (F 41), .int (F 42)] : List Value).set 5 (.int x))) = wX cA ad (upd F 40 x) L A B := rfl
theorem setFX_41 {cA : Nat → ClassId} {ad : Nat → Nat} {F : Nat → Int32} {L : Nat → Int64} {A : Nat → Nat → Int32} {B : Nat → Nat → Int64} {x : Int32} : (wX cA ad F L A B).set 56 (ad 56, .inr (9, ([.ref (ad 57), .ref (ad 58), .ref (ad 59), .ref (ad 60), .int (F 39), .int (F 40), .int (F 41), .int (F 42)] : List Value).set 6 (.int x))) = wX cA ad (upd F 41 x) L A B := rfl
theorem setFX_42 {cA : Nat → ClassId} {ad : Nat → Nat} {F : Nat → Int32} {L : Nat → Int64} {A : Nat → Nat → Int32} {B : Nat → Nat → Int64} {x : Int32} : (wX cA ad F L A B).set 56 (ad 56, .inr (9, ([.ref (ad 57), .ref (ad 58), .ref (ad 59), .ref (ad 60), .int (F 39), .int (F 40), .int (F 41), .int (F 42)] : List Value).set 7 (.int x))) = wX cA ad (upd F 42 x) L A B := rfl
theorem setX_57 {cA : Nat → ClassId} {ad : Nat → Nat} {F : Nat → Int32} {L : Nat → Int64} {A : Nat → Nat → Int32} {B : Nat → Nat → Int64} {g : Nat → Int32} : (wX cA ad F L A B).set 57 (ad 57, .inl (cA 57, 12, .inl g)) = wX cA ad F L (va_up A 57 g) B := rfl
theorem setX_58 {cA : Nat → ClassId} {ad : Nat → Nat} {F : Nat → Int32} {L : Nat → Int64} {A : Nat → Nat → Int32} {B : Nat → Nat → Int64} {g : Nat → Int32} : (wX cA ad F L A B).set 58 (ad 58, .inl (cA 58, 12, .inl g)) = wX cA ad F L (va_up A 58 g) B := rfl
theorem setX_59 {cA : Nat → ClassId} {ad : Nat → Nat} {F : Nat → Int32} {L : Nat → Int64} {A : Nat → Nat → Int32} {B : Nat → Nat → Int64} {g : Nat → Int32} : (wX cA ad F L A B).set 59 (ad 59, .inl (cA 59, 120, .inl g)) = wX cA ad F L (va_up A 59 g) B := rfl
theorem setX_60 {cA : Nat → ClassId} {ad : Nat → Nat} {F : Nat → Int32} {L : Nat → Int64} {A : Nat → Nat → Int32} {B : Nat → Nat → Int64} {g : Nat → Int32} : (wX cA ad F L A B).set 60 (ad 60, .inl (cA 60, 80, .inl g)) = wX cA ad F L (va_up A 60 g) B := rfl
theorem setFX_43 {cA : Nat → ClassId} {ad : Nat → Nat} {F : Nat → Int32} {L : Nat → Int64} {A : Nat → Nat → Int32} {B : Nat → Nat → Int64} {x : Int32} : (wX cA ad F L A B).set 61 (ad 61, .inr (8, ([.ref (ad 62), .ref (ad 63), .ref (ad 64), .ref (ad 65), .ref (ad 66), .ref (ad 67), .ref (ad 68), .ref (ad 69), .int (F 43)] : List Value).set 8 (.int x))) = wX cA ad (upd F 43 x) L A B := rfl
theorem setX_62 {cA : Nat → ClassId} {ad : Nat → Nat} {F : Nat → Int32} {L : Nat → Int64} {A : Nat → Nat → Int32} {B : Nat → Nat → Int64} {g : Nat → Int32} : (wX cA ad F L A B).set 62 (ad 62, .inl (cA 62, 20, .inl g)) = wX cA ad F L (va_up A 62 g) B := rfl
theorem setX_63 {cA : Nat → ClassId} {ad : Nat → Nat} {F : Nat → Int32} {L : Nat → Int64} {A : Nat → Nat → Int32} {B : Nat → Nat → Int64} {g : Nat → Int32} : (wX cA ad F L A B).set 63 (ad 63, .inl (cA 63, 20, .inl g)) = wX cA ad F L (va_up A 63 g) B := rfl
theorem setX_64 {cA : Nat → ClassId} {ad : Nat → Nat} {F : Nat → Int32} {L : Nat → Int64} {A : Nat → Nat → Int32} {B : Nat → Nat → Int64} {g : Nat → Int32} : (wX cA ad F L A B).set 64 (ad 64, .inl (cA 64, 20, .inl g)) = wX cA ad F L (va_up A 64 g) B := rfl
theorem setX_65 {cA : Nat → ClassId} {ad : Nat → Nat} {F : Nat → Int32} {L : Nat → Int64} {A : Nat → Nat → Int32} {B : Nat → Nat → Int64} {g : Nat → Int32} : (wX cA ad F L A B).set 65 (ad 65, .inl (cA 65, 20, .inl g)) = wX cA ad F L (va_up A 65 g) B := rfl
theorem setX_66 {cA : Nat → ClassId} {ad : Nat → Nat} {F : Nat → Int32} {L : Nat → Int64} {A : Nat → Nat → Int32} {B : Nat → Nat → Int64} {g : Nat → Int32} : (wX cA ad F L A B).set 66 (ad 66, .inl (cA 66, 20, .inl g)) = wX cA ad F L (va_up A 66 g) B := rfl
theorem setX_67 {cA : Nat → ClassId} {ad : Nat → Nat} {F : Nat → Int32} {L : Nat → Int64} {A : Nat → Nat → Int32} {B : Nat → Nat → Int64} {g : Nat → Int32} : (wX cA ad F L A B).set 67 (ad 67, .inl (cA 67, 80, .inl g)) = wX cA ad F L (va_up A 67 g) B := rfl
theorem setX_68 {cA : Nat → ClassId} {ad : Nat → Nat} {F : Nat → Int32} {L : Nat → Int64} {A : Nat → Nat → Int32} {B : Nat → Nat → Int64} {g : Nat → Int32} : (wX cA ad F L A B).set 68 (ad 68, .inl (cA 68, 80, .inl g)) = wX cA ad F L (va_up A 68 g) B := rfl
theorem setBX_69 {cA : Nat → ClassId} {ad : Nat → Nat} {F : Nat → Int32} {L : Nat → Int64} {A : Nat → Nat → Int32} {B : Nat → Nat → Int64} {g : Nat → Int64} : (wX cA ad F L A B).set 69 (ad 69, .inl (cA 69, 80, .inr (.inl g))) = wX cA ad F L A (va_up B 69 g) := rfl
theorem setX_70 {cA : Nat → ClassId} {ad : Nat → Nat} {F : Nat → Int32} {L : Nat → Int64} {A : Nat → Nat → Int32} {B : Nat → Nat → Int64} {g : Nat → Int32} : (wX cA ad F L A B).set 70 (ad 70, .inl (cA 70, 8, .inl g)) = wX cA ad F L (va_up A 70 g) B := rfl
def fTX (k : Nat) : Int × Int := ([(0, 1700), (0, 100000), ((-2147483648), 2147483647), ((-2147483648), 2147483647), (0, 1700), (0, 1700), ((-2147483648), 2147483647), ((-2147483648), 2147483647), ((-2147483648), 2147483647), (0, 8), (0, 10), ((-2147483648), 2147483647), ((-2147483648), 2147483647), ((-2147483648), 2147483647), ((-2147483648), 2147483647), (0, 8), (0, 10), ((-2147483648), 2147483647), ((-2147483648), 2147483647), ((-2147483648), 2147483647), ((-2147483648), 2147483647), (0, 8), (0, 10), ((-2147483648), 2147483647), (0, 40), (0, 40), (0, 40), (41, 41), (3, 3), ((-2147483648), 2147483647), ((-2147483648), 2147483647), (0, 100), (0, 1), (0, 8), (0, 10), (0, 1023), ((-2147483648), 2147483647), (0, 8), (0, 10), (0, 12), ((-2147483648), 2147483647), ((-2147483648), 2147483647), ((-2147483648), 2147483647), (0, 20)] : List (Int × Int)).getD k (-2147483648, 2147483647)
def aTX (q : Nat) : Int × Int := ([((-2147483648), 2147483647), ((-2147483648), 2147483647), ((-2147483648), 2147483647), ((-2147483648), 2147483647), ((-2147483648), 2147483647), ((-2147483648), 2147483647), ((-2147483648), 2147483647), ((-2147483648), 2147483647), ((-2147483648), 2147483647), ((-2147483648), 2147483647), ((-2147483648), 2147483647), ((-2147483648), 2147483647), ((-2147483648), 2147483647), ((-2147483648), 2147483647), ((-2147483648), 2147483647), ((-2147483648), 2147483647), ((-2147483648), 2147483647), ((-2147483648), 2147483647), ((-2147483648), 2147483647), ((-2147483648), 2147483647), ((-2147483648), 2147483647), ((-2147483648), 2147483647), ((-2147483648), 2147483647), ((-2147483648), 2147483647), ((-2147483648), 2147483647), ((-2147483648), 2147483647), ((-2147483648), 2147483647), ((-2147483648), 2147483647), ((-2147483648), 2147483647), ((-1), 9), ((-2147483648), 2147483647), ((-2147483648), 2147483647), ((-2147483648), 2147483647), ((-2147483648), 2147483647), ((-2147483648), 2147483647), (0, 1023), ((-1), 9), ((-1), 9), (0, 9), (0, 9), ((-2147483648), 2147483647), (0, 1023), ((-1), 9), ((-1), 9), (0, 9), (0, 9), ((-2147483648), 2147483647), ((-2147483648), 2147483647), ((-2147483648), 2147483647), (0, 1023), (0, 1023), ((-2147483648), 2147483647), ((-2147483648), 2147483647), ((-2147483648), 2147483647), (0, 19), (0, 19), ((-2147483648), 2147483647), ((-2147483648), 2147483647), (0, 10), (0, 79), ((-2147483648), 2147483647), ((-2147483648), 2147483647), ((-2147483648), 2147483647), (0, 7), ((-1), 9), ((-2147483648), 2147483647), ((-2147483648), 2147483647), ((-2147483648), 2147483647), ((-2147483648), 2147483647), ((-2147483648), 2147483647), ((-2147483648), 2147483647)] : List (Int × Int)).getD q (-2147483648, 2147483647)
def typX (F : Nat → Int32) (A : Nat → Nat → Int32) : Prop := (∀ k, rg (F k) (fTX k).1 (fTX k).2) ∧ ∀ q j, rg (A q j) (aTX q).1 (aTX q).2
/-- typed still, and only the fields mf, the arrays ma may have changed -/
def qX (mf ma : List Nat) (F : Nat → Int32) (A : Nat → Nat → Int32) (F' : Nat → Int32) (A' : Nat → Nat → Int32) : Prop := typX F' A' ∧ (∀ k, k ∉ mf → F' k = F k) ∧ ∀ q, q ∉ ma → A' q = A q
theorem qX.rf {mf ma : List Nat} {F : Nat → Int32} {A : Nat → Nat → Int32} (h : typX F A) : qX mf ma F A F A := ⟨h, fun _ _ => rfl, fun _ _ => rfl⟩
theorem qX.put {mf ma : List Nat} {F F1 : Nat → Int32} {A A1 : Nat → Nat → Int32} (h : qX mf ma F A F1 A1) (k : Nat) {x : Int32} (hk : k ∈ mf) (hx : rg x (fTX k).1 (fTX k).2) : qX mf ma F A (upd F1 k x) A1 := by
  refine ⟨⟨fun j => ?_, h.1.2⟩, fun j hj => ?_, h.2.2⟩
  · show rg (if j = k then x else F1 j) _ _
    split
    · rename_i e; subst e; exact hx
    · exact h.1.1 j
  · show (if j = k then x else F1 j) = F j
    split
    · rename_i e; subst e; exact absurd hk hj
    · exact h.2.1 j hj
theorem qX.arr {mf ma : List Nat} {F F1 : Nat → Int32} {A A1 : Nat → Nat → Int32} (h : qX mf ma F A F1 A1) (q : Nat) {g : Nat → Int32} (hk : q ∈ ma) (hx : ∀ j, rg (g j) (aTX q).1 (aTX q).2) : qX mf ma F A F1 (va_up A1 q g) := by
  refine ⟨⟨h.1.1, fun j => ?_⟩, h.2.1, fun j hj => ?_⟩
  · show ∀ i, rg ((if j = q then g else A1 j) i) _ _
    split
    · rename_i e; subst e; exact hx
    · exact h.1.2 j
  · show (if j = q then g else A1 j) = A j
    split
    · rename_i e; subst e; exact absurd hk hj
    · exact h.2.2 j hj
theorem qX.ast {mf ma : List Nat} {F F1 : Nat → Int32} {A A1 : Nat → Nat → Int32} (h : qX mf ma F A F1 A1) (q n : Nat) {x : Int32} (hk : q ∈ ma) (hx : rg x (aTX q).1 (aTX q).2) : qX mf ma F A F1 (va_up A1 q (upd (A1 q) n x)) := by
  refine h.arr q hk (fun j => ?_)
  show rg (if j = n then x else A1 q j) _ _
  split
  · exact hx
  · exact h.1.2 q j
theorem qX.cpy {mf ma : List Nat} {F F1 : Nat → Int32} {A A1 : Nat → Nat → Int32} (h : qX mf ma F A F1 A1) (q q0 : Nat) {a b n : Nat} (hk : q ∈ ma) (ok : (decide ((aTX q).1 ≤ (aTX q0).1) && decide ((aTX q0).2 ≤ (aTX q).2)) = true) : qX mf ma F A F1 (va_up A1 q (va_cpy (A1 q0) (A1 q) a b n)) := by
  refine h.arr q hk (fun j => ?_)
  show rg (if b ≤ j ∧ j < b + n then A1 q0 (a + (j - b)) else A1 q j) _ _
  split
  · exact rg_w (h.1.2 q0 _) ok
  · exact h.1.2 q j
theorem qX.fill {mf ma : List Nat} {F F1 : Nat → Int32} {A A1 : Nat → Nat → Int32} (h : qX mf ma F A F1 A1) (q n : Nat) {x : Int32} (hk : q ∈ ma) (hx : rg x (aTX q).1 (aTX q).2) : qX mf ma F A F1 (va_up A1 q (fun j => if j < n then x else A1 q j)) := by
  refine h.arr q hk (fun j => ?_)
  show rg (if j < n then x else A1 q j) _ _
  split
  · exact hx
  · exact h.1.2 q j
theorem qX.call {mf ma mf' ma' : List Nat} {F F1 F2 : Nat → Int32} {A A1 A2 : Nat → Nat → Int32} (h : qX mf ma F A F1 A1) (h2 : qX mf' ma' F1 A1 F2 A2) (ok : (mf'.all (fun k => decide (k ∈ mf)) && ma'.all (fun k => decide (k ∈ ma))) = true) : qX mf ma F A F2 A2 := by
  simp only [Bool.and_eq_true, List.all_eq_true, decide_eq_true_eq] at ok
  exact ⟨h2.1, fun k hk => (h2.2.1 k (fun z => hk (ok.1 k z))).trans (h.2.1 k hk), fun k hk => (h2.2.2 k (fun z => hk (ok.2 k z))).trans (h.2.2 k hk)⟩
def adT (ad : Nat → Nat) : Nat → Nat := fun i => if i = 71 then ad 1 else ad i
theorem setTX {cA : Nat → ClassId} {ad : Nat → Nat} {F : Nat → Int32} {L : Nat → Int64} {A : Nat → Nat → Int32} {B : Nat → Nat → Int64} : (wX cA ad F L A B).set 3 (ad 3, .inr (5, ([.long (L 0), .long (L 1), .long (L 2), .long (L 3), .long (L 4), .long (L 5), .long (L 6), .ref (ad 71), .int (F 4), .int (F 5), .int (F 6), .int (F 7), .long (L 7), .int (F 8)] : List Value).set 7 (.ref (ad 1)))) = wX cA (adT ad) F L A B := rfl
/-- acts that can be undone and redone: 40 at most together -/
def xX (F : Nat → Int32) : Prop := 0 ≤ (F 25).toInt ∧ 0 ≤ (F 26).toInt ∧ (F 25).toInt + (F 26).toInt ≤ 40
theorem xX.fr {F G : Nat → Int32} (h : xX F) (h1 : G 25 = F 25) (h2 : G 26 = F 26) : xX G := by
  unfold xX at h ⊢
  rw [h1, h2]
  exact h
theorem xX.of {F : Nat → Int32} {a b : Int32} (h1 : F 25 = a) (h2 : F 26 = b) (h : 0 ≤ a.toInt ∧ 0 ≤ b.toInt ∧ a.toInt + b.toInt ≤ 40) : xX F := by
  unfold xX
  rw [h1, h2]
  exact h
theorem xX.u {F : Nat → Int32} {x z : Int32} {h9 : Int} (h : xX F) (ex : x = F 25) (rx : rg x 1 h9) (ez : z = F 26) : rg z 0 39 := by
  unfold xX at h
  rw [← ex, ← ez] at h
  have := rx.1
  unfold rg
  omega
theorem xX.d {F : Nat → Int32} {x z : Int32} {h9 : Int} (h : xX F) (ez : z = F 26) (rz : rg z 1 h9) (ex : x = F 25) : rg x 0 39 := by
  unfold xX at h
  rw [← ex, ← ez] at h
  have := rz.1
  unfold rg
  omega
theorem xX.tb {F : Nat → Int32} {x z y w : Int32} {h9 h8 : Int} (h : xX F) (ex : x = F 25) (ez : z = F 26) (ey : y = x - 1) (rx : rg x 1 h9) (ew : w = z + 1) (rz : rg z 0 h8) : 0 ≤ y.toInt ∧ 0 ≤ w.toInt ∧ y.toInt + w.toInt ≤ 40 := by
  unfold xX at h
  rw [← ex, ← ez] at h
  have q1 : (1 : Int32).toInt = 1 := rfl
  have := rx.1
  have q2 : y.toInt = x.toInt - 1 := by rw [ey, ti_sub (by omega) (by omega), q1]
  have q3 : w.toInt = z.toInt + 1 := by rw [ew, ti_add (by omega) (by omega), q1]
  omega
theorem xX.da {F : Nat → Int32} {x z y w : Int32} {h9 h8 : Int} (h : xX F) (ex : x = F 25) (ez : z = F 26) (ey : y = x + 1) (rx : rg x 0 h9) (ew : w = z - 1) (rz : rg z 1 h8) : 0 ≤ y.toInt ∧ 0 ≤ w.toInt ∧ y.toInt + w.toInt ≤ 40 := by
  unfold xX at h
  rw [← ex, ← ez] at h
  have q1 : (1 : Int32).toInt = 1 := rfl
  have := rx.1
  have := rz.1
  have q2 : y.toInt = x.toInt + 1 := by rw [ey, ti_add (by omega) (by omega), q1]
  have q3 : w.toInt = z.toInt - 1 := by rw [ew, ti_sub (by omega) (by omega), q1]
  omega
def wfX (cA : Nat → ClassId) (ad : Nat → Nat) (u : SW) : va_W := wX cA ad u.1 u.2.1 u.2.2.1 u.2.2.2
def wM (cA : Nat → ClassId) (ad : Nat → Nat) (F : Nat → Int32) (L : Nat → Int64) (A : Nat → Nat → Int32) (B : Nat → Nat → Int64) : va_W := [(ad 0, .inr (12, [.ref (ad 1), .ref (ad 2), .int (F 0), .int (F 1), .int (F 2), .int (F 3), .int (F 4), .int (F 5), .int (F 6), .int (F 7), .long (L 0), .ref (ad 3), .ref (ad 4), .ref (ad 5), .ref (ad 6), .ref (ad 7), .ref (ad 8), .ref (ad 9), .ref (ad 10), .ref (ad 11), .ref (ad 12), .ref (ad 13), .ref (ad 14), .ref (ad 15), .int (F 8), .int (F 9), .ref (ad 16), .ref (ad 17), .int (F 10), .ref (ad 18), .ref (ad 19), .ref (ad 20), .ref (ad 21), .ref (ad 22), .int (F 11), .ref (ad 23), .ref (ad 24), .ref (ad 25), .ref (ad 26), .int (F 12), .int (F 13), .ref (ad 27), .int (F 14), .int (F 15), .ref (ad 28), .ref (ad 29), .ref (ad 30), .int (F 16), .ref (ad 31), .ref (ad 32), .ref (ad 33), .ref (ad 34), .ref (ad 35), .int (F 17), .int (F 18), .ref (ad 36), .ref (ad 37)])),
  (ad 1, .inl (cA 1, 1720, .inl (A 1))),
  (ad 2, .inl (cA 2, 1700, .inl (A 2))),
  (ad 3, .inl (cA 3, 2, .inl (A 3))),
  (ad 4, .inl (cA 4, 2, .inl (A 4))),
  (ad 5, .inl (cA 5, 2, .inl (A 5))),
  (ad 6, .inl (cA 6, 2, .inl (A 6))),
  (ad 7, .inl (cA 7, 2, .inl (A 7))),
  (ad 8, .inl (cA 8, 16, .inl (A 8))),
  (ad 9, .inl (cA 9, 16, .inl (A 9))),
  (ad 10, .inl (cA 10, 160, .inl (A 10))),
  (ad 11, .inl (cA 11, 16, .inl (A 11))),
  (ad 12, .inl (cA 12, 160, .inl (A 12))),
  (ad 13, .inl (cA 13, 2, .inl (A 13))),
  (ad 14, .inl (cA 14, 16, .inr (.inl (B 14)))),
  (ad 15, .inl (cA 15, 20, .inr (.inl (B 15)))),
  (ad 16, .inl (cA 16, 80, .inl (A 16))),
  (ad 17, .inl (cA 17, 80, .inl (A 17))),
  (ad 18, .inl (cA 18, 8, .inl (A 18))),
  (ad 19, .inl (cA 19, 10, .inl (A 19))),
  (ad 20, .inl (cA 20, 1024, .inl (A 20))),
  (ad 21, .inl (cA 21, 240, .inl (A 21))),
  (ad 22, .inl (cA 22, 1920, .inl (A 22))),
  (ad 23, .inl (cA 23, 484, .inl (A 23))),
  (ad 24, .inl (cA 24, 22, .inl (A 24))),
  (ad 25, .inl (cA 25, 22, .inl (A 25))),
  (ad 26, .inl (cA 26, 80, .inl (A 26))),
  (ad 27, .inl (cA 27, 3321, .inl (A 27))),
  (ad 28, .inl (cA 28, 12, .inl (A 28))),
  (ad 29, .inl (cA 29, 12, .inl (A 29))),
  (ad 30, .inl (cA 30, 120, .inl (A 30))),
  (ad 31, .inl (cA 31, 20, .inl (A 31))),
  (ad 32, .inl (cA 32, 20, .inl (A 32))),
  (ad 33, .inl (cA 33, 20, .inl (A 33))),
  (ad 34, .inl (cA 34, 20, .inl (A 34))),
  (ad 35, .inl (cA 35, 20, .inl (A 35))),
  (ad 36, .inl (cA 36, 3, .inl (A 36))),
  (ad 37, .inl (cA 37, 240, .inl (A 37)))]
def tysM (cA : Nat → ClassId) : List (ClassId × FieldType) := [(cA 1, .byte), (cA 2, .byte), (cA 3, .int), (cA 4, .int), (cA 5, .int), (cA 6, .int), (cA 7, .int), (cA 8, .int), (cA 9, .int), (cA 10, .int), (cA 11, .boolean), (cA 12, .boolean), (cA 13, .boolean), (cA 14, .long), (cA 15, .long), (cA 16, .int), (cA 17, .int), (cA 18, .int), (cA 19, .int), (cA 20, .int), (cA 21, .int), (cA 22, .int), (cA 23, .int), (cA 24, .int), (cA 25, .int), (cA 26, .int), (cA 27, .int), (cA 28, .int), (cA 29, .int), (cA 30, .int), (cA 31, .int), (cA 32, .int), (cA 33, .int), (cA 34, .int), (cA 35, .int), (cA 36, .int), (cA 37, .int)]
theorem atM_0 {cA : Nat → ClassId} {ad : Nat → Nat} {F : Nat → Int32} {L : Nat → Int64} {A : Nat → Nat → Int32} {B : Nat → Nat → Int64} : (wM cA ad F L A B)[0]? = some (ad 0, .inr (12, [.ref (ad 1), .ref (ad 2), .int (F 0), .int (F 1), .int (F 2), .int (F 3), .int (F 4), .int (F 5), .int (F 6), .int (F 7), .long (L 0), .ref (ad 3), .ref (ad 4), .ref (ad 5), .ref (ad 6), .ref (ad 7), .ref (ad 8), .ref (ad 9), .ref (ad 10), .ref (ad 11), .ref (ad 12), .ref (ad 13), .ref (ad 14), .ref (ad 15), .int (F 8), .int (F 9), .ref (ad 16), .ref (ad 17), .int (F 10), .ref (ad 18), .ref (ad 19), .ref (ad 20), .ref (ad 21), .ref (ad 22), .int (F 11), .ref (ad 23), .ref (ad 24), .ref (ad 25), .ref (ad 26), .int (F 12), .int (F 13), .ref (ad 27), .int (F 14), .int (F 15), .ref (ad 28), .ref (ad 29), .ref (ad 30), .int (F 16), .ref (ad 31), .ref (ad 32), .ref (ad 33), .ref (ad 34), .ref (ad 35), .int (F 17), .int (F 18), .ref (ad 36), .ref (ad 37)])) := rfl
theorem atM_1 {cA : Nat → ClassId} {ad : Nat → Nat} {F : Nat → Int32} {L : Nat → Int64} {A : Nat → Nat → Int32} {B : Nat → Nat → Int64} : (wM cA ad F L A B)[1]? = some (ad 1, .inl (cA 1, 1720, .inl (A 1))) := rfl
theorem atM_2 {cA : Nat → ClassId} {ad : Nat → Nat} {F : Nat → Int32} {L : Nat → Int64} {A : Nat → Nat → Int32} {B : Nat → Nat → Int64} : (wM cA ad F L A B)[2]? = some (ad 2, .inl (cA 2, 1700, .inl (A 2))) := rfl
theorem atM_3 {cA : Nat → ClassId} {ad : Nat → Nat} {F : Nat → Int32} {L : Nat → Int64} {A : Nat → Nat → Int32} {B : Nat → Nat → Int64} : (wM cA ad F L A B)[3]? = some (ad 3, .inl (cA 3, 2, .inl (A 3))) := rfl
theorem atM_4 {cA : Nat → ClassId} {ad : Nat → Nat} {F : Nat → Int32} {L : Nat → Int64} {A : Nat → Nat → Int32} {B : Nat → Nat → Int64} : (wM cA ad F L A B)[4]? = some (ad 4, .inl (cA 4, 2, .inl (A 4))) := rfl
theorem atM_5 {cA : Nat → ClassId} {ad : Nat → Nat} {F : Nat → Int32} {L : Nat → Int64} {A : Nat → Nat → Int32} {B : Nat → Nat → Int64} : (wM cA ad F L A B)[5]? = some (ad 5, .inl (cA 5, 2, .inl (A 5))) := rfl
theorem atM_6 {cA : Nat → ClassId} {ad : Nat → Nat} {F : Nat → Int32} {L : Nat → Int64} {A : Nat → Nat → Int32} {B : Nat → Nat → Int64} : (wM cA ad F L A B)[6]? = some (ad 6, .inl (cA 6, 2, .inl (A 6))) := rfl
theorem atM_7 {cA : Nat → ClassId} {ad : Nat → Nat} {F : Nat → Int32} {L : Nat → Int64} {A : Nat → Nat → Int32} {B : Nat → Nat → Int64} : (wM cA ad F L A B)[7]? = some (ad 7, .inl (cA 7, 2, .inl (A 7))) := rfl
theorem atM_8 {cA : Nat → ClassId} {ad : Nat → Nat} {F : Nat → Int32} {L : Nat → Int64} {A : Nat → Nat → Int32} {B : Nat → Nat → Int64} : (wM cA ad F L A B)[8]? = some (ad 8, .inl (cA 8, 16, .inl (A 8))) := rfl
theorem atM_9 {cA : Nat → ClassId} {ad : Nat → Nat} {F : Nat → Int32} {L : Nat → Int64} {A : Nat → Nat → Int32} {B : Nat → Nat → Int64} : (wM cA ad F L A B)[9]? = some (ad 9, .inl (cA 9, 16, .inl (A 9))) := rfl
theorem atM_10 {cA : Nat → ClassId} {ad : Nat → Nat} {F : Nat → Int32} {L : Nat → Int64} {A : Nat → Nat → Int32} {B : Nat → Nat → Int64} : (wM cA ad F L A B)[10]? = some (ad 10, .inl (cA 10, 160, .inl (A 10))) := rfl
theorem atM_11 {cA : Nat → ClassId} {ad : Nat → Nat} {F : Nat → Int32} {L : Nat → Int64} {A : Nat → Nat → Int32} {B : Nat → Nat → Int64} : (wM cA ad F L A B)[11]? = some (ad 11, .inl (cA 11, 16, .inl (A 11))) := rfl
theorem atM_12 {cA : Nat → ClassId} {ad : Nat → Nat} {F : Nat → Int32} {L : Nat → Int64} {A : Nat → Nat → Int32} {B : Nat → Nat → Int64} : (wM cA ad F L A B)[12]? = some (ad 12, .inl (cA 12, 160, .inl (A 12))) := rfl
theorem atM_13 {cA : Nat → ClassId} {ad : Nat → Nat} {F : Nat → Int32} {L : Nat → Int64} {A : Nat → Nat → Int32} {B : Nat → Nat → Int64} : (wM cA ad F L A B)[13]? = some (ad 13, .inl (cA 13, 2, .inl (A 13))) := rfl
theorem atM_14 {cA : Nat → ClassId} {ad : Nat → Nat} {F : Nat → Int32} {L : Nat → Int64} {A : Nat → Nat → Int32} {B : Nat → Nat → Int64} : (wM cA ad F L A B)[14]? = some (ad 14, .inl (cA 14, 16, .inr (.inl (B 14)))) := rfl
theorem atM_15 {cA : Nat → ClassId} {ad : Nat → Nat} {F : Nat → Int32} {L : Nat → Int64} {A : Nat → Nat → Int32} {B : Nat → Nat → Int64} : (wM cA ad F L A B)[15]? = some (ad 15, .inl (cA 15, 20, .inr (.inl (B 15)))) := rfl
theorem atM_16 {cA : Nat → ClassId} {ad : Nat → Nat} {F : Nat → Int32} {L : Nat → Int64} {A : Nat → Nat → Int32} {B : Nat → Nat → Int64} : (wM cA ad F L A B)[16]? = some (ad 16, .inl (cA 16, 80, .inl (A 16))) := rfl
theorem atM_17 {cA : Nat → ClassId} {ad : Nat → Nat} {F : Nat → Int32} {L : Nat → Int64} {A : Nat → Nat → Int32} {B : Nat → Nat → Int64} : (wM cA ad F L A B)[17]? = some (ad 17, .inl (cA 17, 80, .inl (A 17))) := rfl
theorem atM_18 {cA : Nat → ClassId} {ad : Nat → Nat} {F : Nat → Int32} {L : Nat → Int64} {A : Nat → Nat → Int32} {B : Nat → Nat → Int64} : (wM cA ad F L A B)[18]? = some (ad 18, .inl (cA 18, 8, .inl (A 18))) := rfl
theorem atM_19 {cA : Nat → ClassId} {ad : Nat → Nat} {F : Nat → Int32} {L : Nat → Int64} {A : Nat → Nat → Int32} {B : Nat → Nat → Int64} : (wM cA ad F L A B)[19]? = some (ad 19, .inl (cA 19, 10, .inl (A 19))) := rfl
theorem atM_20 {cA : Nat → ClassId} {ad : Nat → Nat} {F : Nat → Int32} {L : Nat → Int64} {A : Nat → Nat → Int32} {B : Nat → Nat → Int64} : (wM cA ad F L A B)[20]? = some (ad 20, .inl (cA 20, 1024, .inl (A 20))) := rfl
theorem atM_21 {cA : Nat → ClassId} {ad : Nat → Nat} {F : Nat → Int32} {L : Nat → Int64} {A : Nat → Nat → Int32} {B : Nat → Nat → Int64} : (wM cA ad F L A B)[21]? = some (ad 21, .inl (cA 21, 240, .inl (A 21))) := rfl
theorem atM_22 {cA : Nat → ClassId} {ad : Nat → Nat} {F : Nat → Int32} {L : Nat → Int64} {A : Nat → Nat → Int32} {B : Nat → Nat → Int64} : (wM cA ad F L A B)[22]? = some (ad 22, .inl (cA 22, 1920, .inl (A 22))) := rfl
theorem atM_23 {cA : Nat → ClassId} {ad : Nat → Nat} {F : Nat → Int32} {L : Nat → Int64} {A : Nat → Nat → Int32} {B : Nat → Nat → Int64} : (wM cA ad F L A B)[23]? = some (ad 23, .inl (cA 23, 484, .inl (A 23))) := rfl
theorem atM_24 {cA : Nat → ClassId} {ad : Nat → Nat} {F : Nat → Int32} {L : Nat → Int64} {A : Nat → Nat → Int32} {B : Nat → Nat → Int64} : (wM cA ad F L A B)[24]? = some (ad 24, .inl (cA 24, 22, .inl (A 24))) := rfl
theorem atM_25 {cA : Nat → ClassId} {ad : Nat → Nat} {F : Nat → Int32} {L : Nat → Int64} {A : Nat → Nat → Int32} {B : Nat → Nat → Int64} : (wM cA ad F L A B)[25]? = some (ad 25, .inl (cA 25, 22, .inl (A 25))) := rfl
theorem atM_26 {cA : Nat → ClassId} {ad : Nat → Nat} {F : Nat → Int32} {L : Nat → Int64} {A : Nat → Nat → Int32} {B : Nat → Nat → Int64} : (wM cA ad F L A B)[26]? = some (ad 26, .inl (cA 26, 80, .inl (A 26))) := rfl
theorem atM_27 {cA : Nat → ClassId} {ad : Nat → Nat} {F : Nat → Int32} {L : Nat → Int64} {A : Nat → Nat → Int32} {B : Nat → Nat → Int64} : (wM cA ad F L A B)[27]? = some (ad 27, .inl (cA 27, 3321, .inl (A 27))) := rfl
theorem atM_28 {cA : Nat → ClassId} {ad : Nat → Nat} {F : Nat → Int32} {L : Nat → Int64} {A : Nat → Nat → Int32} {B : Nat → Nat → Int64} : (wM cA ad F L A B)[28]? = some (ad 28, .inl (cA 28, 12, .inl (A 28))) := rfl
theorem atM_29 {cA : Nat → ClassId} {ad : Nat → Nat} {F : Nat → Int32} {L : Nat → Int64} {A : Nat → Nat → Int32} {B : Nat → Nat → Int64} : (wM cA ad F L A B)[29]? = some (ad 29, .inl (cA 29, 12, .inl (A 29))) := rfl
theorem atM_30 {cA : Nat → ClassId} {ad : Nat → Nat} {F : Nat → Int32} {L : Nat → Int64} {A : Nat → Nat → Int32} {B : Nat → Nat → Int64} : (wM cA ad F L A B)[30]? = some (ad 30, .inl (cA 30, 120, .inl (A 30))) := rfl
theorem atM_31 {cA : Nat → ClassId} {ad : Nat → Nat} {F : Nat → Int32} {L : Nat → Int64} {A : Nat → Nat → Int32} {B : Nat → Nat → Int64} : (wM cA ad F L A B)[31]? = some (ad 31, .inl (cA 31, 20, .inl (A 31))) := rfl
theorem atM_32 {cA : Nat → ClassId} {ad : Nat → Nat} {F : Nat → Int32} {L : Nat → Int64} {A : Nat → Nat → Int32} {B : Nat → Nat → Int64} : (wM cA ad F L A B)[32]? = some (ad 32, .inl (cA 32, 20, .inl (A 32))) := rfl
theorem atM_33 {cA : Nat → ClassId} {ad : Nat → Nat} {F : Nat → Int32} {L : Nat → Int64} {A : Nat → Nat → Int32} {B : Nat → Nat → Int64} : (wM cA ad F L A B)[33]? = some (ad 33, .inl (cA 33, 20, .inl (A 33))) := rfl
theorem atM_34 {cA : Nat → ClassId} {ad : Nat → Nat} {F : Nat → Int32} {L : Nat → Int64} {A : Nat → Nat → Int32} {B : Nat → Nat → Int64} : (wM cA ad F L A B)[34]? = some (ad 34, .inl (cA 34, 20, .inl (A 34))) := rfl
theorem atM_35 {cA : Nat → ClassId} {ad : Nat → Nat} {F : Nat → Int32} {L : Nat → Int64} {A : Nat → Nat → Int32} {B : Nat → Nat → Int64} : (wM cA ad F L A B)[35]? = some (ad 35, .inl (cA 35, 20, .inl (A 35))) := rfl
theorem atM_36 {cA : Nat → ClassId} {ad : Nat → Nat} {F : Nat → Int32} {L : Nat → Int64} {A : Nat → Nat → Int32} {B : Nat → Nat → Int64} : (wM cA ad F L A B)[36]? = some (ad 36, .inl (cA 36, 3, .inl (A 36))) := rfl
theorem atM_37 {cA : Nat → ClassId} {ad : Nat → Nat} {F : Nat → Int32} {L : Nat → Int64} {A : Nat → Nat → Int32} {B : Nat → Nat → Int64} : (wM cA ad F L A B)[37]? = some (ad 37, .inl (cA 37, 240, .inl (A 37))) := rfl
theorem tyM_1 {cA : Nat → ClassId} : (tysM cA)[0]? = some (cA 1, .byte) := rfl
theorem tyM_2 {cA : Nat → ClassId} : (tysM cA)[1]? = some (cA 2, .byte) := rfl
theorem tyM_3 {cA : Nat → ClassId} : (tysM cA)[2]? = some (cA 3, .int) := rfl
theorem tyM_4 {cA : Nat → ClassId} : (tysM cA)[3]? = some (cA 4, .int) := rfl
theorem tyM_5 {cA : Nat → ClassId} : (tysM cA)[4]? = some (cA 5, .int) := rfl
theorem tyM_6 {cA : Nat → ClassId} : (tysM cA)[5]? = some (cA 6, .int) := rfl
theorem tyM_7 {cA : Nat → ClassId} : (tysM cA)[6]? = some (cA 7, .int) := rfl
theorem tyM_8 {cA : Nat → ClassId} : (tysM cA)[7]? = some (cA 8, .int) := rfl
theorem tyM_9 {cA : Nat → ClassId} : (tysM cA)[8]? = some (cA 9, .int) := rfl
theorem tyM_10 {cA : Nat → ClassId} : (tysM cA)[9]? = some (cA 10, .int) := rfl
theorem tyM_11 {cA : Nat → ClassId} : (tysM cA)[10]? = some (cA 11, .boolean) := rfl
theorem tyM_12 {cA : Nat → ClassId} : (tysM cA)[11]? = some (cA 12, .boolean) := rfl
theorem tyM_13 {cA : Nat → ClassId} : (tysM cA)[12]? = some (cA 13, .boolean) := rfl
theorem tyM_14 {cA : Nat → ClassId} : (tysM cA)[13]? = some (cA 14, .long) := rfl
theorem tyM_15 {cA : Nat → ClassId} : (tysM cA)[14]? = some (cA 15, .long) := rfl
theorem tyM_16 {cA : Nat → ClassId} : (tysM cA)[15]? = some (cA 16, .int) := rfl
theorem tyM_17 {cA : Nat → ClassId} : (tysM cA)[16]? = some (cA 17, .int) := rfl
theorem tyM_18 {cA : Nat → ClassId} : (tysM cA)[17]? = some (cA 18, .int) := rfl
theorem tyM_19 {cA : Nat → ClassId} : (tysM cA)[18]? = some (cA 19, .int) := rfl
theorem tyM_20 {cA : Nat → ClassId} : (tysM cA)[19]? = some (cA 20, .int) := rfl
theorem tyM_21 {cA : Nat → ClassId} : (tysM cA)[20]? = some (cA 21, .int) := rfl
theorem tyM_22 {cA : Nat → ClassId} : (tysM cA)[21]? = some (cA 22, .int) := rfl
theorem tyM_23 {cA : Nat → ClassId} : (tysM cA)[22]? = some (cA 23, .int) := rfl
theorem tyM_24 {cA : Nat → ClassId} : (tysM cA)[23]? = some (cA 24, .int) := rfl
theorem tyM_25 {cA : Nat → ClassId} : (tysM cA)[24]? = some (cA 25, .int) := rfl
theorem tyM_26 {cA : Nat → ClassId} : (tysM cA)[25]? = some (cA 26, .int) := rfl
theorem tyM_27 {cA : Nat → ClassId} : (tysM cA)[26]? = some (cA 27, .int) := rfl
theorem tyM_28 {cA : Nat → ClassId} : (tysM cA)[27]? = some (cA 28, .int) := rfl
theorem tyM_29 {cA : Nat → ClassId} : (tysM cA)[28]? = some (cA 29, .int) := rfl
theorem tyM_30 {cA : Nat → ClassId} : (tysM cA)[29]? = some (cA 30, .int) := rfl
theorem tyM_31 {cA : Nat → ClassId} : (tysM cA)[30]? = some (cA 31, .int) := rfl
theorem tyM_32 {cA : Nat → ClassId} : (tysM cA)[31]? = some (cA 32, .int) := rfl
theorem tyM_33 {cA : Nat → ClassId} : (tysM cA)[32]? = some (cA 33, .int) := rfl
theorem tyM_34 {cA : Nat → ClassId} : (tysM cA)[33]? = some (cA 34, .int) := rfl
theorem tyM_35 {cA : Nat → ClassId} : (tysM cA)[34]? = some (cA 35, .int) := rfl
theorem tyM_36 {cA : Nat → ClassId} : (tysM cA)[35]? = some (cA 36, .int) := rfl
theorem tyM_37 {cA : Nat → ClassId} : (tysM cA)[36]? = some (cA 37, .int) := rfl
theorem setFM_0 {cA : Nat → ClassId} {ad : Nat → Nat} {F : Nat → Int32} {L : Nat → Int64} {A : Nat → Nat → Int32} {B : Nat → Nat → Int64} {x : Int32} : (wM cA ad F L A B).set 0 (ad 0, .inr (12, ([.ref (ad 1), .ref (ad 2), .int (F 0), .int (F 1), .int (F 2), .int (F 3), .int (F 4), .int (F 5), .int (F 6), .int (F 7), .long (L 0), .ref (ad 3), .ref (ad 4), .ref (ad 5), .ref (ad 6), .ref (ad 7), .ref (ad 8), .ref (ad 9), .ref (ad 10), .ref (ad 11), .ref (ad 12), .ref (ad 13), .ref (ad 14), .ref (ad 15), .int (F 8), .int (F 9), .ref (ad 16), .ref (ad 17), .int (F 10), .ref (ad 18), .ref (ad 19), .ref (ad 20), .ref (ad 21), .ref (ad 22), .int (F 11), .ref (ad 23), .ref (ad 24), .ref (ad 25), .ref (ad 26), .int (F 12), .int (F 13), .ref (ad 27), .int (F 14), .int (F 15), .ref (ad 28), .ref (ad 29), .ref (ad 30), .int (F 16), .ref (ad 31), .ref (ad 32), .ref (ad 33), .ref (ad 34), .ref (ad 35), .int (F 17), .int (F 18), .ref (ad 36), .ref (ad 37)] : List Value).set 2 (.int x))) = wM cA ad (upd F 0 x) L A B := rfl
theorem setFM_1 {cA : Nat → ClassId} {ad : Nat → Nat} {F : Nat → Int32} {L : Nat → Int64} {A : Nat → Nat → Int32} {B : Nat → Nat → Int64} {x : Int32} : (wM cA ad F L A B).set 0 (ad 0, .inr (12, ([.ref (ad 1), .ref (ad 2), .int (F 0), .int (F 1), .int (F 2), .int (F 3), .int (F 4), .int (F 5), .int (F 6), .int (F 7), .long (L 0), .ref (ad 3), .ref (ad 4), .ref (ad 5), .ref (ad 6), .ref (ad 7), .ref (ad 8), .ref (ad 9), .ref (ad 10), .ref (ad 11), .ref (ad 12), .ref (ad 13), .ref (ad 14), .ref (ad 15), .int (F 8), .int (F 9), .ref (ad 16), .ref (ad 17), .int (F 10), .ref (ad 18), .ref (ad 19), .ref (ad 20), .ref (ad 21), .ref (ad 22), .int (F 11), .ref (ad 23), .ref (ad 24), .ref (ad 25), .ref (ad 26), .int (F 12), .int (F 13), .ref (ad 27), .int (F 14), .int (F 15), .ref (ad 28), .ref (ad 29), .ref (ad 30), .int (F 16), .ref (ad 31), .ref (ad 32), .ref (ad 33), .ref (ad 34), .ref (ad 35), .int (F 17), .int (F 18), .ref (ad 36), .ref (ad 37)] : List Value).set 3 (.int x))) = wM cA ad (upd F 1 x) L A B := rfl
theorem setFM_2 {cA : Nat → ClassId} {ad : Nat → Nat} {F : Nat → Int32} {L : Nat → Int64} {A : Nat → Nat → Int32} {B : Nat → Nat → Int64} {x : Int32} : (wM cA ad F L A B).set 0 (ad 0, .inr (12, ([.ref (ad 1), .ref (ad 2), .int (F 0), .int (F 1), .int (F 2), .int (F 3), .int (F 4), .int (F 5), .int (F 6), .int (F 7), .long (L 0), .ref (ad 3), .ref (ad 4), .ref (ad 5), .ref (ad 6), .ref (ad 7), .ref (ad 8), .ref (ad 9), .ref (ad 10), .ref (ad 11), .ref (ad 12), .ref (ad 13), .ref (ad 14), .ref (ad 15), .int (F 8), .int (F 9), .ref (ad 16), .ref (ad 17), .int (F 10), .ref (ad 18), .ref (ad 19), .ref (ad 20), .ref (ad 21), .ref (ad 22), .int (F 11), .ref (ad 23), .ref (ad 24), .ref (ad 25), .ref (ad 26), .int (F 12), .int (F 13), .ref (ad 27), .int (F 14), .int (F 15), .ref (ad 28), .ref (ad 29), .ref (ad 30), .int (F 16), .ref (ad 31), .ref (ad 32), .ref (ad 33), .ref (ad 34), .ref (ad 35), .int (F 17), .int (F 18), .ref (ad 36), .ref (ad 37)] : List Value).set 4 (.int x))) = wM cA ad (upd F 2 x) L A B := rfl
theorem setFM_3 {cA : Nat → ClassId} {ad : Nat → Nat} {F : Nat → Int32} {L : Nat → Int64} {A : Nat → Nat → Int32} {B : Nat → Nat → Int64} {x : Int32} : (wM cA ad F L A B).set 0 (ad 0, .inr (12, ([.ref (ad 1), .ref (ad 2), .int (F 0), .int (F 1), .int (F 2), .int (F 3), .int (F 4), .int (F 5), .int (F 6), .int (F 7), .long (L 0), .ref (ad 3), .ref (ad 4), .ref (ad 5), .ref (ad 6), .ref (ad 7), .ref (ad 8), .ref (ad 9), .ref (ad 10), .ref (ad 11), .ref (ad 12), .ref (ad 13), .ref (ad 14), .ref (ad 15), .int (F 8), .int (F 9), .ref (ad 16), .ref (ad 17), .int (F 10), .ref (ad 18), .ref (ad 19), .ref (ad 20), .ref (ad 21), .ref (ad 22), .int (F 11), .ref (ad 23), .ref (ad 24), .ref (ad 25), .ref (ad 26), .int (F 12), .int (F 13), .ref (ad 27), .int (F 14), .int (F 15), .ref (ad 28), .ref (ad 29), .ref (ad 30), .int (F 16), .ref (ad 31), .ref (ad 32), .ref (ad 33), .ref (ad 34), .ref (ad 35), .int (F 17), .int (F 18), .ref (ad 36), .ref (ad 37)] : List Value).set 5 (.int x))) = wM cA ad (upd F 3 x) L A B := rfl
theorem setFM_4 {cA : Nat → ClassId} {ad : Nat → Nat} {F : Nat → Int32} {L : Nat → Int64} {A : Nat → Nat → Int32} {B : Nat → Nat → Int64} {x : Int32} : (wM cA ad F L A B).set 0 (ad 0, .inr (12, ([.ref (ad 1), .ref (ad 2), .int (F 0), .int (F 1), .int (F 2), .int (F 3), .int (F 4), .int (F 5), .int (F 6), .int (F 7), .long (L 0), .ref (ad 3), .ref (ad 4), .ref (ad 5), .ref (ad 6), .ref (ad 7), .ref (ad 8), .ref (ad 9), .ref (ad 10), .ref (ad 11), .ref (ad 12), .ref (ad 13), .ref (ad 14), .ref (ad 15), .int (F 8), .int (F 9), .ref (ad 16), .ref (ad 17), .int (F 10), .ref (ad 18), .ref (ad 19), .ref (ad 20), .ref (ad 21), .ref (ad 22), .int (F 11), .ref (ad 23), .ref (ad 24), .ref (ad 25), .ref (ad 26), .int (F 12), .int (F 13), .ref (ad 27), .int (F 14), .int (F 15), .ref (ad 28), .ref (ad 29), .ref (ad 30), .int (F 16), .ref (ad 31), .ref (ad 32), .ref (ad 33), .ref (ad 34), .ref (ad 35), .int (F 17), .int (F 18), .ref (ad 36), .ref (ad 37)] : List Value).set 6 (.int x))) = wM cA ad (upd F 4 x) L A B := rfl
theorem setFM_5 {cA : Nat → ClassId} {ad : Nat → Nat} {F : Nat → Int32} {L : Nat → Int64} {A : Nat → Nat → Int32} {B : Nat → Nat → Int64} {x : Int32} : (wM cA ad F L A B).set 0 (ad 0, .inr (12, ([.ref (ad 1), .ref (ad 2), .int (F 0), .int (F 1), .int (F 2), .int (F 3), .int (F 4), .int (F 5), .int (F 6), .int (F 7), .long (L 0), .ref (ad 3), .ref (ad 4), .ref (ad 5), .ref (ad 6), .ref (ad 7), .ref (ad 8), .ref (ad 9), .ref (ad 10), .ref (ad 11), .ref (ad 12), .ref (ad 13), .ref (ad 14), .ref (ad 15), .int (F 8), .int (F 9), .ref (ad 16), .ref (ad 17), .int (F 10), .ref (ad 18), .ref (ad 19), .ref (ad 20), .ref (ad 21), .ref (ad 22), .int (F 11), .ref (ad 23), .ref (ad 24), .ref (ad 25), .ref (ad 26), .int (F 12), .int (F 13), .ref (ad 27), .int (F 14), .int (F 15), .ref (ad 28), .ref (ad 29), .ref (ad 30), .int (F 16), .ref (ad 31), .ref (ad 32), .ref (ad 33), .ref (ad 34), .ref (ad 35), .int (F 17), .int (F 18), .ref (ad 36), .ref (ad 37)] : List Value).set 7 (.int x))) = wM cA ad (upd F 5 x) L A B := rfl
theorem setFM_6 {cA : Nat → ClassId} {ad : Nat → Nat} {F : Nat → Int32} {L : Nat → Int64} {A : Nat → Nat → Int32} {B : Nat → Nat → Int64} {x : Int32} : (wM cA ad F L A B).set 0 (ad 0, .inr (12, ([.ref (ad 1), .ref (ad 2), .int (F 0), .int (F 1), .int (F 2), .int (F 3), .int (F 4), .int (F 5), .int (F 6), .int (F 7), .long (L 0), .ref (ad 3), .ref (ad 4), .ref (ad 5), .ref (ad 6), .ref (ad 7), .ref (ad 8), .ref (ad 9), .ref (ad 10), .ref (ad 11), .ref (ad 12), .ref (ad 13), .ref (ad 14), .ref (ad 15), .int (F 8), .int (F 9), .ref (ad 16), .ref (ad 17), .int (F 10), .ref (ad 18), .ref (ad 19), .ref (ad 20), .ref (ad 21), .ref (ad 22), .int (F 11), .ref (ad 23), .ref (ad 24), .ref (ad 25), .ref (ad 26), .int (F 12), .int (F 13), .ref (ad 27), .int (F 14), .int (F 15), .ref (ad 28), .ref (ad 29), .ref (ad 30), .int (F 16), .ref (ad 31), .ref (ad 32), .ref (ad 33), .ref (ad 34), .ref (ad 35), .int (F 17), .int (F 18), .ref (ad 36), .ref (ad 37)] : List Value).set 8 (.int x))) = wM cA ad (upd F 6 x) L A B := rfl
theorem setFM_7 {cA : Nat → ClassId} {ad : Nat → Nat} {F : Nat → Int32} {L : Nat → Int64} {A : Nat → Nat → Int32} {B : Nat → Nat → Int64} {x : Int32} : (wM cA ad F L A B).set 0 (ad 0, .inr (12, ([.ref (ad 1), .ref (ad 2), .int (F 0), .int (F 1), .int (F 2), .int (F 3), .int (F 4), .int (F 5), .int (F 6), .int (F 7), .long (L 0), .ref (ad 3), .ref (ad 4), .ref (ad 5), .ref (ad 6), .ref (ad 7), .ref (ad 8), .ref (ad 9), .ref (ad 10), .ref (ad 11), .ref (ad 12), .ref (ad 13), .ref (ad 14), .ref (ad 15), .int (F 8), .int (F 9), .ref (ad 16), .ref (ad 17), .int (F 10), .ref (ad 18), .ref (ad 19), .ref (ad 20), .ref (ad 21), .ref (ad 22), .int (F 11), .ref (ad 23), .ref (ad 24), .ref (ad 25), .ref (ad 26), .int (F 12), .int (F 13), .ref (ad 27), .int (F 14), .int (F 15), .ref (ad 28), .ref (ad 29), .ref (ad 30), .int (F 16), .ref (ad 31), .ref (ad 32), .ref (ad 33), .ref (ad 34), .ref (ad 35), .int (F 17), .int (F 18), .ref (ad 36), .ref (ad 37)] : List Value).set 9 (.int x))) = wM cA ad (upd F 7 x) L A B := rfl
theorem setLM_0 {cA : Nat → ClassId} {ad : Nat → Nat} {F : Nat → Int32} {L : Nat → Int64} {A : Nat → Nat → Int32} {B : Nat → Nat → Int64} {x : Int64} : (wM cA ad F L A B).set 0 (ad 0, .inr (12, ([.ref (ad 1), .ref (ad 2), .int (F 0), .int (F 1), .int (F 2), .int (F 3), .int (F 4), .int (F 5), .int (F 6), .int (F 7), .long (L 0), .ref (ad 3), .ref (ad 4), .ref (ad 5), .ref (ad 6), .ref (ad 7), .ref (ad 8), .ref (ad 9), .ref (ad 10), .ref (ad 11), .ref (ad 12), .ref (ad 13), .ref (ad 14), .ref (ad 15), .int (F 8), .int (F 9), .ref (ad 16), .ref (ad 17), .int (F 10), .ref (ad 18), .ref (ad 19), .ref (ad 20), .ref (ad 21), .ref (ad 22), .int (F 11), .ref (ad 23), .ref (ad 24), .ref (ad 25), .ref (ad 26), .int (F 12), .int (F 13), .ref (ad 27), .int (F 14), .int (F 15), .ref (ad 28), .ref (ad 29), .ref (ad 30), .int (F 16), .ref (ad 31), .ref (ad 32), .ref (ad 33), .ref (ad 34), .ref (ad 35), .int (F 17), .int (F 18), .ref (ad 36), .ref (ad 37)] : List Value).set 10 (.long x))) = wM cA ad F (vp_updL L 0 x) A B := rfl
theorem setFM_8 {cA : Nat → ClassId} {ad : Nat → Nat} {F : Nat → Int32} {L : Nat → Int64} {A : Nat → Nat → Int32} {B : Nat → Nat → Int64} {x : Int32} : (wM cA ad F L A B).set 0 (ad 0, .inr (12, ([.ref (ad 1), .ref (ad 2), .int (F 0), .int (F 1), .int (F 2), .int (F 3), .int (F 4), .int (F 5), .int (F 6), .int (F 7), .long (L 0), .ref (ad 3), .ref (ad 4), .ref (ad 5), .ref (ad 6), .ref (ad 7), .ref (ad 8), .ref (ad 9), .ref (ad 10), .ref (ad 11), .ref (ad 12), .ref (ad 13), .ref (ad 14), .ref (ad 15), .int (F 8), .int (F 9), .ref (ad 16), .ref (ad 17), .int (F 10), .ref (ad 18), .ref (ad 19), .ref (ad 20), .ref (ad 21), .ref (ad 22), .int (F 11), .ref (ad 23), .ref (ad 24), .ref (ad 25), .ref (ad 26), .int (F 12), .int (F 13), .ref (ad 27), .int (F 14), .int (F 15), .ref (ad 28), .ref (ad 29), .ref (ad 30), .int (F 16), .ref (ad 31), .ref (ad 32), .ref (ad 33), .ref (ad 34), .ref (ad 35), .int (F 17), .int (F 18), .ref (ad 36), .ref (ad 37)] : List Value).set 24 (.int x))) = wM cA ad (upd F 8 x) L A B := rfl
theorem setFM_9 {cA : Nat → ClassId} {ad : Nat → Nat} {F : Nat → Int32} {L : Nat → Int64} {A : Nat → Nat → Int32} {B : Nat → Nat → Int64} {x : Int32} : (wM cA ad F L A B).set 0 (ad 0, .inr (12, ([.ref (ad 1), .ref (ad 2), .int (F 0), .int (F 1), .int (F 2), .int (F 3), .int (F 4), .int (F 5), .int (F 6), .int (F 7), .long (L 0), .ref (ad 3), .ref (ad 4), .ref (ad 5), .ref (ad 6), .ref (ad 7), .ref (ad 8), .ref (ad 9), .ref (ad 10), .ref (ad 11), .ref (ad 12), .ref (ad 13), .ref (ad 14), .ref (ad 15), .int (F 8), .int (F 9), .ref (ad 16), .ref (ad 17), .int (F 10), .ref (ad 18), .ref (ad 19), .ref (ad 20), .ref (ad 21), .ref (ad 22), .int (F 11), .ref (ad 23), .ref (ad 24), .ref (ad 25), .ref (ad 26), .int (F 12), .int (F 13), .ref (ad 27), .int (F 14), .int (F 15), .ref (ad 28), .ref (ad 29), .ref (ad 30), .int (F 16), .ref (ad 31), .ref (ad 32), .ref (ad 33), .ref (ad 34), .ref (ad 35), .int (F 17), .int (F 18), .ref (ad 36), .ref (ad 37)] : List Value).set 25 (.int x))) = wM cA ad (upd F 9 x) L A B := rfl
theorem setFM_10 {cA : Nat → ClassId} {ad : Nat → Nat} {F : Nat → Int32} {L : Nat → Int64} {A : Nat → Nat → Int32} {B : Nat → Nat → Int64} {x : Int32} : (wM cA ad F L A B).set 0 (ad 0, .inr (12, ([.ref (ad 1), .ref (ad 2), .int (F 0), .int (F 1), .int (F 2), .int (F 3), .int (F 4), .int (F 5), .int (F 6), .int (F 7), .long (L 0), .ref (ad 3), .ref (ad 4), .ref (ad 5), .ref (ad 6), .ref (ad 7), .ref (ad 8), .ref (ad 9), .ref (ad 10), .ref (ad 11), .ref (ad 12), .ref (ad 13), .ref (ad 14), .ref (ad 15), .int (F 8), .int (F 9), .ref (ad 16), .ref (ad 17), .int (F 10), .ref (ad 18), .ref (ad 19), .ref (ad 20), .ref (ad 21), .ref (ad 22), .int (F 11), .ref (ad 23), .ref (ad 24), .ref (ad 25), .ref (ad 26), .int (F 12), .int (F 13), .ref (ad 27), .int (F 14), .int (F 15), .ref (ad 28), .ref (ad 29), .ref (ad 30), .int (F 16), .ref (ad 31), .ref (ad 32), .ref (ad 33), .ref (ad 34), .ref (ad 35), .int (F 17), .int (F 18), .ref (ad 36), .ref (ad 37)] : List Value).set 28 (.int x))) = wM cA ad (upd F 10 x) L A B := rfl
theorem setFM_11 {cA : Nat → ClassId} {ad : Nat → Nat} {F : Nat → Int32} {L : Nat → Int64} {A : Nat → Nat → Int32} {B : Nat → Nat → Int64} {x : Int32} : (wM cA ad F L A B).set 0 (ad 0, .inr (12, ([.ref (ad 1), .ref (ad 2), .int (F 0), .int (F 1), .int (F 2), .int (F 3), .int (F 4), .int (F 5), .int (F 6), .int (F 7), .long (L 0), .ref (ad 3), .ref (ad 4), .ref (ad 5), .ref (ad 6), .ref (ad 7), .ref (ad 8), .ref (ad 9), .ref (ad 10), .ref (ad 11), .ref (ad 12), .ref (ad 13), .ref (ad 14), .ref (ad 15), .int (F 8), .int (F 9), .ref (ad 16), .ref (ad 17), .int (F 10), .ref (ad 18), .ref (ad 19), .ref (ad 20), .ref (ad 21), .ref (ad 22), .int (F 11), .ref (ad 23), .ref (ad 24), .ref (ad 25), .ref (ad 26), .int (F 12), .int (F 13), .ref (ad 27), .int (F 14), .int (F 15), .ref (ad 28), .ref (ad 29), .ref (ad 30), .int (F 16), .ref (ad 31), .ref (ad 32), .ref (ad 33), .ref (ad 34), .ref (ad 35), .int (F 17), .int (F 18), .ref (ad 36), .ref (ad 37)] : List Value).set 34 (.int x))) = wM cA ad (upd F 11 x) L A B := rfl
theorem setFM_12 {cA : Nat → ClassId} {ad : Nat → Nat} {F : Nat → Int32} {L : Nat → Int64} {A : Nat → Nat → Int32} {B : Nat → Nat → Int64} {x : Int32} : (wM cA ad F L A B).set 0 (ad 0, .inr (12, ([.ref (ad 1), .ref (ad 2), .int (F 0), .int (F 1), .int (F 2), .int (F 3), .int (F 4), .int (F 5), .int (F 6), .int (F 7), .long (L 0), .ref (ad 3), .ref (ad 4), .ref (ad 5), .ref (ad 6), .ref (ad 7), .ref (ad 8), .ref (ad 9), .ref (ad 10), .ref (ad 11), .ref (ad 12), .ref (ad 13), .ref (ad 14), .ref (ad 15), .int (F 8), .int (F 9), .ref (ad 16), .ref (ad 17), .int (F 10), .ref (ad 18), .ref (ad 19), .ref (ad 20), .ref (ad 21), .ref (ad 22), .int (F 11), .ref (ad 23), .ref (ad 24), .ref (ad 25), .ref (ad 26), .int (F 12), .int (F 13), .ref (ad 27), .int (F 14), .int (F 15), .ref (ad 28), .ref (ad 29), .ref (ad 30), .int (F 16), .ref (ad 31), .ref (ad 32), .ref (ad 33), .ref (ad 34), .ref (ad 35), .int (F 17), .int (F 18), .ref (ad 36), .ref (ad 37)] : List Value).set 39 (.int x))) = wM cA ad (upd F 12 x) L A B := rfl
theorem setFM_13 {cA : Nat → ClassId} {ad : Nat → Nat} {F : Nat → Int32} {L : Nat → Int64} {A : Nat → Nat → Int32} {B : Nat → Nat → Int64} {x : Int32} : (wM cA ad F L A B).set 0 (ad 0, .inr (12, ([.ref (ad 1), .ref (ad 2), .int (F 0), .int (F 1), .int (F 2), .int (F 3), .int (F 4), .int (F 5), .int (F 6), .int (F 7), .long (L 0), .ref (ad 3), .ref (ad 4), .ref (ad 5), .ref (ad 6), .ref (ad 7), .ref (ad 8), .ref (ad 9), .ref (ad 10), .ref (ad 11), .ref (ad 12), .ref (ad 13), .ref (ad 14), .ref (ad 15), .int (F 8), .int (F 9), .ref (ad 16), .ref (ad 17), .int (F 10), .ref (ad 18), .ref (ad 19), .ref (ad 20), .ref (ad 21), .ref (ad 22), .int (F 11), .ref (ad 23), .ref (ad 24), .ref (ad 25), .ref (ad 26), .int (F 12), .int (F 13), .ref (ad 27), .int (F 14), .int (F 15), .ref (ad 28), .ref (ad 29), .ref (ad 30), .int (F 16), .ref (ad 31), .ref (ad 32), .ref (ad 33), .ref (ad 34), .ref (ad 35), .int (F 17), .int (F 18), .ref (ad 36), .ref (ad 37)] : List Value).set 40 (.int x))) = wM cA ad (upd F 13 x) L A B := rfl
theorem setFM_14 {cA : Nat → ClassId} {ad : Nat → Nat} {F : Nat → Int32} {L : Nat → Int64} {A : Nat → Nat → Int32} {B : Nat → Nat → Int64} {x : Int32} : (wM cA ad F L A B).set 0 (ad 0, .inr (12, ([.ref (ad 1), .ref (ad 2), .int (F 0), .int (F 1), .int (F 2), .int (F 3), .int (F 4), .int (F 5), .int (F 6), .int (F 7), .long (L 0), .ref (ad 3), .ref (ad 4), .ref (ad 5), .ref (ad 6), .ref (ad 7), .ref (ad 8), .ref (ad 9), .ref (ad 10), .ref (ad 11), .ref (ad 12), .ref (ad 13), .ref (ad 14), .ref (ad 15), .int (F 8), .int (F 9), .ref (ad 16), .ref (ad 17), .int (F 10), .ref (ad 18), .ref (ad 19), .ref (ad 20), .ref (ad 21), .ref (ad 22), .int (F 11), .ref (ad 23), .ref (ad 24), .ref (ad 25), .ref (ad 26), .int (F 12), .int (F 13), .ref (ad 27), .int (F 14), .int (F 15), .ref (ad 28), .ref (ad 29), .ref (ad 30), .int (F 16), .ref (ad 31), .ref (ad 32), .ref (ad 33), .ref (ad 34), .ref (ad 35), .int (F 17), .int (F 18), .ref (ad 36), .ref (ad 37)] : List Value).set 42 (.int x))) = wM cA ad (upd F 14 x) L A B := rfl
theorem setFM_15 {cA : Nat → ClassId} {ad : Nat → Nat} {F : Nat → Int32} {L : Nat → Int64} {A : Nat → Nat → Int32} {B : Nat → Nat → Int64} {x : Int32} : (wM cA ad F L A B).set 0 (ad 0, .inr (12, ([.ref (ad 1), .ref (ad 2), .int (F 0), .int (F 1), .int (F 2), .int (F 3), .int (F 4), .int (F 5), .int (F 6), .int (F 7), .long (L 0), .ref (ad 3), .ref (ad 4), .ref (ad 5), .ref (ad 6), .ref (ad 7), .ref (ad 8), .ref (ad 9), .ref (ad 10), .ref (ad 11), .ref (ad 12), .ref (ad 13), .ref (ad 14), .ref (ad 15), .int (F 8), .int (F 9), .ref (ad 16), .ref (ad 17), .int (F 10), .ref (ad 18), .ref (ad 19), .ref (ad 20), .ref (ad 21), .ref (ad 22), .int (F 11), .ref (ad 23), .ref (ad 24), .ref (ad 25), .ref (ad 26), .int (F 12), .int (F 13), .ref (ad 27), .int (F 14), .int (F 15), .ref (ad 28), .ref (ad 29), .ref (ad 30), .int (F 16), .ref (ad 31), .ref (ad 32), .ref (ad 33), .ref (ad 34), .ref (ad 35), .int (F 17), .int (F 18), .ref (ad 36), .ref (ad 37)] : List Value).set 43 (.int x))) = wM cA ad (upd F 15 x) L A B := rfl
theorem setFM_16 {cA : Nat → ClassId} {ad : Nat → Nat} {F : Nat → Int32} {L : Nat → Int64} {A : Nat → Nat → Int32} {B : Nat → Nat → Int64} {x : Int32} : (wM cA ad F L A B).set 0 (ad 0, .inr (12, ([.ref (ad 1), .ref (ad 2), .int (F 0), .int (F 1), .int (F 2), .int (F 3), .int (F 4), .int (F 5), .int (F 6), .int (F 7), .long (L 0), .ref (ad 3), .ref (ad 4), .ref (ad 5), .ref (ad 6), .ref (ad 7), .ref (ad 8), .ref (ad 9), .ref (ad 10), .ref (ad 11), .ref (ad 12), .ref (ad 13), .ref (ad 14), .ref (ad 15), .int (F 8), .int (F 9), .ref (ad 16), .ref (ad 17), .int (F 10), .ref (ad 18), .ref (ad 19), .ref (ad 20), .ref (ad 21), .ref (ad 22), .int (F 11), .ref (ad 23), .ref (ad 24), .ref (ad 25), .ref (ad 26), .int (F 12), .int (F 13), .ref (ad 27), .int (F 14), .int (F 15), .ref (ad 28), .ref (ad 29), .ref (ad 30), .int (F 16), .ref (ad 31), .ref (ad 32), .ref (ad 33), .ref (ad 34), .ref (ad 35), .int (F 17), .int (F 18), .ref (ad 36), .ref (ad 37)] : List Value).set 47 (.int x))) = wM cA ad (upd F 16 x) L A B := rfl
theorem setFM_17 {cA : Nat → ClassId} {ad : Nat → Nat} {F : Nat → Int32} {L : Nat → Int64} {A : Nat → Nat → Int32} {B : Nat → Nat → Int64} {x : Int32} : (wM cA ad F L A B).set 0 (ad 0, .inr (12, ([.ref (ad 1), .ref (ad 2), .int (F 0), .int (F 1), .int (F 2), .int (F 3), .int (F 4), .int (F 5), .int (F 6), .int (F 7), .long (L 0), .ref (ad 3), .ref (ad 4), .ref (ad 5), .ref (ad 6), .ref (ad 7), .ref (ad 8), .ref (ad 9), .ref (ad 10), .ref (ad 11), .ref (ad 12), .ref (ad 13), .ref (ad 14), .ref (ad 15), .int (F 8), .int (F 9), .ref (ad 16), .ref (ad 17), .int (F 10), .ref (ad 18), .ref (ad 19), .ref (ad 20), .ref (ad 21), .ref (ad 22), .int (F 11), .ref (ad 23), .ref (ad 24), .ref (ad 25), .ref (ad 26), .int (F 12), .int (F 13), .ref (ad 27), .int (F 14), .int (F 15), .ref (ad 28), .ref (ad 29), .ref (ad 30), .int (F 16), .ref (ad 31), .ref (ad 32), .ref (ad 33), .ref (ad 34), .ref (ad 35), .int (F 17), .int (F 18), .ref (ad 36), .ref (ad 37)] : List Value).set 53 (.int x))) = wM cA ad (upd F 17 x) L A B := rfl
theorem setFM_18 {cA : Nat → ClassId} {ad : Nat → Nat} {F : Nat → Int32} {L : Nat → Int64} {A : Nat → Nat → Int32} {B : Nat → Nat → Int64} {x : Int32} : (wM cA ad F L A B).set 0 (ad 0, .inr (12, ([.ref (ad 1), .ref (ad 2), .int (F 0), .int (F 1), .int (F 2), .int (F 3), .int (F 4), .int (F 5), .int (F 6), .int (F 7), .long (L 0), .ref (ad 3), .ref (ad 4), .ref (ad 5), .ref (ad 6), .ref (ad 7), .ref (ad 8), .ref (ad 9), .ref (ad 10), .ref (ad 11), .ref (ad 12), .ref (ad 13), .ref (ad 14), .ref (ad 15), .int (F 8), .int (F 9), .ref (ad 16), .ref (ad 17), .int (F 10), .ref (ad 18), .ref (ad 19), .ref (ad 20), .ref (ad 21), .ref (ad 22), .int (F 11), .ref (ad 23), .ref (ad 24), .ref (ad 25), .ref (ad 26), .int (F 12), .int (F 13), .ref (ad 27), .int (F 14), .int (F 15), .ref (ad 28), .ref (ad 29), .ref (ad 30), .int (F 16), .ref (ad 31), .ref (ad 32), .ref (ad 33), .ref (ad 34), .ref (ad 35), .int (F 17), .int (F 18), .ref (ad 36), .ref (ad 37)] : List Value).set 54 (.int x))) = wM cA ad (upd F 18 x) L A B := rfl
theorem setM_1 {cA : Nat → ClassId} {ad : Nat → Nat} {F : Nat → Int32} {L : Nat → Int64} {A : Nat → Nat → Int32} {B : Nat → Nat → Int64} {g : Nat → Int32} : (wM cA ad F L A B).set 1 (ad 1, .inl (cA 1, 1720, .inl g)) = wM cA ad F L (va_up A 1 g) B := rfl
theorem setM_2 {cA : Nat → ClassId} {ad : Nat → Nat} {F : Nat → Int32} {L : Nat → Int64} {A : Nat → Nat → Int32} {B : Nat → Nat → Int64} {g : Nat → Int32} : (wM cA ad F L A B).set 2 (ad 2, .inl (cA 2, 1700, .inl g)) = wM cA ad F L (va_up A 2 g) B := rfl
theorem setM_3 {cA : Nat → ClassId} {ad : Nat → Nat} {F : Nat → Int32} {L : Nat → Int64} {A : Nat → Nat → Int32} {B : Nat → Nat → Int64} {g : Nat → Int32} : (wM cA ad F L A B).set 3 (ad 3, .inl (cA 3, 2, .inl g)) = wM cA ad F L (va_up A 3 g) B := rfl
theorem setM_4 {cA : Nat → ClassId} {ad : Nat → Nat} {F : Nat → Int32} {L : Nat → Int64} {A : Nat → Nat → Int32} {B : Nat → Nat → Int64} {g : Nat → Int32} : (wM cA ad F L A B).set 4 (ad 4, .inl (cA 4, 2, .inl g)) = wM cA ad F L (va_up A 4 g) B := rfl
theorem setM_5 {cA : Nat → ClassId} {ad : Nat → Nat} {F : Nat → Int32} {L : Nat → Int64} {A : Nat → Nat → Int32} {B : Nat → Nat → Int64} {g : Nat → Int32} : (wM cA ad F L A B).set 5 (ad 5, .inl (cA 5, 2, .inl g)) = wM cA ad F L (va_up A 5 g) B := rfl
theorem setM_6 {cA : Nat → ClassId} {ad : Nat → Nat} {F : Nat → Int32} {L : Nat → Int64} {A : Nat → Nat → Int32} {B : Nat → Nat → Int64} {g : Nat → Int32} : (wM cA ad F L A B).set 6 (ad 6, .inl (cA 6, 2, .inl g)) = wM cA ad F L (va_up A 6 g) B := rfl
theorem setM_7 {cA : Nat → ClassId} {ad : Nat → Nat} {F : Nat → Int32} {L : Nat → Int64} {A : Nat → Nat → Int32} {B : Nat → Nat → Int64} {g : Nat → Int32} : (wM cA ad F L A B).set 7 (ad 7, .inl (cA 7, 2, .inl g)) = wM cA ad F L (va_up A 7 g) B := rfl
theorem setM_8 {cA : Nat → ClassId} {ad : Nat → Nat} {F : Nat → Int32} {L : Nat → Int64} {A : Nat → Nat → Int32} {B : Nat → Nat → Int64} {g : Nat → Int32} : (wM cA ad F L A B).set 8 (ad 8, .inl (cA 8, 16, .inl g)) = wM cA ad F L (va_up A 8 g) B := rfl
theorem setM_9 {cA : Nat → ClassId} {ad : Nat → Nat} {F : Nat → Int32} {L : Nat → Int64} {A : Nat → Nat → Int32} {B : Nat → Nat → Int64} {g : Nat → Int32} : (wM cA ad F L A B).set 9 (ad 9, .inl (cA 9, 16, .inl g)) = wM cA ad F L (va_up A 9 g) B := rfl
theorem setM_10 {cA : Nat → ClassId} {ad : Nat → Nat} {F : Nat → Int32} {L : Nat → Int64} {A : Nat → Nat → Int32} {B : Nat → Nat → Int64} {g : Nat → Int32} : (wM cA ad F L A B).set 10 (ad 10, .inl (cA 10, 160, .inl g)) = wM cA ad F L (va_up A 10 g) B := rfl
theorem setM_11 {cA : Nat → ClassId} {ad : Nat → Nat} {F : Nat → Int32} {L : Nat → Int64} {A : Nat → Nat → Int32} {B : Nat → Nat → Int64} {g : Nat → Int32} : (wM cA ad F L A B).set 11 (ad 11, .inl (cA 11, 16, .inl g)) = wM cA ad F L (va_up A 11 g) B := rfl
theorem setM_12 {cA : Nat → ClassId} {ad : Nat → Nat} {F : Nat → Int32} {L : Nat → Int64} {A : Nat → Nat → Int32} {B : Nat → Nat → Int64} {g : Nat → Int32} : (wM cA ad F L A B).set 12 (ad 12, .inl (cA 12, 160, .inl g)) = wM cA ad F L (va_up A 12 g) B := rfl
theorem setM_13 {cA : Nat → ClassId} {ad : Nat → Nat} {F : Nat → Int32} {L : Nat → Int64} {A : Nat → Nat → Int32} {B : Nat → Nat → Int64} {g : Nat → Int32} : (wM cA ad F L A B).set 13 (ad 13, .inl (cA 13, 2, .inl g)) = wM cA ad F L (va_up A 13 g) B := rfl
theorem setBM_14 {cA : Nat → ClassId} {ad : Nat → Nat} {F : Nat → Int32} {L : Nat → Int64} {A : Nat → Nat → Int32} {B : Nat → Nat → Int64} {g : Nat → Int64} : (wM cA ad F L A B).set 14 (ad 14, .inl (cA 14, 16, .inr (.inl g))) = wM cA ad F L A (va_up B 14 g) := rfl
theorem setBM_15 {cA : Nat → ClassId} {ad : Nat → Nat} {F : Nat → Int32} {L : Nat → Int64} {A : Nat → Nat → Int32} {B : Nat → Nat → Int64} {g : Nat → Int64} : (wM cA ad F L A B).set 15 (ad 15, .inl (cA 15, 20, .inr (.inl g))) = wM cA ad F L A (va_up B 15 g) := rfl
theorem setM_16 {cA : Nat → ClassId} {ad : Nat → Nat} {F : Nat → Int32} {L : Nat → Int64} {A : Nat → Nat → Int32} {B : Nat → Nat → Int64} {g : Nat → Int32} : (wM cA ad F L A B).set 16 (ad 16, .inl (cA 16, 80, .inl g)) = wM cA ad F L (va_up A 16 g) B := rfl
theorem setM_17 {cA : Nat → ClassId} {ad : Nat → Nat} {F : Nat → Int32} {L : Nat → Int64} {A : Nat → Nat → Int32} {B : Nat → Nat → Int64} {g : Nat → Int32} : (wM cA ad F L A B).set 17 (ad 17, .inl (cA 17, 80, .inl g)) = wM cA ad F L (va_up A 17 g) B := rfl
theorem setM_18 {cA : Nat → ClassId} {ad : Nat → Nat} {F : Nat → Int32} {L : Nat → Int64} {A : Nat → Nat → Int32} {B : Nat → Nat → Int64} {g : Nat → Int32} : (wM cA ad F L A B).set 18 (ad 18, .inl (cA 18, 8, .inl g)) = wM cA ad F L (va_up A 18 g) B := rfl
theorem setM_19 {cA : Nat → ClassId} {ad : Nat → Nat} {F : Nat → Int32} {L : Nat → Int64} {A : Nat → Nat → Int32} {B : Nat → Nat → Int64} {g : Nat → Int32} : (wM cA ad F L A B).set 19 (ad 19, .inl (cA 19, 10, .inl g)) = wM cA ad F L (va_up A 19 g) B := rfl
theorem setM_20 {cA : Nat → ClassId} {ad : Nat → Nat} {F : Nat → Int32} {L : Nat → Int64} {A : Nat → Nat → Int32} {B : Nat → Nat → Int64} {g : Nat → Int32} : (wM cA ad F L A B).set 20 (ad 20, .inl (cA 20, 1024, .inl g)) = wM cA ad F L (va_up A 20 g) B := rfl
theorem setM_21 {cA : Nat → ClassId} {ad : Nat → Nat} {F : Nat → Int32} {L : Nat → Int64} {A : Nat → Nat → Int32} {B : Nat → Nat → Int64} {g : Nat → Int32} : (wM cA ad F L A B).set 21 (ad 21, .inl (cA 21, 240, .inl g)) = wM cA ad F L (va_up A 21 g) B := rfl
theorem setM_22 {cA : Nat → ClassId} {ad : Nat → Nat} {F : Nat → Int32} {L : Nat → Int64} {A : Nat → Nat → Int32} {B : Nat → Nat → Int64} {g : Nat → Int32} : (wM cA ad F L A B).set 22 (ad 22, .inl (cA 22, 1920, .inl g)) = wM cA ad F L (va_up A 22 g) B := rfl
theorem setM_23 {cA : Nat → ClassId} {ad : Nat → Nat} {F : Nat → Int32} {L : Nat → Int64} {A : Nat → Nat → Int32} {B : Nat → Nat → Int64} {g : Nat → Int32} : (wM cA ad F L A B).set 23 (ad 23, .inl (cA 23, 484, .inl g)) = wM cA ad F L (va_up A 23 g) B := rfl
theorem setM_24 {cA : Nat → ClassId} {ad : Nat → Nat} {F : Nat → Int32} {L : Nat → Int64} {A : Nat → Nat → Int32} {B : Nat → Nat → Int64} {g : Nat → Int32} : (wM cA ad F L A B).set 24 (ad 24, .inl (cA 24, 22, .inl g)) = wM cA ad F L (va_up A 24 g) B := rfl
theorem setM_25 {cA : Nat → ClassId} {ad : Nat → Nat} {F : Nat → Int32} {L : Nat → Int64} {A : Nat → Nat → Int32} {B : Nat → Nat → Int64} {g : Nat → Int32} : (wM cA ad F L A B).set 25 (ad 25, .inl (cA 25, 22, .inl g)) = wM cA ad F L (va_up A 25 g) B := rfl
theorem setM_26 {cA : Nat → ClassId} {ad : Nat → Nat} {F : Nat → Int32} {L : Nat → Int64} {A : Nat → Nat → Int32} {B : Nat → Nat → Int64} {g : Nat → Int32} : (wM cA ad F L A B).set 26 (ad 26, .inl (cA 26, 80, .inl g)) = wM cA ad F L (va_up A 26 g) B := rfl
theorem setM_27 {cA : Nat → ClassId} {ad : Nat → Nat} {F : Nat → Int32} {L : Nat → Int64} {A : Nat → Nat → Int32} {B : Nat → Nat → Int64} {g : Nat → Int32} : (wM cA ad F L A B).set 27 (ad 27, .inl (cA 27, 3321, .inl g)) = wM cA ad F L (va_up A 27 g) B := rfl
theorem setM_28 {cA : Nat → ClassId} {ad : Nat → Nat} {F : Nat → Int32} {L : Nat → Int64} {A : Nat → Nat → Int32} {B : Nat → Nat → Int64} {g : Nat → Int32} : (wM cA ad F L A B).set 28 (ad 28, .inl (cA 28, 12, .inl g)) = wM cA ad F L (va_up A 28 g) B := rfl
theorem setM_29 {cA : Nat → ClassId} {ad : Nat → Nat} {F : Nat → Int32} {L : Nat → Int64} {A : Nat → Nat → Int32} {B : Nat → Nat → Int64} {g : Nat → Int32} : (wM cA ad F L A B).set 29 (ad 29, .inl (cA 29, 12, .inl g)) = wM cA ad F L (va_up A 29 g) B := rfl
theorem setM_30 {cA : Nat → ClassId} {ad : Nat → Nat} {F : Nat → Int32} {L : Nat → Int64} {A : Nat → Nat → Int32} {B : Nat → Nat → Int64} {g : Nat → Int32} : (wM cA ad F L A B).set 30 (ad 30, .inl (cA 30, 120, .inl g)) = wM cA ad F L (va_up A 30 g) B := rfl
theorem setM_31 {cA : Nat → ClassId} {ad : Nat → Nat} {F : Nat → Int32} {L : Nat → Int64} {A : Nat → Nat → Int32} {B : Nat → Nat → Int64} {g : Nat → Int32} : (wM cA ad F L A B).set 31 (ad 31, .inl (cA 31, 20, .inl g)) = wM cA ad F L (va_up A 31 g) B := rfl
theorem setM_32 {cA : Nat → ClassId} {ad : Nat → Nat} {F : Nat → Int32} {L : Nat → Int64} {A : Nat → Nat → Int32} {B : Nat → Nat → Int64} {g : Nat → Int32} : (wM cA ad F L A B).set 32 (ad 32, .inl (cA 32, 20, .inl g)) = wM cA ad F L (va_up A 32 g) B := rfl
theorem setM_33 {cA : Nat → ClassId} {ad : Nat → Nat} {F : Nat → Int32} {L : Nat → Int64} {A : Nat → Nat → Int32} {B : Nat → Nat → Int64} {g : Nat → Int32} : (wM cA ad F L A B).set 33 (ad 33, .inl (cA 33, 20, .inl g)) = wM cA ad F L (va_up A 33 g) B := rfl
theorem setM_34 {cA : Nat → ClassId} {ad : Nat → Nat} {F : Nat → Int32} {L : Nat → Int64} {A : Nat → Nat → Int32} {B : Nat → Nat → Int64} {g : Nat → Int32} : (wM cA ad F L A B).set 34 (ad 34, .inl (cA 34, 20, .inl g)) = wM cA ad F L (va_up A 34 g) B := rfl
theorem setM_35 {cA : Nat → ClassId} {ad : Nat → Nat} {F : Nat → Int32} {L : Nat → Int64} {A : Nat → Nat → Int32} {B : Nat → Nat → Int64} {g : Nat → Int32} : (wM cA ad F L A B).set 35 (ad 35, .inl (cA 35, 20, .inl g)) = wM cA ad F L (va_up A 35 g) B := rfl
theorem setM_36 {cA : Nat → ClassId} {ad : Nat → Nat} {F : Nat → Int32} {L : Nat → Int64} {A : Nat → Nat → Int32} {B : Nat → Nat → Int64} {g : Nat → Int32} : (wM cA ad F L A B).set 36 (ad 36, .inl (cA 36, 3, .inl g)) = wM cA ad F L (va_up A 36 g) B := rfl
theorem setM_37 {cA : Nat → ClassId} {ad : Nat → Nat} {F : Nat → Int32} {L : Nat → Int64} {A : Nat → Nat → Int32} {B : Nat → Nat → Int64} {g : Nat → Int32} : (wM cA ad F L A B).set 37 (ad 37, .inl (cA 37, 240, .inl g)) = wM cA ad F L (va_up A 37 g) B := rfl
def fTM (k : Nat) : Int × Int := ([(0, 1700), (0, 1700), ((-2147483648), 2147483647), ((-2147483648), 2147483647), (0, 1700), (0, 1701), (0, 5), ((-2147483648), 2147483647), (0, 1), (0, 1), ((-2147483648), 2147483647), (0, 240), ((-2147483648), 2147483647), ((-2147483648), 2147483647), (0, 40), (0, 40), (0, 12), (0, 20), (0, 100000)] : List (Int × Int)).getD k (-2147483648, 2147483647)
def aTM (q : Nat) : Int × Int := ([((-2147483648), 2147483647), ((-2147483648), 2147483647), ((-2147483648), 2147483647), (0, 8), (0, 10), ((-2147483648), 2147483647), ((-2147483648), 2147483647), ((-2147483648), 2147483647), ((-2147483648), 2147483647), ((-2147483648), 2147483647), ((-2147483648), 2147483647), (0, 1), (0, 1), (0, 1), ((-2147483648), 2147483647), ((-2147483648), 2147483647), ((-2147483648), 2147483647), ((-2147483648), 2147483647), ((-1), 9), (0, 1023), (0, 1023), ((-2147483648), 2147483647), ((-1), 9), ((-2147483648), 2147483647), ((-1), 21), (0, 21), ((-2147483648), 2147483647), ((-2147483648), 2147483647), ((-2147483648), 2147483647), (0, 10), (0, 79), ((-2147483648), 2147483647), (0, 7), ((-2147483648), 2147483647), ((-2147483648), 2147483647), ((-2147483648), 2147483647), ((-2147483648), 2147483647), ((-2147483648), 2147483647)] : List (Int × Int)).getD q (-2147483648, 2147483647)
def typM (F : Nat → Int32) (A : Nat → Nat → Int32) : Prop := (∀ k, rg (F k) (fTM k).1 (fTM k).2) ∧ ∀ q j, rg (A q j) (aTM q).1 (aTM q).2
/-- typed still, and only the fields mf, the arrays ma may have changed -/
def qM (mf ma : List Nat) (F : Nat → Int32) (A : Nat → Nat → Int32) (F' : Nat → Int32) (A' : Nat → Nat → Int32) : Prop := typM F' A' ∧ (∀ k, k ∉ mf → F' k = F k) ∧ ∀ q, q ∉ ma → A' q = A q
theorem qM.rf {mf ma : List Nat} {F : Nat → Int32} {A : Nat → Nat → Int32} (h : typM F A) : qM mf ma F A F A := ⟨h, fun _ _ => rfl, fun _ _ => rfl⟩
theorem qM.put {mf ma : List Nat} {F F1 : Nat → Int32} {A A1 : Nat → Nat → Int32} (h : qM mf ma F A F1 A1) (k : Nat) {x : Int32} (hk : k ∈ mf) (hx : rg x (fTM k).1 (fTM k).2) : qM mf ma F A (upd F1 k x) A1 := by
  refine ⟨⟨fun j => ?_, h.1.2⟩, fun j hj => ?_, h.2.2⟩
  · show rg (if j = k then x else F1 j) _ _
    split
    · rename_i e; subst e; exact hx
    · exact h.1.1 j
  · show (if j = k then x else F1 j) = F j
    split
    · rename_i e; subst e; exact absurd hk hj
    · exact h.2.1 j hj
theorem qM.arr {mf ma : List Nat} {F F1 : Nat → Int32} {A A1 : Nat → Nat → Int32} (h : qM mf ma F A F1 A1) (q : Nat) {g : Nat → Int32} (hk : q ∈ ma) (hx : ∀ j, rg (g j) (aTM q).1 (aTM q).2) : qM mf ma F A F1 (va_up A1 q g) := by
  refine ⟨⟨h.1.1, fun j => ?_⟩, h.2.1, fun j hj => ?_⟩
  · show ∀ i, rg ((if j = q then g else A1 j) i) _ _
    split
    · rename_i e; subst e; exact hx
    · exact h.1.2 j
  · show (if j = q then g else A1 j) = A j
    split
    · rename_i e; subst e; exact absurd hk hj
    · exact h.2.2 j hj
theorem qM.ast {mf ma : List Nat} {F F1 : Nat → Int32} {A A1 : Nat → Nat → Int32} (h : qM mf ma F A F1 A1) (q n : Nat) {x : Int32} (hk : q ∈ ma) (hx : rg x (aTM q).1 (aTM q).2) : qM mf ma F A F1 (va_up A1 q (upd (A1 q) n x)) := by
  refine h.arr q hk (fun j => ?_)
  show rg (if j = n then x else A1 q j) _ _
  split
  · exact hx
  · exact h.1.2 q j
theorem qM.cpy {mf ma : List Nat} {F F1 : Nat → Int32} {A A1 : Nat → Nat → Int32} (h : qM mf ma F A F1 A1) (q q0 : Nat) {a b n : Nat} (hk : q ∈ ma) (ok : (decide ((aTM q).1 ≤ (aTM q0).1) && decide ((aTM q0).2 ≤ (aTM q).2)) = true) : qM mf ma F A F1 (va_up A1 q (va_cpy (A1 q0) (A1 q) a b n)) := by
  refine h.arr q hk (fun j => ?_)
  show rg (if b ≤ j ∧ j < b + n then A1 q0 (a + (j - b)) else A1 q j) _ _
  split
  · exact rg_w (h.1.2 q0 _) ok
  · exact h.1.2 q j
theorem qM.fill {mf ma : List Nat} {F F1 : Nat → Int32} {A A1 : Nat → Nat → Int32} (h : qM mf ma F A F1 A1) (q n : Nat) {x : Int32} (hk : q ∈ ma) (hx : rg x (aTM q).1 (aTM q).2) : qM mf ma F A F1 (va_up A1 q (fun j => if j < n then x else A1 q j)) := by
  refine h.arr q hk (fun j => ?_)
  show rg (if j < n then x else A1 q j) _ _
  split
  · exact hx
  · exact h.1.2 q j
theorem qM.call {mf ma mf' ma' : List Nat} {F F1 F2 : Nat → Int32} {A A1 A2 : Nat → Nat → Int32} (h : qM mf ma F A F1 A1) (h2 : qM mf' ma' F1 A1 F2 A2) (ok : (mf'.all (fun k => decide (k ∈ mf)) && ma'.all (fun k => decide (k ∈ ma))) = true) : qM mf ma F A F2 A2 := by
  simp only [Bool.and_eq_true, List.all_eq_true, decide_eq_true_eq] at ok
  exact ⟨h2.1, fun k hk => (h2.2.1 k (fun z => hk (ok.1 k z))).trans (h.2.1 k hk), fun k hk => (h2.2.2 k (fun z => hk (ok.2 k z))).trans (h.2.2 k hk)⟩
/-- acts that can be undone and redone: 40 at most together -/
def xM (F : Nat → Int32) : Prop := 0 ≤ (F 14).toInt ∧ 0 ≤ (F 15).toInt ∧ (F 14).toInt + (F 15).toInt ≤ 40
theorem xM.fr {F G : Nat → Int32} (h : xM F) (h1 : G 14 = F 14) (h2 : G 15 = F 15) : xM G := by
  unfold xM at h ⊢
  rw [h1, h2]
  exact h
theorem xM.of {F : Nat → Int32} {a b : Int32} (h1 : F 14 = a) (h2 : F 15 = b) (h : 0 ≤ a.toInt ∧ 0 ≤ b.toInt ∧ a.toInt + b.toInt ≤ 40) : xM F := by
  unfold xM
  rw [h1, h2]
  exact h
theorem xM.u {F : Nat → Int32} {x z : Int32} {h9 : Int} (h : xM F) (ex : x = F 14) (rx : rg x 1 h9) (ez : z = F 15) : rg z 0 39 := by
  unfold xM at h
  rw [← ex, ← ez] at h
  have := rx.1
  unfold rg
  omega
theorem xM.d {F : Nat → Int32} {x z : Int32} {h9 : Int} (h : xM F) (ez : z = F 15) (rz : rg z 1 h9) (ex : x = F 14) : rg x 0 39 := by
  unfold xM at h
  rw [← ex, ← ez] at h
  have := rz.1
  unfold rg
  omega
theorem xM.tb {F : Nat → Int32} {x z y w : Int32} {h9 h8 : Int} (h : xM F) (ex : x = F 14) (ez : z = F 15) (ey : y = x - 1) (rx : rg x 1 h9) (ew : w = z + 1) (rz : rg z 0 h8) : 0 ≤ y.toInt ∧ 0 ≤ w.toInt ∧ y.toInt + w.toInt ≤ 40 := by
  unfold xM at h
  rw [← ex, ← ez] at h
  have q1 : (1 : Int32).toInt = 1 := rfl
  have := rx.1
  have q2 : y.toInt = x.toInt - 1 := by rw [ey, ti_sub (by omega) (by omega), q1]
  have q3 : w.toInt = z.toInt + 1 := by rw [ew, ti_add (by omega) (by omega), q1]
  omega
theorem xM.da {F : Nat → Int32} {x z y w : Int32} {h9 h8 : Int} (h : xM F) (ex : x = F 14) (ez : z = F 15) (ey : y = x + 1) (rx : rg x 0 h9) (ew : w = z - 1) (rz : rg z 1 h8) : 0 ≤ y.toInt ∧ 0 ≤ w.toInt ∧ y.toInt + w.toInt ≤ 40 := by
  unfold xM at h
  rw [← ex, ← ez] at h
  have q1 : (1 : Int32).toInt = 1 := rfl
  have := rx.1
  have := rz.1
  have q2 : y.toInt = x.toInt + 1 := by rw [ey, ti_add (by omega) (by omega), q1]
  have q3 : w.toInt = z.toInt - 1 := by rw [ew, ti_sub (by omega) (by omega), q1]
  omega
def wfM (cA : Nat → ClassId) (ad : Nat → Nat) (u : SW) : va_W := wM cA ad u.1 u.2.1 u.2.2.1 u.2.2.2
theorem rdA {A : Nat → Nat → Int32} {q n : Nat} {x : Int32} : va_up A q (upd (A q) n x) q n = x := by simp [va_up, upd]
theorem mv {A : Nat → Nat → Int32} {q r n : Nat} {g : Nat → Int32} {x : Int32} (h : q ≠ r) (e : x = A q n) : x = va_up A r g q n := by
  rw [e]
  show A q n = (if q = r then g else A q) n
  rw [if_neg h]
theorem rg_nz (x : Int32) : rg (vp_nar .boolean x) 0 1 := by
  have e : vp_nar .boolean x = x &&& 1 := rfl
  exact rg_andr e (rg_k (by decide) : rg 1 1 1) (by decide)
