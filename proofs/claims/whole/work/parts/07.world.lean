abbrev ctys (cI cL : ClassId) : List (ClassId × FieldType) := [(cI, .int), (cL, .long)]
/-- the system under proof: its objects and rows -/
def cw (ad : Nat → Nat) (cI cL : ClassId) (S : MS) : va_W := [(ad 0, .inr (5, [.ref (ad 1), .ref (ad 2), .ref (ad 3), .ref (ad 4), .ref (ad 5), .ref (ad 22)])),
  (ad 1, .inr (2, [.ref (ad 6), .ref (ad 7), .ref (ad 8), .ref (ad 9), .ref (ad 10), .ref (ad 11), .ref (ad 23), .int (S.2.2 0), .int (S.2.2 1)])),
  (ad 2, .inr (0, [.ref (ad 12), .ref (ad 13), .int (S.2.2 2)])),
  (ad 3, .inr (4, [.ref (ad 14), .ref (ad 15), .ref (ad 16), .ref (ad 17), .ref (ad 24), .int (S.2.2 3)])),
  (ad 4, .inr (1, [.ref (ad 1), .ref (ad 2), .ref (ad 3), .ref (ad 25), .ref (ad 26), .ref (ad 18), .ref (ad 19), .int (S.2.2 4), .int (S.2.2 5)])),
  (ad 5, .inr (3, [.ref (ad 1), .ref (ad 4), .ref (ad 20), .ref (ad 21), .int (S.2.2 6), .int (S.2.2 7)])),
  (ad 6, .inl (cI, 12, .inl (S.1 0))),
  (ad 7, .inl (cI, 12, .inl (S.1 1))),
  (ad 8, .inl (cI, 12, .inl (S.1 2))),
  (ad 9, .inl (cI, 12, .inl (S.1 3))),
  (ad 10, .inl (cI, 12, .inl (S.1 4))),
  (ad 11, .inl (cI, 144, .inl (S.1 5))),
  (ad 12, .inl (cI, 4, .inl (S.1 6))),
  (ad 13, .inl (cI, 4, .inl (S.1 7))),
  (ad 14, .inl (cI, 12, .inl (S.1 8))),
  (ad 15, .inl (cI, 12, .inl (S.1 9))),
  (ad 16, .inl (cI, 48, .inl (S.1 10))),
  (ad 17, .inl (cI, 12, .inl (S.1 11))),
  (ad 18, .inl (cI, 8, .inl (S.1 12))),
  (ad 19, .inl (cI, 8, .inl (S.1 13))),
  (ad 20, .inl (cI, 3, .inl (S.1 14))),
  (ad 21, .inl (cI, 3, .inl (S.1 15))),
  (ad 22, .inl (cI, 4, .inl (S.1 16))),
  (ad 23, .inl (cL, 192, .inr (.inl (S.2.1 0)))),
  (ad 24, .inl (cL, 48, .inr (.inl (S.2.1 1)))),
  (ad 25, .inl (cL, 256, .inr (.inl (S.2.1 2)))),
  (ad 26, .inl (cL, 256, .inr (.inl (S.2.1 3))))]
abbrev rtys (cI cL : ClassId) : List (ClassId × FieldType) := [(cI, .int), (cL, .boolean)]
/-- the reference: its object and rows -/
def rw_ (ad : Nat → Nat) (cI cL : ClassId) (S : MS) : va_W := [(ad 0, .inr (6, [.int (S.2.2 0), .ref (ad 1), .ref (ad 2), .ref (ad 3), .ref (ad 4), .ref (ad 5), .ref (ad 6), .ref (ad 7), .ref (ad 8), .int (S.2.2 1), .ref (ad 9), .ref (ad 10), .ref (ad 11), .int (S.2.2 2), .ref (ad 12), .ref (ad 13), .int (S.2.2 3), .ref (ad 14), .ref (ad 15), .ref (ad 16), .ref (ad 17), .ref (ad 21), .int (S.2.2 4), .ref (ad 18), .ref (ad 19), .ref (ad 20)])),
  (ad 1, .inl (cI, 12, .inl (S.1 0))),
  (ad 2, .inl (cI, 12, .inl (S.1 1))),
  (ad 3, .inl (cI, 12, .inl (S.1 2))),
  (ad 4, .inl (cI, 12, .inl (S.1 3))),
  (ad 5, .inl (cI, 12, .inl (S.1 4))),
  (ad 6, .inl (cI, 144, .inl (S.1 5))),
  (ad 7, .inl (cI, 12, .inl (S.1 6))),
  (ad 8, .inl (cI, 12, .inl (S.1 7))),
  (ad 9, .inl (cI, 20, .inl (S.1 8))),
  (ad 10, .inl (cI, 20, .inl (S.1 9))),
  (ad 11, .inl (cI, 20, .inl (S.1 10))),
  (ad 12, .inl (cI, 4, .inl (S.1 11))),
  (ad 13, .inl (cI, 4, .inl (S.1 12))),
  (ad 14, .inl (cI, 12, .inl (S.1 13))),
  (ad 15, .inl (cI, 12, .inl (S.1 14))),
  (ad 16, .inl (cI, 48, .inl (S.1 15))),
  (ad 17, .inl (cI, 12, .inl (S.1 16))),
  (ad 18, .inl (cI, 24, .inl (S.1 17))),
  (ad 19, .inl (cI, 24, .inl (S.1 18))),
  (ad 20, .inl (cI, 3, .inl (S.1 19))),
  (ad 21, .inl (cL, 12, .inl (S.1 20)))]
theorem cI_0 {ad : Nat → Nat} {cI cL : ClassId} {S : MS} : (cw ad cI cL S)[6]? = some (ad 6, .inl (cI, 12, .inl (S.1 0))) := rfl
theorem cIs_0 {ad : Nat → Nat} {cI cL : ClassId} {S : MS} {i : Nat} {x : Int32} : (cw ad cI cL S).set 6 (ad 6, .inl (cI, 12, .inl (upd (S.1 0) i x))) = cw ad cI cL (uI S 0 i x) := rfl
theorem cI_1 {ad : Nat → Nat} {cI cL : ClassId} {S : MS} : (cw ad cI cL S)[7]? = some (ad 7, .inl (cI, 12, .inl (S.1 1))) := rfl
theorem cIs_1 {ad : Nat → Nat} {cI cL : ClassId} {S : MS} {i : Nat} {x : Int32} : (cw ad cI cL S).set 7 (ad 7, .inl (cI, 12, .inl (upd (S.1 1) i x))) = cw ad cI cL (uI S 1 i x) := rfl
theorem cI_2 {ad : Nat → Nat} {cI cL : ClassId} {S : MS} : (cw ad cI cL S)[8]? = some (ad 8, .inl (cI, 12, .inl (S.1 2))) := rfl
theorem cIs_2 {ad : Nat → Nat} {cI cL : ClassId} {S : MS} {i : Nat} {x : Int32} : (cw ad cI cL S).set 8 (ad 8, .inl (cI, 12, .inl (upd (S.1 2) i x))) = cw ad cI cL (uI S 2 i x) := rfl
theorem cI_3 {ad : Nat → Nat} {cI cL : ClassId} {S : MS} : (cw ad cI cL S)[9]? = some (ad 9, .inl (cI, 12, .inl (S.1 3))) := rfl
theorem cIs_3 {ad : Nat → Nat} {cI cL : ClassId} {S : MS} {i : Nat} {x : Int32} : (cw ad cI cL S).set 9 (ad 9, .inl (cI, 12, .inl (upd (S.1 3) i x))) = cw ad cI cL (uI S 3 i x) := rfl
theorem cI_4 {ad : Nat → Nat} {cI cL : ClassId} {S : MS} : (cw ad cI cL S)[10]? = some (ad 10, .inl (cI, 12, .inl (S.1 4))) := rfl
theorem cIs_4 {ad : Nat → Nat} {cI cL : ClassId} {S : MS} {i : Nat} {x : Int32} : (cw ad cI cL S).set 10 (ad 10, .inl (cI, 12, .inl (upd (S.1 4) i x))) = cw ad cI cL (uI S 4 i x) := rfl
theorem cI_5 {ad : Nat → Nat} {cI cL : ClassId} {S : MS} : (cw ad cI cL S)[11]? = some (ad 11, .inl (cI, 144, .inl (S.1 5))) := rfl
theorem cIs_5 {ad : Nat → Nat} {cI cL : ClassId} {S : MS} {i : Nat} {x : Int32} : (cw ad cI cL S).set 11 (ad 11, .inl (cI, 144, .inl (upd (S.1 5) i x))) = cw ad cI cL (uI S 5 i x) := rfl
theorem cI_6 {ad : Nat → Nat} {cI cL : ClassId} {S : MS} : (cw ad cI cL S)[12]? = some (ad 12, .inl (cI, 4, .inl (S.1 6))) := rfl
theorem cIs_6 {ad : Nat → Nat} {cI cL : ClassId} {S : MS} {i : Nat} {x : Int32} : (cw ad cI cL S).set 12 (ad 12, .inl (cI, 4, .inl (upd (S.1 6) i x))) = cw ad cI cL (uI S 6 i x) := rfl
theorem cI_7 {ad : Nat → Nat} {cI cL : ClassId} {S : MS} : (cw ad cI cL S)[13]? = some (ad 13, .inl (cI, 4, .inl (S.1 7))) := rfl
theorem cIs_7 {ad : Nat → Nat} {cI cL : ClassId} {S : MS} {i : Nat} {x : Int32} : (cw ad cI cL S).set 13 (ad 13, .inl (cI, 4, .inl (upd (S.1 7) i x))) = cw ad cI cL (uI S 7 i x) := rfl
theorem cI_8 {ad : Nat → Nat} {cI cL : ClassId} {S : MS} : (cw ad cI cL S)[14]? = some (ad 14, .inl (cI, 12, .inl (S.1 8))) := rfl
theorem cIs_8 {ad : Nat → Nat} {cI cL : ClassId} {S : MS} {i : Nat} {x : Int32} : (cw ad cI cL S).set 14 (ad 14, .inl (cI, 12, .inl (upd (S.1 8) i x))) = cw ad cI cL (uI S 8 i x) := rfl
theorem cI_9 {ad : Nat → Nat} {cI cL : ClassId} {S : MS} : (cw ad cI cL S)[15]? = some (ad 15, .inl (cI, 12, .inl (S.1 9))) := rfl
theorem cIs_9 {ad : Nat → Nat} {cI cL : ClassId} {S : MS} {i : Nat} {x : Int32} : (cw ad cI cL S).set 15 (ad 15, .inl (cI, 12, .inl (upd (S.1 9) i x))) = cw ad cI cL (uI S 9 i x) := rfl
theorem cI_10 {ad : Nat → Nat} {cI cL : ClassId} {S : MS} : (cw ad cI cL S)[16]? = some (ad 16, .inl (cI, 48, .inl (S.1 10))) := rfl
theorem cIs_10 {ad : Nat → Nat} {cI cL : ClassId} {S : MS} {i : Nat} {x : Int32} : (cw ad cI cL S).set 16 (ad 16, .inl (cI, 48, .inl (upd (S.1 10) i x))) = cw ad cI cL (uI S 10 i x) := rfl
theorem cI_11 {ad : Nat → Nat} {cI cL : ClassId} {S : MS} : (cw ad cI cL S)[17]? = some (ad 17, .inl (cI, 12, .inl (S.1 11))) := rfl
theorem cIs_11 {ad : Nat → Nat} {cI cL : ClassId} {S : MS} {i : Nat} {x : Int32} : (cw ad cI cL S).set 17 (ad 17, .inl (cI, 12, .inl (upd (S.1 11) i x))) = cw ad cI cL (uI S 11 i x) := rfl
theorem cI_12 {ad : Nat → Nat} {cI cL : ClassId} {S : MS} : (cw ad cI cL S)[18]? = some (ad 18, .inl (cI, 8, .inl (S.1 12))) := rfl
theorem cIs_12 {ad : Nat → Nat} {cI cL : ClassId} {S : MS} {i : Nat} {x : Int32} : (cw ad cI cL S).set 18 (ad 18, .inl (cI, 8, .inl (upd (S.1 12) i x))) = cw ad cI cL (uI S 12 i x) := rfl
theorem cI_13 {ad : Nat → Nat} {cI cL : ClassId} {S : MS} : (cw ad cI cL S)[19]? = some (ad 19, .inl (cI, 8, .inl (S.1 13))) := rfl
theorem cIs_13 {ad : Nat → Nat} {cI cL : ClassId} {S : MS} {i : Nat} {x : Int32} : (cw ad cI cL S).set 19 (ad 19, .inl (cI, 8, .inl (upd (S.1 13) i x))) = cw ad cI cL (uI S 13 i x) := rfl
theorem cI_14 {ad : Nat → Nat} {cI cL : ClassId} {S : MS} : (cw ad cI cL S)[20]? = some (ad 20, .inl (cI, 3, .inl (S.1 14))) := rfl
theorem cIs_14 {ad : Nat → Nat} {cI cL : ClassId} {S : MS} {i : Nat} {x : Int32} : (cw ad cI cL S).set 20 (ad 20, .inl (cI, 3, .inl (upd (S.1 14) i x))) = cw ad cI cL (uI S 14 i x) := rfl
theorem cI_15 {ad : Nat → Nat} {cI cL : ClassId} {S : MS} : (cw ad cI cL S)[21]? = some (ad 21, .inl (cI, 3, .inl (S.1 15))) := rfl
theorem cIs_15 {ad : Nat → Nat} {cI cL : ClassId} {S : MS} {i : Nat} {x : Int32} : (cw ad cI cL S).set 21 (ad 21, .inl (cI, 3, .inl (upd (S.1 15) i x))) = cw ad cI cL (uI S 15 i x) := rfl
theorem cI_16 {ad : Nat → Nat} {cI cL : ClassId} {S : MS} : (cw ad cI cL S)[22]? = some (ad 22, .inl (cI, 4, .inl (S.1 16))) := rfl
theorem cIs_16 {ad : Nat → Nat} {cI cL : ClassId} {S : MS} {i : Nat} {x : Int32} : (cw ad cI cL S).set 22 (ad 22, .inl (cI, 4, .inl (upd (S.1 16) i x))) = cw ad cI cL (uI S 16 i x) := rfl
theorem cL_0 {ad : Nat → Nat} {cI cL : ClassId} {S : MS} : (cw ad cI cL S)[23]? = some (ad 23, .inl (cL, 192, .inr (.inl (S.2.1 0)))) := rfl
theorem cLs_0 {ad : Nat → Nat} {cI cL : ClassId} {S : MS} {i : Nat} {x : Int64} : (cw ad cI cL S).set 23 (ad 23, .inl (cL, 192, .inr (.inl (vp_updL (S.2.1 0) i x)))) = cw ad cI cL (uL S 0 i x) := rfl
theorem cLc_0 {ad : Nat → Nat} {cI cL : ClassId} {S : MS} {f : Nat → Int64} : (cw ad cI cL S).set 23 (ad 23, .inl (cL, 192, .inr (.inl f))) = cw ad cI cL (uC S 0 f) := rfl
theorem cL_1 {ad : Nat → Nat} {cI cL : ClassId} {S : MS} : (cw ad cI cL S)[24]? = some (ad 24, .inl (cL, 48, .inr (.inl (S.2.1 1)))) := rfl
theorem cLs_1 {ad : Nat → Nat} {cI cL : ClassId} {S : MS} {i : Nat} {x : Int64} : (cw ad cI cL S).set 24 (ad 24, .inl (cL, 48, .inr (.inl (vp_updL (S.2.1 1) i x)))) = cw ad cI cL (uL S 1 i x) := rfl
theorem cLc_1 {ad : Nat → Nat} {cI cL : ClassId} {S : MS} {f : Nat → Int64} : (cw ad cI cL S).set 24 (ad 24, .inl (cL, 48, .inr (.inl f))) = cw ad cI cL (uC S 1 f) := rfl
theorem cL_2 {ad : Nat → Nat} {cI cL : ClassId} {S : MS} : (cw ad cI cL S)[25]? = some (ad 25, .inl (cL, 256, .inr (.inl (S.2.1 2)))) := rfl
theorem cLs_2 {ad : Nat → Nat} {cI cL : ClassId} {S : MS} {i : Nat} {x : Int64} : (cw ad cI cL S).set 25 (ad 25, .inl (cL, 256, .inr (.inl (vp_updL (S.2.1 2) i x)))) = cw ad cI cL (uL S 2 i x) := rfl
theorem cLc_2 {ad : Nat → Nat} {cI cL : ClassId} {S : MS} {f : Nat → Int64} : (cw ad cI cL S).set 25 (ad 25, .inl (cL, 256, .inr (.inl f))) = cw ad cI cL (uC S 2 f) := rfl
theorem cL_3 {ad : Nat → Nat} {cI cL : ClassId} {S : MS} : (cw ad cI cL S)[26]? = some (ad 26, .inl (cL, 256, .inr (.inl (S.2.1 3)))) := rfl
theorem cLs_3 {ad : Nat → Nat} {cI cL : ClassId} {S : MS} {i : Nat} {x : Int64} : (cw ad cI cL S).set 26 (ad 26, .inl (cL, 256, .inr (.inl (vp_updL (S.2.1 3) i x)))) = cw ad cI cL (uL S 3 i x) := rfl
theorem cLc_3 {ad : Nat → Nat} {cI cL : ClassId} {S : MS} {f : Nat → Int64} : (cw ad cI cL S).set 26 (ad 26, .inl (cL, 256, .inr (.inl f))) = cw ad cI cL (uC S 3 f) := rfl
theorem cO_X5 {ad : Nat → Nat} {cI cL : ClassId} {S : MS} : (cw ad cI cL S)[0]? = some (ad 0, .inr (5, [.ref (ad 1), .ref (ad 2), .ref (ad 3), .ref (ad 4), .ref (ad 5), .ref (ad 22)])) := rfl
theorem cO_X2 {ad : Nat → Nat} {cI cL : ClassId} {S : MS} : (cw ad cI cL S)[1]? = some (ad 1, .inr (2, [.ref (ad 6), .ref (ad 7), .ref (ad 8), .ref (ad 9), .ref (ad 10), .ref (ad 11), .ref (ad 23), .int (S.2.2 0), .int (S.2.2 1)])) := rfl
theorem cFs_0 {ad : Nat → Nat} {cI cL : ClassId} {S : MS} {x : Int32} : (cw ad cI cL S).set 1 (ad 1, .inr (2, ([.ref (ad 6), .ref (ad 7), .ref (ad 8), .ref (ad 9), .ref (ad 10), .ref (ad 11), .ref (ad 23), .int (S.2.2 0), .int (S.2.2 1)] : List Value).set 7 (.int x))) = cw ad cI cL (uF S 0 x) := rfl
theorem cFs_1 {ad : Nat → Nat} {cI cL : ClassId} {S : MS} {x : Int32} : (cw ad cI cL S).set 1 (ad 1, .inr (2, ([.ref (ad 6), .ref (ad 7), .ref (ad 8), .ref (ad 9), .ref (ad 10), .ref (ad 11), .ref (ad 23), .int (S.2.2 0), .int (S.2.2 1)] : List Value).set 8 (.int x))) = cw ad cI cL (uF S 1 x) := rfl
theorem cO_X0 {ad : Nat → Nat} {cI cL : ClassId} {S : MS} : (cw ad cI cL S)[2]? = some (ad 2, .inr (0, [.ref (ad 12), .ref (ad 13), .int (S.2.2 2)])) := rfl
theorem cFs_2 {ad : Nat → Nat} {cI cL : ClassId} {S : MS} {x : Int32} : (cw ad cI cL S).set 2 (ad 2, .inr (0, ([.ref (ad 12), .ref (ad 13), .int (S.2.2 2)] : List Value).set 2 (.int x))) = cw ad cI cL (uF S 2 x) := rfl
theorem cO_X4 {ad : Nat → Nat} {cI cL : ClassId} {S : MS} : (cw ad cI cL S)[3]? = some (ad 3, .inr (4, [.ref (ad 14), .ref (ad 15), .ref (ad 16), .ref (ad 17), .ref (ad 24), .int (S.2.2 3)])) := rfl
theorem cFs_3 {ad : Nat → Nat} {cI cL : ClassId} {S : MS} {x : Int32} : (cw ad cI cL S).set 3 (ad 3, .inr (4, ([.ref (ad 14), .ref (ad 15), .ref (ad 16), .ref (ad 17), .ref (ad 24), .int (S.2.2 3)] : List Value).set 5 (.int x))) = cw ad cI cL (uF S 3 x) := rfl
theorem cO_X1 {ad : Nat → Nat} {cI cL : ClassId} {S : MS} : (cw ad cI cL S)[4]? = some (ad 4, .inr (1, [.ref (ad 1), .ref (ad 2), .ref (ad 3), .ref (ad 25), .ref (ad 26), .ref (ad 18), .ref (ad 19), .int (S.2.2 4), .int (S.2.2 5)])) := rfl
theorem cFs_4 {ad : Nat → Nat} {cI cL : ClassId} {S : MS} {x : Int32} : (cw ad cI cL S).set 4 (ad 4, .inr (1, ([.ref (ad 1), .ref (ad 2), .ref (ad 3), .ref (ad 25), .ref (ad 26), .ref (ad 18), .ref (ad 19), .int (S.2.2 4), .int (S.2.2 5)] : List Value).set 7 (.int x))) = cw ad cI cL (uF S 4 x) := rfl
theorem cFs_5 {ad : Nat → Nat} {cI cL : ClassId} {S : MS} {x : Int32} : (cw ad cI cL S).set 4 (ad 4, .inr (1, ([.ref (ad 1), .ref (ad 2), .ref (ad 3), .ref (ad 25), .ref (ad 26), .ref (ad 18), .ref (ad 19), .int (S.2.2 4), .int (S.2.2 5)] : List Value).set 8 (.int x))) = cw ad cI cL (uF S 5 x) := rfl
theorem cO_X3 {ad : Nat → Nat} {cI cL : ClassId} {S : MS} : (cw ad cI cL S)[5]? = some (ad 5, .inr (3, [.ref (ad 1), .ref (ad 4), .ref (ad 20), .ref (ad 21), .int (S.2.2 6), .int (S.2.2 7)])) := rfl
theorem cFs_6 {ad : Nat → Nat} {cI cL : ClassId} {S : MS} {x : Int32} : (cw ad cI cL S).set 5 (ad 5, .inr (3, ([.ref (ad 1), .ref (ad 4), .ref (ad 20), .ref (ad 21), .int (S.2.2 6), .int (S.2.2 7)] : List Value).set 4 (.int x))) = cw ad cI cL (uF S 6 x) := rfl
theorem cFs_7 {ad : Nat → Nat} {cI cL : ClassId} {S : MS} {x : Int32} : (cw ad cI cL S).set 5 (ad 5, .inr (3, ([.ref (ad 1), .ref (ad 4), .ref (ad 20), .ref (ad 21), .int (S.2.2 6), .int (S.2.2 7)] : List Value).set 5 (.int x))) = cw ad cI cL (uF S 7 x) := rfl
theorem rI_0 {ad : Nat → Nat} {cI cL : ClassId} {S : MS} : (rw_ ad cI cL S)[1]? = some (ad 1, .inl (cI, 12, .inl (S.1 0))) := rfl
theorem rIs_0 {ad : Nat → Nat} {cI cL : ClassId} {S : MS} {i : Nat} {x : Int32} : (rw_ ad cI cL S).set 1 (ad 1, .inl (cI, 12, .inl (upd (S.1 0) i x))) = rw_ ad cI cL (uI S 0 i x) := rfl
theorem rI_1 {ad : Nat → Nat} {cI cL : ClassId} {S : MS} : (rw_ ad cI cL S)[2]? = some (ad 2, .inl (cI, 12, .inl (S.1 1))) := rfl
theorem rIs_1 {ad : Nat → Nat} {cI cL : ClassId} {S : MS} {i : Nat} {x : Int32} : (rw_ ad cI cL S).set 2 (ad 2, .inl (cI, 12, .inl (upd (S.1 1) i x))) = rw_ ad cI cL (uI S 1 i x) := rfl
theorem rI_2 {ad : Nat → Nat} {cI cL : ClassId} {S : MS} : (rw_ ad cI cL S)[3]? = some (ad 3, .inl (cI, 12, .inl (S.1 2))) := rfl
theorem rIs_2 {ad : Nat → Nat} {cI cL : ClassId} {S : MS} {i : Nat} {x : Int32} : (rw_ ad cI cL S).set 3 (ad 3, .inl (cI, 12, .inl (upd (S.1 2) i x))) = rw_ ad cI cL (uI S 2 i x) := rfl
theorem rI_3 {ad : Nat → Nat} {cI cL : ClassId} {S : MS} : (rw_ ad cI cL S)[4]? = some (ad 4, .inl (cI, 12, .inl (S.1 3))) := rfl
theorem rIs_3 {ad : Nat → Nat} {cI cL : ClassId} {S : MS} {i : Nat} {x : Int32} : (rw_ ad cI cL S).set 4 (ad 4, .inl (cI, 12, .inl (upd (S.1 3) i x))) = rw_ ad cI cL (uI S 3 i x) := rfl
theorem rI_4 {ad : Nat → Nat} {cI cL : ClassId} {S : MS} : (rw_ ad cI cL S)[5]? = some (ad 5, .inl (cI, 12, .inl (S.1 4))) := rfl
theorem rIs_4 {ad : Nat → Nat} {cI cL : ClassId} {S : MS} {i : Nat} {x : Int32} : (rw_ ad cI cL S).set 5 (ad 5, .inl (cI, 12, .inl (upd (S.1 4) i x))) = rw_ ad cI cL (uI S 4 i x) := rfl
theorem rI_5 {ad : Nat → Nat} {cI cL : ClassId} {S : MS} : (rw_ ad cI cL S)[6]? = some (ad 6, .inl (cI, 144, .inl (S.1 5))) := rfl
theorem rIs_5 {ad : Nat → Nat} {cI cL : ClassId} {S : MS} {i : Nat} {x : Int32} : (rw_ ad cI cL S).set 6 (ad 6, .inl (cI, 144, .inl (upd (S.1 5) i x))) = rw_ ad cI cL (uI S 5 i x) := rfl
theorem rI_6 {ad : Nat → Nat} {cI cL : ClassId} {S : MS} : (rw_ ad cI cL S)[7]? = some (ad 7, .inl (cI, 12, .inl (S.1 6))) := rfl
theorem rIs_6 {ad : Nat → Nat} {cI cL : ClassId} {S : MS} {i : Nat} {x : Int32} : (rw_ ad cI cL S).set 7 (ad 7, .inl (cI, 12, .inl (upd (S.1 6) i x))) = rw_ ad cI cL (uI S 6 i x) := rfl
theorem rI_7 {ad : Nat → Nat} {cI cL : ClassId} {S : MS} : (rw_ ad cI cL S)[8]? = some (ad 8, .inl (cI, 12, .inl (S.1 7))) := rfl
theorem rIs_7 {ad : Nat → Nat} {cI cL : ClassId} {S : MS} {i : Nat} {x : Int32} : (rw_ ad cI cL S).set 8 (ad 8, .inl (cI, 12, .inl (upd (S.1 7) i x))) = rw_ ad cI cL (uI S 7 i x) := rfl
theorem rI_8 {ad : Nat → Nat} {cI cL : ClassId} {S : MS} : (rw_ ad cI cL S)[9]? = some (ad 9, .inl (cI, 20, .inl (S.1 8))) := rfl
theorem rIs_8 {ad : Nat → Nat} {cI cL : ClassId} {S : MS} {i : Nat} {x : Int32} : (rw_ ad cI cL S).set 9 (ad 9, .inl (cI, 20, .inl (upd (S.1 8) i x))) = rw_ ad cI cL (uI S 8 i x) := rfl
theorem rI_9 {ad : Nat → Nat} {cI cL : ClassId} {S : MS} : (rw_ ad cI cL S)[10]? = some (ad 10, .inl (cI, 20, .inl (S.1 9))) := rfl
theorem rIs_9 {ad : Nat → Nat} {cI cL : ClassId} {S : MS} {i : Nat} {x : Int32} : (rw_ ad cI cL S).set 10 (ad 10, .inl (cI, 20, .inl (upd (S.1 9) i x))) = rw_ ad cI cL (uI S 9 i x) := rfl
theorem rI_10 {ad : Nat → Nat} {cI cL : ClassId} {S : MS} : (rw_ ad cI cL S)[11]? = some (ad 11, .inl (cI, 20, .inl (S.1 10))) := rfl
theorem rIs_10 {ad : Nat → Nat} {cI cL : ClassId} {S : MS} {i : Nat} {x : Int32} : (rw_ ad cI cL S).set 11 (ad 11, .inl (cI, 20, .inl (upd (S.1 10) i x))) = rw_ ad cI cL (uI S 10 i x) := rfl
theorem rI_11 {ad : Nat → Nat} {cI cL : ClassId} {S : MS} : (rw_ ad cI cL S)[12]? = some (ad 12, .inl (cI, 4, .inl (S.1 11))) := rfl
theorem rIs_11 {ad : Nat → Nat} {cI cL : ClassId} {S : MS} {i : Nat} {x : Int32} : (rw_ ad cI cL S).set 12 (ad 12, .inl (cI, 4, .inl (upd (S.1 11) i x))) = rw_ ad cI cL (uI S 11 i x) := rfl
theorem rI_12 {ad : Nat → Nat} {cI cL : ClassId} {S : MS} : (rw_ ad cI cL S)[13]? = some (ad 13, .inl (cI, 4, .inl (S.1 12))) := rfl
theorem rIs_12 {ad : Nat → Nat} {cI cL : ClassId} {S : MS} {i : Nat} {x : Int32} : (rw_ ad cI cL S).set 13 (ad 13, .inl (cI, 4, .inl (upd (S.1 12) i x))) = rw_ ad cI cL (uI S 12 i x) := rfl
theorem rI_13 {ad : Nat → Nat} {cI cL : ClassId} {S : MS} : (rw_ ad cI cL S)[14]? = some (ad 14, .inl (cI, 12, .inl (S.1 13))) := rfl
theorem rIs_13 {ad : Nat → Nat} {cI cL : ClassId} {S : MS} {i : Nat} {x : Int32} : (rw_ ad cI cL S).set 14 (ad 14, .inl (cI, 12, .inl (upd (S.1 13) i x))) = rw_ ad cI cL (uI S 13 i x) := rfl
theorem rI_14 {ad : Nat → Nat} {cI cL : ClassId} {S : MS} : (rw_ ad cI cL S)[15]? = some (ad 15, .inl (cI, 12, .inl (S.1 14))) := rfl
theorem rIs_14 {ad : Nat → Nat} {cI cL : ClassId} {S : MS} {i : Nat} {x : Int32} : (rw_ ad cI cL S).set 15 (ad 15, .inl (cI, 12, .inl (upd (S.1 14) i x))) = rw_ ad cI cL (uI S 14 i x) := rfl
theorem rI_15 {ad : Nat → Nat} {cI cL : ClassId} {S : MS} : (rw_ ad cI cL S)[16]? = some (ad 16, .inl (cI, 48, .inl (S.1 15))) := rfl
theorem rIs_15 {ad : Nat → Nat} {cI cL : ClassId} {S : MS} {i : Nat} {x : Int32} : (rw_ ad cI cL S).set 16 (ad 16, .inl (cI, 48, .inl (upd (S.1 15) i x))) = rw_ ad cI cL (uI S 15 i x) := rfl
theorem rI_16 {ad : Nat → Nat} {cI cL : ClassId} {S : MS} : (rw_ ad cI cL S)[17]? = some (ad 17, .inl (cI, 12, .inl (S.1 16))) := rfl
theorem rIs_16 {ad : Nat → Nat} {cI cL : ClassId} {S : MS} {i : Nat} {x : Int32} : (rw_ ad cI cL S).set 17 (ad 17, .inl (cI, 12, .inl (upd (S.1 16) i x))) = rw_ ad cI cL (uI S 16 i x) := rfl
theorem rI_17 {ad : Nat → Nat} {cI cL : ClassId} {S : MS} : (rw_ ad cI cL S)[18]? = some (ad 18, .inl (cI, 24, .inl (S.1 17))) := rfl
theorem rIs_17 {ad : Nat → Nat} {cI cL : ClassId} {S : MS} {i : Nat} {x : Int32} : (rw_ ad cI cL S).set 18 (ad 18, .inl (cI, 24, .inl (upd (S.1 17) i x))) = rw_ ad cI cL (uI S 17 i x) := rfl
theorem rI_18 {ad : Nat → Nat} {cI cL : ClassId} {S : MS} : (rw_ ad cI cL S)[19]? = some (ad 19, .inl (cI, 24, .inl (S.1 18))) := rfl
theorem rIs_18 {ad : Nat → Nat} {cI cL : ClassId} {S : MS} {i : Nat} {x : Int32} : (rw_ ad cI cL S).set 19 (ad 19, .inl (cI, 24, .inl (upd (S.1 18) i x))) = rw_ ad cI cL (uI S 18 i x) := rfl
theorem rI_19 {ad : Nat → Nat} {cI cL : ClassId} {S : MS} : (rw_ ad cI cL S)[20]? = some (ad 20, .inl (cI, 3, .inl (S.1 19))) := rfl
theorem rIs_19 {ad : Nat → Nat} {cI cL : ClassId} {S : MS} {i : Nat} {x : Int32} : (rw_ ad cI cL S).set 20 (ad 20, .inl (cI, 3, .inl (upd (S.1 19) i x))) = rw_ ad cI cL (uI S 19 i x) := rfl
theorem rI_20 {ad : Nat → Nat} {cI cL : ClassId} {S : MS} : (rw_ ad cI cL S)[21]? = some (ad 21, .inl (cL, 12, .inl (S.1 20))) := rfl
theorem rIs_20 {ad : Nat → Nat} {cI cL : ClassId} {S : MS} {i : Nat} {x : Int32} : (rw_ ad cI cL S).set 21 (ad 21, .inl (cL, 12, .inl (upd (S.1 20) i x))) = rw_ ad cI cL (uI S 20 i x) := rfl
theorem rO {ad : Nat → Nat} {cI cL : ClassId} {S : MS} : (rw_ ad cI cL S)[0]? = some (ad 0, .inr (6, [.int (S.2.2 0), .ref (ad 1), .ref (ad 2), .ref (ad 3), .ref (ad 4), .ref (ad 5), .ref (ad 6), .ref (ad 7), .ref (ad 8), .int (S.2.2 1), .ref (ad 9), .ref (ad 10), .ref (ad 11), .int (S.2.2 2), .ref (ad 12), .ref (ad 13), .int (S.2.2 3), .ref (ad 14), .ref (ad 15), .ref (ad 16), .ref (ad 17), .ref (ad 21), .int (S.2.2 4), .ref (ad 18), .ref (ad 19), .ref (ad 20)])) := rfl
theorem rFs_0 {ad : Nat → Nat} {cI cL : ClassId} {S : MS} {x : Int32} : (rw_ ad cI cL S).set 0 (ad 0, .inr (6, ([.int (S.2.2 0), .ref (ad 1), .ref (ad 2), .ref (ad 3), .ref (ad 4), .ref (ad 5), .ref (ad 6), .ref (ad 7), .ref (ad 8), .int (S.2.2 1), .ref (ad 9), .ref (ad 10), .ref (ad 11), .int (S.2.2 2), .ref (ad 12), .ref (ad 13), .int (S.2.2 3), .ref (ad 14), .ref (ad 15), .ref (ad 16), .ref (ad 17), .ref (ad 21), .int (S.2.2 4), .ref (ad 18), .ref (ad 19), .ref (ad 20)] : List Value).set 0 (.int x))) = rw_ ad cI cL (uF S 0 x) := rfl
theorem rFs_1 {ad : Nat → Nat} {cI cL : ClassId} {S : MS} {x : Int32} : (rw_ ad cI cL S).set 0 (ad 0, .inr (6, ([.int (S.2.2 0), .ref (ad 1), .ref (ad 2), .ref (ad 3), .ref (ad 4), .ref (ad 5), .ref (ad 6), .ref (ad 7), .ref (ad 8), .int (S.2.2 1), .ref (ad 9), .ref (ad 10), .ref (ad 11), .int (S.2.2 2), .ref (ad 12), .ref (ad 13), .int (S.2.2 3), .ref (ad 14), .ref (ad 15), .ref (ad 16), .ref (ad 17), .ref (ad 21), .int (S.2.2 4), .ref (ad 18), .ref (ad 19), .ref (ad 20)] : List Value).set 9 (.int x))) = rw_ ad cI cL (uF S 1 x) := rfl
theorem rFs_2 {ad : Nat → Nat} {cI cL : ClassId} {S : MS} {x : Int32} : (rw_ ad cI cL S).set 0 (ad 0, .inr (6, ([.int (S.2.2 0), .ref (ad 1), .ref (ad 2), .ref (ad 3), .ref (ad 4), .ref (ad 5), .ref (ad 6), .ref (ad 7), .ref (ad 8), .int (S.2.2 1), .ref (ad 9), .ref (ad 10), .ref (ad 11), .int (S.2.2 2), .ref (ad 12), .ref (ad 13), .int (S.2.2 3), .ref (ad 14), .ref (ad 15), .ref (ad 16), .ref (ad 17), .ref (ad 21), .int (S.2.2 4), .ref (ad 18), .ref (ad 19), .ref (ad 20)] : List Value).set 13 (.int x))) = rw_ ad cI cL (uF S 2 x) := rfl
theorem rFs_3 {ad : Nat → Nat} {cI cL : ClassId} {S : MS} {x : Int32} : (rw_ ad cI cL S).set 0 (ad 0, .inr (6, ([.int (S.2.2 0), .ref (ad 1), .ref (ad 2), .ref (ad 3), .ref (ad 4), .ref (ad 5), .ref (ad 6), .ref (ad 7), .ref (ad 8), .int (S.2.2 1), .ref (ad 9), .ref (ad 10), .ref (ad 11), .int (S.2.2 2), .ref (ad 12), .ref (ad 13), .int (S.2.2 3), .ref (ad 14), .ref (ad 15), .ref (ad 16), .ref (ad 17), .ref (ad 21), .int (S.2.2 4), .ref (ad 18), .ref (ad 19), .ref (ad 20)] : List Value).set 16 (.int x))) = rw_ ad cI cL (uF S 3 x) := rfl
theorem rFs_4 {ad : Nat → Nat} {cI cL : ClassId} {S : MS} {x : Int32} : (rw_ ad cI cL S).set 0 (ad 0, .inr (6, ([.int (S.2.2 0), .ref (ad 1), .ref (ad 2), .ref (ad 3), .ref (ad 4), .ref (ad 5), .ref (ad 6), .ref (ad 7), .ref (ad 8), .int (S.2.2 1), .ref (ad 9), .ref (ad 10), .ref (ad 11), .int (S.2.2 2), .ref (ad 12), .ref (ad 13), .int (S.2.2 3), .ref (ad 14), .ref (ad 15), .ref (ad 16), .ref (ad 17), .ref (ad 21), .int (S.2.2 4), .ref (ad 18), .ref (ad 19), .ref (ad 20)] : List Value).set 22 (.int x))) = rw_ ad cI cL (uF S 4 x) := rfl
