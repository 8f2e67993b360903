abbrev PS : Type := (Nat → Int32) × (Nat → Nat → Int32)
def pI (S : PS) (k : Nat) (v : Int32) : PS := (upd S.1 k v, S.2)
def pAr (S : PS) (k : Nat) (f : Nat → Int32) : PS := (S.1, va_up S.2 k f)
def hX (S : PS) : List PC := [.inr (11, [.ref 1, .ref 17, .int (S.1 10), .ref 33, .ref 39, .ref 42, .ref 45, .ref 46, .ref 47, .ref 50]),
  .inr (0, [.ref 2, .ref 5, .ref 12]),
  .inr (2, [.int (S.1 0), .int (S.1 1), .int (S.1 2), .int (S.1 3), .ref 3, .ref 4]),
  .inl (0, 10, .inl (S.2 0)),
  .inl (0, 10, .inl (S.2 1)),
  .inr (1, [.int (S.1 4), .ref 6, .ref 7, .ref 8, .ref 9, .ref 10, .ref 11]),
  .inl (0, 16, .inl (S.2 2)),
  .inl (0, 16, .inl (S.2 3)),
  .inl (0, 16, .inl (S.2 4)),
  .inl (0, 16, .inl (S.2 5)),
  .inl (0, 16, .inl (S.2 6)),
  .inl (0, 16, .inl (S.2 7)),
  .inr (8, [.ref 13, .ref 14, .ref 15, .ref 16]),
  .inl (0, 4, .inl (S.2 8)),
  .inl (0, 4, .inl (S.2 9)),
  .inl (0, 4, .inl (S.2 10)),
  .inl (0, 4, .inl (S.2 11)),
  .inr (0, [.ref 18, .ref 21, .ref 28]),
  .inr (2, [.int (S.1 5), .int (S.1 6), .int (S.1 7), .int (S.1 8), .ref 19, .ref 20]),
  .inl (0, 10, .inl (S.2 12)),
  .inl (0, 10, .inl (S.2 13)),
  .inr (1, [.int (S.1 9), .ref 22, .ref 23, .ref 24, .ref 25, .ref 26, .ref 27]),
  .inl (0, 16, .inl (S.2 14)),
  .inl (0, 16, .inl (S.2 15)),
  .inl (0, 16, .inl (S.2 16)),
  .inl (0, 16, .inl (S.2 17)),
  .inl (0, 16, .inl (S.2 18)),
  .inl (0, 16, .inl (S.2 19)),
  .inr (8, [.ref 29, .ref 30, .ref 31, .ref 32]),
  .inl (0, 4, .inl (S.2 20)),
  .inl (0, 4, .inl (S.2 21)),
  .inl (0, 4, .inl (S.2 22)),
  .inl (0, 4, .inl (S.2 23)),
  .inr (6, [.ref 34, .ref 35]),
  .inl (0, 3, .inl (S.2 24)),
  .inl (3, 3, .inr (.inr (.inr (.inr (fun j => if j < 3 then some (36 + j) else none))))),
  .inl (0, 40, .inl (S.2 25)),
  .inl (0, 40, .inl (S.2 26)),
  .inl (0, 40, .inl (S.2 27)),
  .inr (9, [.int (S.1 11), .ref 40, .int (S.1 12), .int (S.1 13), .ref 41]),
  .inl (1, 80, .inl (S.2 28)),
  .inl (0, 6, .inl (S.2 29)),
  .inr (4, [.ref 43, .ref 44]),
  .inl (0, 16, .inl (S.2 30)),
  .inl (0, 16, .inl (S.2 31)),
  .inr (10, [.int (S.1 14), .int (S.1 15), .int (S.1 16)]),
  .inr (7, [.int (S.1 17), .int (S.1 18)]),
  .inr (3, [.ref 48, .ref 49, .int (S.1 19), .int (S.1 20), .int (S.1 21)]),
  .inl (0, 17, .inl (S.2 32)),
  .inl (0, 17, .inl (S.2 33)),
  .inr (5, [.int (S.1 22), .ref 51]),
  .inl (2, 224, .inl (S.2 34))]
theorem hX_len (S : PS) : (hX S).length = 52 := rfl
theorem sX_I10 (S : PS) (v : Int32) : (hX S).set 0 (.inr (11, ([.ref 1, .ref 17, .int (S.1 10), .ref 33, .ref 39, .ref 42, .ref 45, .ref 46, .ref 47, .ref 50] : List Value).set 2 (.int v))) = hX (pI S 10 v) := rfl
theorem sX_I0 (S : PS) (v : Int32) : (hX S).set 2 (.inr (2, ([.int (S.1 0), .int (S.1 1), .int (S.1 2), .int (S.1 3), .ref 3, .ref 4] : List Value).set 0 (.int v))) = hX (pI S 0 v) := rfl
theorem sX_I1 (S : PS) (v : Int32) : (hX S).set 2 (.inr (2, ([.int (S.1 0), .int (S.1 1), .int (S.1 2), .int (S.1 3), .ref 3, .ref 4] : List Value).set 1 (.int v))) = hX (pI S 1 v) := rfl
theorem sX_I2 (S : PS) (v : Int32) : (hX S).set 2 (.inr (2, ([.int (S.1 0), .int (S.1 1), .int (S.1 2), .int (S.1 3), .ref 3, .ref 4] : List Value).set 2 (.int v))) = hX (pI S 2 v) := rfl
theorem sX_I3 (S : PS) (v : Int32) : (hX S).set 2 (.inr (2, ([.int (S.1 0), .int (S.1 1), .int (S.1 2), .int (S.1 3), .ref 3, .ref 4] : List Value).set 3 (.int v))) = hX (pI S 3 v) := rfl
theorem sX_A0 (S : PS) (f : Nat → Int32) : (hX S).set 3 (.inl (0, 10, .inl f)) = hX (pAr S 0 f) := rfl
theorem sX_A1 (S : PS) (f : Nat → Int32) : (hX S).set 4 (.inl (0, 10, .inl f)) = hX (pAr S 1 f) := rfl
theorem sX_I4 (S : PS) (v : Int32) : (hX S).set 5 (.inr (1, ([.int (S.1 4), .ref 6, .ref 7, .ref 8, .ref 9, .ref 10, .ref 11] : List Value).set 0 (.int v))) = hX (pI S 4 v) := rfl
theorem sX_A2 (S : PS) (f : Nat → Int32) : (hX S).set 6 (.inl (0, 16, .inl f)) = hX (pAr S 2 f) := rfl
theorem sX_A3 (S : PS) (f : Nat → Int32) : (hX S).set 7 (.inl (0, 16, .inl f)) = hX (pAr S 3 f) := rfl
theorem sX_A4 (S : PS) (f : Nat → Int32) : (hX S).set 8 (.inl (0, 16, .inl f)) = hX (pAr S 4 f) := rfl
theorem sX_A5 (S : PS) (f : Nat → Int32) : (hX S).set 9 (.inl (0, 16, .inl f)) = hX (pAr S 5 f) := rfl
theorem sX_A6 (S : PS) (f : Nat → Int32) : (hX S).set 10 (.inl (0, 16, .inl f)) = hX (pAr S 6 f) := rfl
theorem sX_A7 (S : PS) (f : Nat → Int32) : (hX S).set 11 (.inl (0, 16, .inl f)) = hX (pAr S 7 f) := rfl
theorem sX_A8 (S : PS) (f : Nat → Int32) : (hX S).set 13 (.inl (0, 4, .inl f)) = hX (pAr S 8 f) := rfl
theorem sX_A9 (S : PS) (f : Nat → Int32) : (hX S).set 14 (.inl (0, 4, .inl f)) = hX (pAr S 9 f) := rfl
theorem sX_A10 (S : PS) (f : Nat → Int32) : (hX S).set 15 (.inl (0, 4, .inl f)) = hX (pAr S 10 f) := rfl
theorem sX_A11 (S : PS) (f : Nat → Int32) : (hX S).set 16 (.inl (0, 4, .inl f)) = hX (pAr S 11 f) := rfl
theorem sX_I5 (S : PS) (v : Int32) : (hX S).set 18 (.inr (2, ([.int (S.1 5), .int (S.1 6), .int (S.1 7), .int (S.1 8), .ref 19, .ref 20] : List Value).set 0 (.int v))) = hX (pI S 5 v) := rfl
theorem sX_I6 (S : PS) (v : Int32) : (hX S).set 18 (.inr (2, ([.int (S.1 5), .int (S.1 6), .int (S.1 7), .int (S.1 8), .ref 19, .ref 20] : List Value).set 1 (.int v))) = hX (pI S 6 v) := rfl
theorem sX_I7 (S : PS) (v : Int32) : (hX S).set 18 (.inr (2, ([.int (S.1 5), .int (S.1 6), .int (S.1 7), .int (S.1 8), .ref 19, .ref 20] : List Value).set 2 (.int v))) = hX (pI S 7 v) := rfl
theorem sX_I8 (S : PS) (v : Int32) : (hX S).set 18 (.inr (2, ([.int (S.1 5), .int (S.1 6), .int (S.1 7), .int (S.1 8), .ref 19, .ref 20] : List Value).set 3 (.int v))) = hX (pI S 8 v) := rfl
theorem sX_A12 (S : PS) (f : Nat → Int32) : (hX S).set 19 (.inl (0, 10, .inl f)) = hX (pAr S 12 f) := rfl
theorem sX_A13 (S : PS) (f : Nat → Int32) : (hX S).set 20 (.inl (0, 10, .inl f)) = hX (pAr S 13 f) := rfl
theorem sX_I9 (S : PS) (v : Int32) : (hX S).set 21 (.inr (1, ([.int (S.1 9), .ref 22, .ref 23, .ref 24, .ref 25, .ref 26, .ref 27] : List Value).set 0 (.int v))) = hX (pI S 9 v) := rfl
theorem sX_A14 (S : PS) (f : Nat → Int32) : (hX S).set 22 (.inl (0, 16, .inl f)) = hX (pAr S 14 f) := rfl
theorem sX_A15 (S : PS) (f : Nat → Int32) : (hX S).set 23 (.inl (0, 16, .inl f)) = hX (pAr S 15 f) := rfl
theorem sX_A16 (S : PS) (f : Nat → Int32) : (hX S).set 24 (.inl (0, 16, .inl f)) = hX (pAr S 16 f) := rfl
theorem sX_A17 (S : PS) (f : Nat → Int32) : (hX S).set 25 (.inl (0, 16, .inl f)) = hX (pAr S 17 f) := rfl
theorem sX_A18 (S : PS) (f : Nat → Int32) : (hX S).set 26 (.inl (0, 16, .inl f)) = hX (pAr S 18 f) := rfl
theorem sX_A19 (S : PS) (f : Nat → Int32) : (hX S).set 27 (.inl (0, 16, .inl f)) = hX (pAr S 19 f) := rfl
theorem sX_A20 (S : PS) (f : Nat → Int32) : (hX S).set 29 (.inl (0, 4, .inl f)) = hX (pAr S 20 f) := rfl
theorem sX_A21 (S : PS) (f : Nat → Int32) : (hX S).set 30 (.inl (0, 4, .inl f)) = hX (pAr S 21 f) := rfl
theorem sX_A22 (S : PS) (f : Nat → Int32) : (hX S).set 31 (.inl (0, 4, .inl f)) = hX (pAr S 22 f) := rfl
theorem sX_A23 (S : PS) (f : Nat → Int32) : (hX S).set 32 (.inl (0, 4, .inl f)) = hX (pAr S 23 f) := rfl
theorem sX_A24 (S : PS) (f : Nat → Int32) : (hX S).set 34 (.inl (0, 3, .inl f)) = hX (pAr S 24 f) := rfl
theorem gX_R36 (S : PS) {r : Nat} (hr : r < 3) : (hX S)[36 + r]? = some (.inl (0, 40, .inl (S.2 (25 + r)))) := by
  rcases (show r = 0 ∨ r = 1 ∨ r = 2 by omega) with rfl | rfl | rfl <;> rfl
theorem sX_R36 (S : PS) {r : Nat} (hr : r < 3) (f : Nat → Int32) : (hX S).set (36 + r) (.inl (0, 40, .inl f)) = hX (pAr S (25 + r) f) := by
  rcases (show r = 0 ∨ r = 1 ∨ r = 2 by omega) with rfl | rfl | rfl <;> rfl
theorem sX_A25 (S : PS) (f : Nat → Int32) : (hX S).set 36 (.inl (0, 40, .inl f)) = hX (pAr S 25 f) := rfl
theorem sX_A26 (S : PS) (f : Nat → Int32) : (hX S).set 37 (.inl (0, 40, .inl f)) = hX (pAr S 26 f) := rfl
theorem sX_A27 (S : PS) (f : Nat → Int32) : (hX S).set 38 (.inl (0, 40, .inl f)) = hX (pAr S 27 f) := rfl
theorem sX_I11 (S : PS) (v : Int32) : (hX S).set 39 (.inr (9, ([.int (S.1 11), .ref 40, .int (S.1 12), .int (S.1 13), .ref 41] : List Value).set 0 (.int v))) = hX (pI S 11 v) := rfl
theorem sX_I12 (S : PS) (v : Int32) : (hX S).set 39 (.inr (9, ([.int (S.1 11), .ref 40, .int (S.1 12), .int (S.1 13), .ref 41] : List Value).set 2 (.int v))) = hX (pI S 12 v) := rfl
theorem sX_I13 (S : PS) (v : Int32) : (hX S).set 39 (.inr (9, ([.int (S.1 11), .ref 40, .int (S.1 12), .int (S.1 13), .ref 41] : List Value).set 3 (.int v))) = hX (pI S 13 v) := rfl
theorem sX_A28 (S : PS) (f : Nat → Int32) : (hX S).set 40 (.inl (1, 80, .inl f)) = hX (pAr S 28 f) := rfl
theorem sX_A29 (S : PS) (f : Nat → Int32) : (hX S).set 41 (.inl (0, 6, .inl f)) = hX (pAr S 29 f) := rfl
theorem sX_A30 (S : PS) (f : Nat → Int32) : (hX S).set 43 (.inl (0, 16, .inl f)) = hX (pAr S 30 f) := rfl
theorem sX_A31 (S : PS) (f : Nat → Int32) : (hX S).set 44 (.inl (0, 16, .inl f)) = hX (pAr S 31 f) := rfl
theorem sX_I14 (S : PS) (v : Int32) : (hX S).set 45 (.inr (10, ([.int (S.1 14), .int (S.1 15), .int (S.1 16)] : List Value).set 0 (.int v))) = hX (pI S 14 v) := rfl
theorem sX_I15 (S : PS) (v : Int32) : (hX S).set 45 (.inr (10, ([.int (S.1 14), .int (S.1 15), .int (S.1 16)] : List Value).set 1 (.int v))) = hX (pI S 15 v) := rfl
theorem sX_I16 (S : PS) (v : Int32) : (hX S).set 45 (.inr (10, ([.int (S.1 14), .int (S.1 15), .int (S.1 16)] : List Value).set 2 (.int v))) = hX (pI S 16 v) := rfl
theorem sX_I17 (S : PS) (v : Int32) : (hX S).set 46 (.inr (7, ([.int (S.1 17), .int (S.1 18)] : List Value).set 0 (.int v))) = hX (pI S 17 v) := rfl
theorem sX_I18 (S : PS) (v : Int32) : (hX S).set 46 (.inr (7, ([.int (S.1 17), .int (S.1 18)] : List Value).set 1 (.int v))) = hX (pI S 18 v) := rfl
theorem sX_I19 (S : PS) (v : Int32) : (hX S).set 47 (.inr (3, ([.ref 48, .ref 49, .int (S.1 19), .int (S.1 20), .int (S.1 21)] : List Value).set 2 (.int v))) = hX (pI S 19 v) := rfl
theorem sX_I20 (S : PS) (v : Int32) : (hX S).set 47 (.inr (3, ([.ref 48, .ref 49, .int (S.1 19), .int (S.1 20), .int (S.1 21)] : List Value).set 3 (.int v))) = hX (pI S 20 v) := rfl
theorem sX_I21 (S : PS) (v : Int32) : (hX S).set 47 (.inr (3, ([.ref 48, .ref 49, .int (S.1 19), .int (S.1 20), .int (S.1 21)] : List Value).set 4 (.int v))) = hX (pI S 21 v) := rfl
theorem sX_A32 (S : PS) (f : Nat → Int32) : (hX S).set 48 (.inl (0, 17, .inl f)) = hX (pAr S 32 f) := rfl
theorem sX_A33 (S : PS) (f : Nat → Int32) : (hX S).set 49 (.inl (0, 17, .inl f)) = hX (pAr S 33 f) := rfl
theorem sX_I22 (S : PS) (v : Int32) : (hX S).set 50 (.inr (5, ([.int (S.1 22), .ref 51] : List Value).set 0 (.int v))) = hX (pI S 22 v) := rfl
theorem sX_A34 (S : PS) (f : Nat → Int32) : (hX S).set 51 (.inl (2, 224, .inl f)) = hX (pAr S 34 f) := rfl
def hM (S : PS) : List PC := [.inr (12, [.int (S.1 0), .int (S.1 1), .int (S.1 2), .int (S.1 3), .ref 1, .ref 2, .int (S.1 4), .ref 3, .ref 4, .ref 5, .ref 6, .ref 7, .ref 8, .ref 9, .ref 10, .ref 11, .ref 12, .ref 13, .ref 14, .ref 15, .int (S.1 14), .ref 16, .int (S.1 11), .int (S.1 12), .int (S.1 13), .ref 17, .ref 18, .ref 19, .ref 20, .int (S.1 10), .ref 24, .ref 25]),
  .inl (0, 10, .inl (S.2 0)),
  .inl (0, 10, .inl (S.2 1)),
  .inl (0, 16, .inl (S.2 2)),
  .inl (0, 16, .inl (S.2 3)),
  .inl (0, 16, .inl (S.2 4)),
  .inl (0, 16, .inl (S.2 5)),
  .inl (0, 16, .inl (S.2 6)),
  .inl (0, 16, .inl (S.2 7)),
  .inl (0, 4, .inl (S.2 8)),
  .inl (0, 4, .inl (S.2 9)),
  .inl (0, 4, .inl (S.2 10)),
  .inl (0, 4, .inl (S.2 11)),
  .inl (0, 16, .inl (S.2 30)),
  .inl (0, 17, .inl (S.2 31)),
  .inl (1, 320, .inl (S.2 34)),
  .inl (1, 80, .inl (S.2 28)),
  .inl (0, 80, .inl (S.2 35)),
  .inl (0, 480, .inl (S.2 36)),
  .inl (0, 3, .inl (S.2 24)),
  .inl (3, 3, .inr (.inr (.inr (.inr (fun j => if j < 3 then some (21 + j) else none))))),
  .inl (0, 40, .inl (S.2 25)),
  .inl (0, 40, .inl (S.2 26)),
  .inl (0, 40, .inl (S.2 27)),
  .inl (0, 5, .inl (S.2 29)),
  .inl (3, 12, .inr (.inr (.inr (.inr (fun j => if j < 12 then some (26 + j) else none))))),
  .inl (0, 16, .inl (S.2 12)),
  .inl (0, 16, .inl (S.2 13)),
  .inl (0, 16, .inl (S.2 14)),
  .inl (0, 16, .inl (S.2 15)),
  .inl (0, 16, .inl (S.2 16)),
  .inl (0, 16, .inl (S.2 17)),
  .inl (0, 16, .inl (S.2 18)),
  .inl (0, 16, .inl (S.2 19)),
  .inl (0, 16, .inl (S.2 20)),
  .inl (0, 16, .inl (S.2 21)),
  .inl (0, 16, .inl (S.2 22)),
  .inl (0, 16, .inl (S.2 23))]
theorem hM_len (S : PS) : (hM S).length = 38 := rfl
theorem sM_I0 (S : PS) (v : Int32) : (hM S).set 0 (.inr (12, ([.int (S.1 0), .int (S.1 1), .int (S.1 2), .int (S.1 3), .ref 1, .ref 2, .int (S.1 4), .ref 3, .ref 4, .ref 5, .ref 6, .ref 7, .ref 8, .ref 9, .ref 10, .ref 11, .ref 12, .ref 13, .ref 14, .ref 15, .int (S.1 14), .ref 16, .int (S.1 11), .int (S.1 12), .int (S.1 13), .ref 17, .ref 18, .ref 19, .ref 20, .int (S.1 10), .ref 24, .ref 25] : List Value).set 0 (.int v))) = hM (pI S 0 v) := rfl
theorem sM_I1 (S : PS) (v : Int32) : (hM S).set 0 (.inr (12, ([.int (S.1 0), .int (S.1 1), .int (S.1 2), .int (S.1 3), .ref 1, .ref 2, .int (S.1 4), .ref 3, .ref 4, .ref 5, .ref 6, .ref 7, .ref 8, .ref 9, .ref 10, .ref 11, .ref 12, .ref 13, .ref 14, .ref 15, .int (S.1 14), .ref 16, .int (S.1 11), .int (S.1 12), .int (S.1 13), .ref 17, .ref 18, .ref 19, .ref 20, .int (S.1 10), .ref 24, .ref 25] : List Value).set 1 (.int v))) = hM (pI S 1 v) := rfl
theorem sM_I2 (S : PS) (v : Int32) : (hM S).set 0 (.inr (12, ([.int (S.1 0), .int (S.1 1), .int (S.1 2), .int (S.1 3), .ref 1, .ref 2, .int (S.1 4), .ref 3, .ref 4, .ref 5, .ref 6, .ref 7, .ref 8, .ref 9, .ref 10, .ref 11, .ref 12, .ref 13, .ref 14, .ref 15, .int (S.1 14), .ref 16, .int (S.1 11), .int (S.1 12), .int (S.1 13), .ref 17, .ref 18, .ref 19, .ref 20, .int (S.1 10), .ref 24, .ref 25] : List Value).set 2 (.int v))) = hM (pI S 2 v) := rfl
theorem sM_I3 (S : PS) (v : Int32) : (hM S).set 0 (.inr (12, ([.int (S.1 0), .int (S.1 1), .int (S.1 2), .int (S.1 3), .ref 1, .ref 2, .int (S.1 4), .ref 3, .ref 4, .ref 5, .ref 6, .ref 7, .ref 8, .ref 9, .ref 10, .ref 11, .ref 12, .ref 13, .ref 14, .ref 15, .int (S.1 14), .ref 16, .int (S.1 11), .int (S.1 12), .int (S.1 13), .ref 17, .ref 18, .ref 19, .ref 20, .int (S.1 10), .ref 24, .ref 25] : List Value).set 3 (.int v))) = hM (pI S 3 v) := rfl
theorem sM_I4 (S : PS) (v : Int32) : (hM S).set 0 (.inr (12, ([.int (S.1 0), .int (S.1 1), .int (S.1 2), .int (S.1 3), .ref 1, .ref 2, .int (S.1 4), .ref 3, .ref 4, .ref 5, .ref 6, .ref 7, .ref 8, .ref 9, .ref 10, .ref 11, .ref 12, .ref 13, .ref 14, .ref 15, .int (S.1 14), .ref 16, .int (S.1 11), .int (S.1 12), .int (S.1 13), .ref 17, .ref 18, .ref 19, .ref 20, .int (S.1 10), .ref 24, .ref 25] : List Value).set 6 (.int v))) = hM (pI S 4 v) := rfl
theorem sM_I14 (S : PS) (v : Int32) : (hM S).set 0 (.inr (12, ([.int (S.1 0), .int (S.1 1), .int (S.1 2), .int (S.1 3), .ref 1, .ref 2, .int (S.1 4), .ref 3, .ref 4, .ref 5, .ref 6, .ref 7, .ref 8, .ref 9, .ref 10, .ref 11, .ref 12, .ref 13, .ref 14, .ref 15, .int (S.1 14), .ref 16, .int (S.1 11), .int (S.1 12), .int (S.1 13), .ref 17, .ref 18, .ref 19, .ref 20, .int (S.1 10), .ref 24, .ref 25] : List Value).set 20 (.int v))) = hM (pI S 14 v) := rfl
theorem sM_I11 (S : PS) (v : Int32) : (hM S).set 0 (.inr (12, ([.int (S.1 0), .int (S.1 1), .int (S.1 2), .int (S.1 3), .ref 1, .ref 2, .int (S.1 4), .ref 3, .ref 4, .ref 5, .ref 6, .ref 7, .ref 8, .ref 9, .ref 10, .ref 11, .ref 12, .ref 13, .ref 14, .ref 15, .int (S.1 14), .ref 16, .int (S.1 11), .int (S.1 12), .int (S.1 13), .ref 17, .ref 18, .ref 19, .ref 20, .int (S.1 10), .ref 24, .ref 25] : List Value).set 22 (.int v))) = hM (pI S 11 v) := rfl
theorem sM_I12 (S : PS) (v : Int32) : (hM S).set 0 (.inr (12, ([.int (S.1 0), .int (S.1 1), .int (S.1 2), .int (S.1 3), .ref 1, .ref 2, .int (S.1 4), .ref 3, .ref 4, .ref 5, .ref 6, .ref 7, .ref 8, .ref 9, .ref 10, .ref 11, .ref 12, .ref 13, .ref 14, .ref 15, .int (S.1 14), .ref 16, .int (S.1 11), .int (S.1 12), .int (S.1 13), .ref 17, .ref 18, .ref 19, .ref 20, .int (S.1 10), .ref 24, .ref 25] : List Value).set 23 (.int v))) = hM (pI S 12 v) := rfl
theorem sM_I13 (S : PS) (v : Int32) : (hM S).set 0 (.inr (12, ([.int (S.1 0), .int (S.1 1), .int (S.1 2), .int (S.1 3), .ref 1, .ref 2, .int (S.1 4), .ref 3, .ref 4, .ref 5, .ref 6, .ref 7, .ref 8, .ref 9, .ref 10, .ref 11, .ref 12, .ref 13, .ref 14, .ref 15, .int (S.1 14), .ref 16, .int (S.1 11), .int (S.1 12), .int (S.1 13), .ref 17, .ref 18, .ref 19, .ref 20, .int (S.1 10), .ref 24, .ref 25] : List Value).set 24 (.int v))) = hM (pI S 13 v) := rfl
theorem sM_I10 (S : PS) (v : Int32) : (hM S).set 0 (.inr (12, ([.int (S.1 0), .int (S.1 1), .int (S.1 2), .int (S.1 3), .ref 1, .ref 2, .int (S.1 4), .ref 3, .ref 4, .ref 5, .ref 6, .ref 7, .ref 8, .ref 9, .ref 10, .ref 11, .ref 12, .ref 13, .ref 14, .ref 15, .int (S.1 14), .ref 16, .int (S.1 11), .int (S.1 12), .int (S.1 13), .ref 17, .ref 18, .ref 19, .ref 20, .int (S.1 10), .ref 24, .ref 25] : List Value).set 29 (.int v))) = hM (pI S 10 v) := rfl
theorem sM_A0 (S : PS) (f : Nat → Int32) : (hM S).set 1 (.inl (0, 10, .inl f)) = hM (pAr S 0 f) := rfl
theorem sM_A1 (S : PS) (f : Nat → Int32) : (hM S).set 2 (.inl (0, 10, .inl f)) = hM (pAr S 1 f) := rfl
theorem sM_A2 (S : PS) (f : Nat → Int32) : (hM S).set 3 (.inl (0, 16, .inl f)) = hM (pAr S 2 f) := rfl
theorem sM_A3 (S : PS) (f : Nat → Int32) : (hM S).set 4 (.inl (0, 16, .inl f)) = hM (pAr S 3 f) := rfl
theorem sM_A4 (S : PS) (f : Nat → Int32) : (hM S).set 5 (.inl (0, 16, .inl f)) = hM (pAr S 4 f) := rfl
theorem sM_A5 (S : PS) (f : Nat → Int32) : (hM S).set 6 (.inl (0, 16, .inl f)) = hM (pAr S 5 f) := rfl
theorem sM_A6 (S : PS) (f : Nat → Int32) : (hM S).set 7 (.inl (0, 16, .inl f)) = hM (pAr S 6 f) := rfl
theorem sM_A7 (S : PS) (f : Nat → Int32) : (hM S).set 8 (.inl (0, 16, .inl f)) = hM (pAr S 7 f) := rfl
theorem sM_A8 (S : PS) (f : Nat → Int32) : (hM S).set 9 (.inl (0, 4, .inl f)) = hM (pAr S 8 f) := rfl
theorem sM_A9 (S : PS) (f : Nat → Int32) : (hM S).set 10 (.inl (0, 4, .inl f)) = hM (pAr S 9 f) := rfl
theorem sM_A10 (S : PS) (f : Nat → Int32) : (hM S).set 11 (.inl (0, 4, .inl f)) = hM (pAr S 10 f) := rfl
theorem sM_A11 (S : PS) (f : Nat → Int32) : (hM S).set 12 (.inl (0, 4, .inl f)) = hM (pAr S 11 f) := rfl
theorem sM_A30 (S : PS) (f : Nat → Int32) : (hM S).set 13 (.inl (0, 16, .inl f)) = hM (pAr S 30 f) := rfl
theorem sM_A31 (S : PS) (f : Nat → Int32) : (hM S).set 14 (.inl (0, 17, .inl f)) = hM (pAr S 31 f) := rfl
theorem sM_A34 (S : PS) (f : Nat → Int32) : (hM S).set 15 (.inl (1, 320, .inl f)) = hM (pAr S 34 f) := rfl
theorem sM_A28 (S : PS) (f : Nat → Int32) : (hM S).set 16 (.inl (1, 80, .inl f)) = hM (pAr S 28 f) := rfl
theorem sM_A35 (S : PS) (f : Nat → Int32) : (hM S).set 17 (.inl (0, 80, .inl f)) = hM (pAr S 35 f) := rfl
theorem sM_A36 (S : PS) (f : Nat → Int32) : (hM S).set 18 (.inl (0, 480, .inl f)) = hM (pAr S 36 f) := rfl
theorem sM_A24 (S : PS) (f : Nat → Int32) : (hM S).set 19 (.inl (0, 3, .inl f)) = hM (pAr S 24 f) := rfl
theorem gM_R21 (S : PS) {r : Nat} (hr : r < 3) : (hM S)[21 + r]? = some (.inl (0, 40, .inl (S.2 (25 + r)))) := by
  rcases (show r = 0 ∨ r = 1 ∨ r = 2 by omega) with rfl | rfl | rfl <;> rfl
theorem sM_R21 (S : PS) {r : Nat} (hr : r < 3) (f : Nat → Int32) : (hM S).set (21 + r) (.inl (0, 40, .inl f)) = hM (pAr S (25 + r) f) := by
  rcases (show r = 0 ∨ r = 1 ∨ r = 2 by omega) with rfl | rfl | rfl <;> rfl
theorem sM_A25 (S : PS) (f : Nat → Int32) : (hM S).set 21 (.inl (0, 40, .inl f)) = hM (pAr S 25 f) := rfl
theorem sM_A26 (S : PS) (f : Nat → Int32) : (hM S).set 22 (.inl (0, 40, .inl f)) = hM (pAr S 26 f) := rfl
theorem sM_A27 (S : PS) (f : Nat → Int32) : (hM S).set 23 (.inl (0, 40, .inl f)) = hM (pAr S 27 f) := rfl
theorem sM_A29 (S : PS) (f : Nat → Int32) : (hM S).set 24 (.inl (0, 5, .inl f)) = hM (pAr S 29 f) := rfl
theorem gM_R26 (S : PS) {r : Nat} (hr : r < 12) : (hM S)[26 + r]? = some (.inl (0, 16, .inl (S.2 (12 + r)))) := by
  rcases (show r = 0 ∨ r = 1 ∨ r = 2 ∨ r = 3 ∨ r = 4 ∨ r = 5 ∨ r = 6 ∨ r = 7 ∨ r = 8 ∨ r = 9 ∨ r = 10 ∨ r = 11 by omega) with rfl | rfl | rfl | rfl | rfl | rfl | rfl | rfl | rfl | rfl | rfl | rfl <;> rfl
theorem sM_R26 (S : PS) {r : Nat} (hr : r < 12) (f : Nat → Int32) : (hM S).set (26 + r) (.inl (0, 16, .inl f)) = hM (pAr S (12 + r) f) := by
  rcases (show r = 0 ∨ r = 1 ∨ r = 2 ∨ r = 3 ∨ r = 4 ∨ r = 5 ∨ r = 6 ∨ r = 7 ∨ r = 8 ∨ r = 9 ∨ r = 10 ∨ r = 11 by omega) with rfl | rfl | rfl | rfl | rfl | rfl | rfl | rfl | rfl | rfl | rfl | rfl <;> rfl
theorem sM_A12 (S : PS) (f : Nat → Int32) : (hM S).set 26 (.inl (0, 16, .inl f)) = hM (pAr S 12 f) := rfl
theorem sM_A13 (S : PS) (f : Nat → Int32) : (hM S).set 27 (.inl (0, 16, .inl f)) = hM (pAr S 13 f) := rfl
theorem sM_A14 (S : PS) (f : Nat → Int32) : (hM S).set 28 (.inl (0, 16, .inl f)) = hM (pAr S 14 f) := rfl
theorem sM_A15 (S : PS) (f : Nat → Int32) : (hM S).set 29 (.inl (0, 16, .inl f)) = hM (pAr S 15 f) := rfl
theorem sM_A16 (S : PS) (f : Nat → Int32) : (hM S).set 30 (.inl (0, 16, .inl f)) = hM (pAr S 16 f) := rfl
theorem sM_A17 (S : PS) (f : Nat → Int32) : (hM S).set 31 (.inl (0, 16, .inl f)) = hM (pAr S 17 f) := rfl
theorem sM_A18 (S : PS) (f : Nat → Int32) : (hM S).set 32 (.inl (0, 16, .inl f)) = hM (pAr S 18 f) := rfl
theorem sM_A19 (S : PS) (f : Nat → Int32) : (hM S).set 33 (.inl (0, 16, .inl f)) = hM (pAr S 19 f) := rfl
theorem sM_A20 (S : PS) (f : Nat → Int32) : (hM S).set 34 (.inl (0, 16, .inl f)) = hM (pAr S 20 f) := rfl
theorem sM_A21 (S : PS) (f : Nat → Int32) : (hM S).set 35 (.inl (0, 16, .inl f)) = hM (pAr S 21 f) := rfl
theorem sM_A22 (S : PS) (f : Nat → Int32) : (hM S).set 36 (.inl (0, 16, .inl f)) = hM (pAr S 22 f) := rfl
theorem sM_A23 (S : PS) (f : Nat → Int32) : (hM S).set 37 (.inl (0, 16, .inl f)) = hM (pAr S 23 f) := rfl

/-! words of the functions that are read off the code -/
def pin (i : Int32) (n : Nat) : Bool := !(decide (i < 0)) && decide (i.toNatClampNeg < n)
theorem pin_in {i : Int32} {n : Nat} (h : pin i n = true) : vp_in i n := by
  unfold pin at h
  simp only [Bool.and_eq_true, Bool.not_eq_true', decide_eq_false_iff_not, decide_eq_true_eq] at h
  exact fun q => q.elim h.1 (fun q => by omega)
theorem pin_lt {i : Int32} {n : Nat} (h : pin i n = true) : i.toNatClampNeg < n := by
  unfold pin at h
  simp only [Bool.and_eq_true, Bool.not_eq_true', decide_eq_false_iff_not, decide_eq_true_eq] at h
  exact h.2
def pbit (v : Int32) : Bool := decide (v &&& 1 = v)
theorem pbit_n {v : Int32} (h : pbit v = true) : narrow .boolean (.int v) = .int v := congrArg Value.int (of_decide_eq_true h)
def pchr (v : Int32) : Bool := decide (v.toUInt32.toUInt16.toUInt32.toInt32 = v)
theorem pchr_n {v : Int32} (h : pchr v = true) : narrow .char (.int v) = .int v := congrArg Value.int (of_decide_eq_true h)
def pnz (v : Int32) : Bool := !(decide (v = 0))
theorem pnz_n {v : Int32} (h : pnz v = true) : ¬ v = 0 := by
  unfold pnz at h
  simpa using h
def pO {β : Type} (o : Option β) (P : β → Prop) : Prop := match o with
  | none => False
  | some x => P x
def pgd {β : Type} (b : Bool) (k : Option β) : Option β := match b with
  | true => k
  | false => none
def pbnd {α β : Type} (o : Option (α × PS)) (k : α → PS → Option β) : Option β := match o with
  | none => none
  | some x => k x.1 x.2
/-- behind a loop, in a method's body -/
def plp {τ ω : Type} (o : Option (τ ⊕ ω)) (k : ω → Option τ) : Option τ := match o with
  | none => none
  | some (.inl x) => some x
  | some (.inr w) => k w
/-- behind a loop, within another loop -/
def plq {τ ω ω' : Type} (o : Option (τ ⊕ ω)) (k : ω → Option (τ ⊕ ω')) : Option (τ ⊕ ω') := match o with
  | none => none
  | some (.inl x) => some (.inl x)
  | some (.inr w) => k w
def pstr {β : Type} (r : Nat) (k : Nat → Option β) : Option β := if 1000 ≤ r ∧ r < 1011 then k (r - 1000) else none
def pfuel : Nat := 4096
def pfil (n : Nat) (v : Int32) (f : Nat → Int32) : Nat → Int32 := fun j => if j < n then v else f j
theorem pO_pos {β : Type} {c : Prop} [Decidable c] {a b : Option β} {P : β → Prop} (h : c) (hf : pO (if c then a else b) P) : pO a P := by rwa [if_pos h] at hf
theorem pO_neg {β : Type} {c : Prop} [Decidable c] {a b : Option β} {P : β → Prop} (h : ¬ c) (hf : pO (if c then a else b) P) : pO b P := by rwa [if_neg h] at hf
theorem pO_gd {β : Type} {b : Bool} {k : Option β} {P : β → Prop} (hf : pO (pgd b k) P) : b = true ∧ pO k P := by
  cases b
  · exact hf.elim
  · exact ⟨rfl, hf⟩
theorem pO_bnd {α β : Type} {o : Option (α × PS)} {k : α → PS → Option β} {P : β → Prop} (hf : pO (pbnd o k) P) : pO o (fun x => pO (k x.1 x.2) P) := by
  cases o
  · exact hf.elim
  · exact hf
theorem pO_lp {τ ω : Type} {o : Option (τ ⊕ ω)} {k : ω → Option τ} {P : τ → Prop} {P2 : τ ⊕ ω → Prop} (hf : pO (plp o k) P) (h1 : ∀ x, P x → P2 (.inl x)) (h2 : ∀ w, pO (k w) P → P2 (.inr w)) : pO o P2 := by
  match o, hf with
  | some (.inl x), hf => exact h1 x hf
  | some (.inr w), hf => exact h2 w hf
theorem pO_lq {τ ω ω' : Type} {o : Option (τ ⊕ ω)} {k : ω → Option (τ ⊕ ω')} {P : τ ⊕ ω' → Prop} {P2 : τ ⊕ ω → Prop} (hf : pO (plq o k) P) (h1 : ∀ x, P (.inl x) → P2 (.inl x)) (h2 : ∀ w, pO (k w) P → P2 (.inr w)) : pO o P2 := by
  match o, hf with
  | some (.inl x), hf => exact h1 x hf
  | some (.inr w), hf => exact h2 w hf
theorem pO_str {β : Type} {r : Nat} {k : Nat → Option β} {P : β → Prop} (hf : pO (pstr r k) P) : ∃ i : Nat, i < 11 ∧ r = i + 1000 ∧ pO (k i) P := by
  unfold pstr at hf
  by_cases h : 1000 ≤ r ∧ r < 1011
  · rw [if_pos h] at hf
    exact ⟨r - 1000, by omega, by omega, hf⟩
  · rw [if_neg h] at hf
    exact hf.elim
theorem pO_some {β : Type} {o : Option β} {x : β} (h : o = some x) : pO o (fun y => y = x) := by rw [h]; exact rfl
theorem pti {x c : Int32} {k : Int} (h : ¬ x = c) (e : c.toInt = k) : ¬ x.toInt = k := fun q => h (Int32.toInt_inj.mp (q.trans e.symm))
theorem plook_d {dflt : Int} {pp : List (Int × Int)} {x : Int} (h : ∀ q ∈ pp, ¬ x = q.1) : Op.lookupswitch.offset pp dflt x = dflt := by
  induction pp with
  | nil => rfl
  | cons q r ih =>
    obtain ⟨a, o⟩ := q
    show (if a = x then o else Op.lookupswitch.offset r dflt x) = dflt
    rw [if_neg (fun e => h (a, o) List.mem_cons_self e.symm)]
    exact ih (fun q hq => h q (List.mem_cons_of_mem _ hq))
def pSub (ls : List (Nat × Value)) : List (Nat × Value) → Prop
  | [] => True
  | q :: r => pg ls q.1 = some q.2 ∧ pSub ls r
theorem pSub_mem {ls : List (Nat × Value)} : ∀ {r : List (Nat × Value)}, pSub ls r → ∀ q ∈ r, pg ls q.1 = some q.2 := by
  intro r
  induction r with
  | nil => intro _ q h; cases h
  | cons p r ih =>
    intro h q hq
    rcases List.mem_cons.mp hq with e | e
    · rw [e]; exact h.1
    · exact ih h.2 q e
theorem E_sub {l : Launch} {D : va_G} {dA : Nat → ClassId} {ad : Nat → Nat} {ws : List Cond} {cc : ByteArray} {own : String} {nL : Nat} {ret : Option FieldType} {d n : Nat} {K : pK} {pc : Nat} {ls ls' : List (Nat × Value)} {st : List Value} {h : List PC} (hs : pSub ls ls') (k : Ev l D dA ad ws cc own nL ret d n K pc ls' st h) : Ev l D dA ad ws cc own nL ret d n K pc ls st h := by
  intro p e s m args below meth c H locs lsA E W0
  obtain ⟨hn0, hP, hD, hS, hl, hl1⟩ := W0
  refine k p e s m args below meth c H locs lsA E ⟨hn0, hP, hD, hS, ⟨hl.1, hl.2.1, fun q hq => ?_⟩, List.all_eq_true.mpr fun q hq => List.all_eq_true.mp hl1 q (pg_mem (pSub_mem hs q hq))⟩
  obtain ⟨p0, hp, rfl⟩ := List.mem_map.mp hq
  exact pg_has hl (pSub_mem hs p0 hp)
