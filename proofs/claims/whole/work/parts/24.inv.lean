/-! the invariant: class and reference hold the same -/
def nr (x y : Int64) : Prop := ∃ l, okN l ∧ x = eC l ∧ y = eM l
theorem nr0 : nr 0 0 := ⟨[], okN.nil, rfl, rfl⟩
def snK (now : Nat → Int32) (u t b : Nat) : Int32 := if t = u then now (4 + 4 * b + 2) else now (52 + 17 * t + 2 * b)
def snN (now : Nat → Int32) (u t b : Nat) : Int32 := if t = u then now (4 + 4 * b + 3) else now (52 + 17 * t + 2 * b + 1)
def snM (now : Nat → Int32) (u t : Nat) : Int32 := if t = u then now 1 else now (52 + 17 * t + 16)
/-- what may be undone at place j: the class's two numbers, the reference's rows -/
def UN (ub uw now : Nat → Int32) (B u j : Nat) : Prop :=
  (∃ q, q < 12 ∧ ub j = -1 ∧ uw j = nI q ∧ snM now u j = nI q ∧ ∀ b, b < 8 → snK now u j b = snK now u (j + 1) b ∧ snN now u j b = snN now u (j + 1) b) ∨
  (∃ b0 kd n, b0 < B ∧ kd < 6 ∧ n < 16 ∧ ub j = nI b0 ∧ uw j = nI (16 * kd + n) ∧ snK now u j b0 = nI kd ∧ snN now u j b0 = nI n ∧ snM now u j = snM now u (j + 1) ∧ ∀ b, b < 8 → b ≠ b0 → snK now u j b = snK now u (j + 1) b ∧ snN now u j b = snN now u (j + 1) b)
/-- a bridge, told alike -/
def BR (fr to ki nu now : Nat → Int32) (k : Nat) : Prop := ∃ a b kd n, a < 6 ∧ b < 6 ∧ kd < 6 ∧ n < 16 ∧ fr k = nI a ∧ now (4 + 4 * k) = nI a ∧ to k = nI b ∧ now (4 + 4 * k + 1) = nI b ∧ ki k = nI kd ∧ now (4 + 4 * k + 2) = nI kd ∧ nu k = nI n ∧ now (4 + 4 * k + 3) = nI n
/-- what was noted, alike -/
def NT (bo mo now : Nat → Int32) (ah be nam : Nat → Int64) (k : Nat) : Prop := (∃ b q, b < 8 ∧ q < 12 ∧ bo k = nI b ∧ now (36 + 2 * k) = nI b ∧ mo k = nI q ∧ now (36 + 2 * k + 1) = nI q) ∧ nr (ah k) (nam (4 + 2 * k)) ∧ nr (be k) (nam (4 + 2 * k + 1))
/-- a river told alike, with its numbers: bridges, month, noted, to be undone -/
def RVn (B m N u : Nat) (ob fr to ki nu : Nat → Int32) (ro : Nat → Int64) (no bo mo : Nat → Int32) (ah be : Nat → Int64) (ub uw now : Nat → Int32) (nam : Nat → Int64) : Prop :=
  (B ≤ 8 ∧ m < 12 ∧ N ≤ 8 ∧ u ≤ 8) ∧ (ob 6 = nI B ∧ now 0 = nI B) ∧ (ob 7 = nI m ∧ now 1 = nI m) ∧ (no 4 = nI N ∧ now 2 = nI N) ∧ (ob 8 = nI u ∧ now 3 = nI u) ∧
  (∀ k, k < B → BR fr to ki nu now k) ∧ (∀ r, r < 4 → nr (ro r) (nam r)) ∧ (∀ k, k < N → NT bo mo now ah be nam k) ∧ (∀ j, j < u → UN ub uw now B u j)
def RV (ob fr to ki nu : Nat → Int32) (ro : Nat → Int64) (no bo mo : Nat → Int32) (ah be : Nat → Int64) (ub uw now : Nat → Int32) (nam : Nat → Int64) : Prop := ∃ B m N u, RVn B m N u ob fr to ki nu ro no bo mo ah be ub uw now nam
def RVr (M : Mem) : Prop := RV (M.1 1) (M.1 2) (M.1 3) (M.1 4) (M.1 5) (M.2 6) (M.1 7) (M.1 8) (M.1 9) (M.2 10) (M.2 11) (M.1 12) (M.1 13) (M.1 64) (M.2 66)
def RV0 (M : Mem) : Prop := RV (M.1 27) (M.1 28) (M.1 29) (M.1 30) (M.1 31) (M.2 32) (M.1 33) (M.1 34) (M.1 35) (M.2 36) (M.2 37) (M.1 38) (M.1 39) (M.1 65) (M.2 67)
def RV1 (M : Mem) : Prop := RV (M.1 40) (M.1 41) (M.1 42) (M.1 43) (M.1 44) (M.2 45) (M.1 46) (M.1 47) (M.1 48) (M.2 49) (M.2 50) (M.1 51) (M.1 52) (fun k => M.1 65 (188 + k)) (fun k => M.2 67 (20 + k))
def TXr (a b c d : Nat → Int32) : Prop := ∃ n, n ≤ 150 ∧ a 0 = nI n ∧ c 20 = nI n ∧ ∀ k, k < n → b k = d k
def KPr (a b : Nat → Int32) (i : Nat) (P : Prop) : Prop := (a i = 0 ∧ b i = 0) ∨ (a i = 1 ∧ b i = 1 ∧ P)
def Inv (M : Mem) : Prop := RVr M ∧ TXr (M.1 55) (M.1 56) (M.1 63) (M.1 77) ∧ KPr (M.1 54) (M.1 68) 0 (RV0 M) ∧ KPr (M.1 54) (M.1 68) 1 (RV1 M) ∧ (M.2 60 0 = M.2 63 6 ∧ M.2 60 1 = M.2 63 7) ∧ (M.1 0 9 = M.1 69 0 ∧ M.1 0 10 = M.1 69 1 ∧ M.1 0 11 = M.1 69 2)
def Same {α : Type} (f7 f8 : Mem → Option (α × Mem)) (M : Mem) : Prop := ∃ r M1 M2, f7 M = some (r, M1) ∧ f8 M1 = some (r, M2) ∧ Inv M2
theorem u_s {f : Nat → Int32} {k : Nat} {x : Int32} : upd f k x k = x := pk_us
theorem mI_at {M : Mem} {k i : Nat} {v : Int32} : (mI M k i v).1 k = upd (M.1 k) i v := rI_eq
theorem mL_at {M : Mem} {k i : Nat} {v : Int64} : (mL M k i v).2 k = vp_updL (M.2 k) i v := rL_eq
theorem inv_bad {M : Mem} (h : Inv M) : Inv (mI (mI M 0 9 (M.1 0 9 + (1 : Int32))) 69 0 ((mI M 0 9 (M.1 0 9 + (1 : Int32))).1 69 0 + (1 : Int32))) := by
  obtain ⟨h1, h2, h3, h4, h5, h6, h7, h8⟩ := h
  refine ⟨h1, h2, h3, h4, h5, ?_, h7, h8⟩
  show M.1 0 9 + 1 = M.1 69 0 + 1
  rw [h6]
theorem inv_no {M : Mem} (h : Inv M) : Inv (mI (mI M 0 10 (M.1 0 10 + (1 : Int32))) 69 1 ((mI M 0 10 (M.1 0 10 + (1 : Int32))).1 69 1 + (1 : Int32))) := by
  obtain ⟨h1, h2, h3, h4, h5, h6, h7, h8⟩ := h
  refine ⟨h1, h2, h3, h4, h5, h6, ?_, h8⟩
  show M.1 0 10 + 1 = M.1 69 1 + 1
  rw [h7]
theorem inv_full {M : Mem} (h : Inv M) : Inv (mI (mI M 0 11 (M.1 0 11 + (1 : Int32))) 69 2 ((mI M 0 11 (M.1 0 11 + (1 : Int32))).1 69 2 + (1 : Int32))) := by
  obtain ⟨h1, h2, h3, h4, h5, h6, h7, h8⟩ := h
  refine ⟨h1, h2, h3, h4, h5, h6, h7, ?_⟩
  show M.1 0 11 + 1 = M.1 69 2 + 1
  rw [h8]
abbrev mB7 (M : Mem) : Mem := mI M 0 9 (M.1 0 9 + (1 : Int32))
abbrev mB8 (M : Mem) : Mem := mI M 69 0 (M.1 69 0 + (1 : Int32))
abbrev mN7 (M : Mem) : Mem := mI M 0 10 (M.1 0 10 + (1 : Int32))
abbrev mN8 (M : Mem) : Mem := mI M 69 1 (M.1 69 1 + (1 : Int32))
abbrev mF7 (M : Mem) : Mem := mI M 0 11 (M.1 0 11 + (1 : Int32))
abbrev mF8 (M : Mem) : Mem := mI M 69 2 (M.1 69 2 + (1 : Int32))
theorem s_bad {α : Type} {f7 f8 : Mem → Option (α × Mem)} {M : Mem} {v : α} (h : Inv M) (h7 : f7 M = some (v, mB7 M)) (h8 : f8 (mB7 M) = some (v, mB8 (mB7 M))) : Same f7 f8 M := ⟨v, _, _, h7, h8, inv_bad h⟩
theorem s_no {α : Type} {f7 f8 : Mem → Option (α × Mem)} {M : Mem} {v : α} (h : Inv M) (h7 : f7 M = some (v, mN7 M)) (h8 : f8 (mN7 M) = some (v, mN8 (mN7 M))) : Same f7 f8 M := ⟨v, _, _, h7, h8, inv_no h⟩
theorem s_full {α : Type} {f7 f8 : Mem → Option (α × Mem)} {M : Mem} {v : α} (h : Inv M) (h7 : f7 M = some (v, mF7 M)) (h8 : f8 (mF7 M) = some (v, mF8 (mF7 M))) : Same f7 f8 M := ⟨v, _, _, h7, h8, inv_full h⟩
/-! arguments: in range or out of it -/
def OUT (x : Int32) (n : Nat) : Prop := x.toInt < 0 ∨ (n : Int) ≤ x.toInt
theorem arg (x : Int32) (n : Nat) : (∃ j, j < n ∧ j < 2 ^ 31 ∧ x = nI j) ∨ OUT x n := by
  by_cases h : x < 0
  · right; left
    have := (fa_lt _ _).mp h
    rwa [show (0 : Int32).toInt = 0 by decide] at this
  · obtain ⟨j, hj, rfl⟩ := nI_of h
    by_cases h2 : j < n
    · exact Or.inl ⟨j, h2, hj, rfl⟩
    · right; right
      rw [nI_toInt hj]; omega
theorem bel_y {j n : Nat} {v : Int32} (hj : j < n) (hv : v = nI n) (hn : n < 2 ^ 31) : f_X7_isBelow (nI j) v = 1 := by
  subst hv
  unfold f_X7_isBelow
  rw [if_neg (nI_pos (by omega)), if_neg (nI_ge hj hn)]
theorem bel_n {x v : Int32} {n : Nat} (h : OUT x n) (hv : v = nI n) (hn : n < 2 ^ 31) : f_X7_isBelow x v = 0 := by
  subst hv
  unfold f_X7_isBelow
  rcases h with h | h
  · rw [if_pos ((fa_lt _ _).mpr (by rw [show (0 : Int32).toInt = 0 by decide]; exact h))]
  · split
    · rfl
    · rw [if_pos ((fa_le _ _).mpr (by rw [nI_toInt hn]; exact h))]
theorem in_y {j n : Nat} {w : Int64} (hj : j < n) (hj2 : j < 2 ^ 31) (hw : w.toInt = (n : Int) - 1) : f_X8_in (nI j).toInt64 (0 : Int64) w = 1 := by
  have h1 : (nI j).toInt64.toInt = (j : Int) := by rw [Int32.toInt_toInt64, nI_toInt hj2]
  have h0 : (0 : Int64).toInt = 0 := by decide
  unfold f_X8_in
  rw [if_neg (fun q => by have := (fa_lt64 _ _).mp ((lg_lt0 _ _).mp q); omega), if_neg (fun q => by have := (fa_lt64 _ _).mp ((lg_gt0 _ _).mp q); omega)]
theorem in_n {x : Int32} {n : Nat} {w : Int64} (h : OUT x n) (hw : w.toInt = (n : Int) - 1) : f_X8_in x.toInt64 (0 : Int64) w = 0 := by
  have h1 : x.toInt64.toInt = x.toInt := Int32.toInt_toInt64 x
  have h0 : (0 : Int64).toInt = 0 := by decide
  unfold f_X8_in
  rcases h with h | h
  · rw [if_pos ((lg_lt0 _ _).mpr ((fa_lt64 _ _).mpr (by omega)))]
  · split
    · rfl
    · rw [if_pos ((lg_gt0 _ _).mpr ((fa_lt64 _ _).mpr (by omega)))]
theorem w_m1 {B : Nat} (hB : B ≤ 8) : (nI B - (1 : Int32)).toInt64.toInt = (B : Int) - 1 := by
  have : ∀ b, b ≤ 8 → (nI b - (1 : Int32)).toInt64.toInt = (b : Int) - 1 := by decide +kernel
  exact this B hB
theorem ck_y {α : Type} {j n : Nat} (hj : j < n) (hn : n < 2 ^ 31) (k : Option α) : ck (nI j) n k = k := by
  unfold ck
  exact if_neg (nI_in hj hn)
theorem cl {j : Nat} (hj : j < 2 ^ 31) : (nI j).toNatClampNeg = j := nI_clamp hj
theorem z10 {α : Type} (a b : α) : (if (1 : Int32) = 0 then a else b) = b := if_neg (by decide)
theorem z00 {α : Type} (a b : α) : (if (0 : Int32) = 0 then a else b) = a := if_pos rfl
