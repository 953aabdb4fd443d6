/-! along the bridges -/
def bh (ki nu : Nat → Int32) (m k : Nat) (l : List Nat) : List Nat := rule (ki k).toNatClampNeg (nu k).toNatClampNeg m l
theorem x7_bh {M : Mem} {B m k : Nat} {l : List Nat} (hB : B ≤ 8) (hm : M.1 1 7 = nI m) (hm2 : m < 12) (hk : k < B) (hbr : BR (M.1 2) (M.1 3) (M.1 4) (M.1 5) (M.1 64) k) (h : okN l) : f_X4_behind_1 M (nI k) (eC l) = some (eC (bh (M.1 4) (M.1 5) m k l)) ∧ okN (bh (M.1 4) (M.1 5) m k l) := by
  obtain ⟨a, b, kd, n, -, -, hk6, hn, -, -, -, -, b3, -, b4, -⟩ := hbr
  unfold f_X4_behind_1 bh
  rw [ck_y (by omega) (by decide), ck_y (by omega) (by decide), cl (by omega), b3, b4, hm, x5_applied h (by omega) hn (by omega), cl (by omega), cl (by omega)]
  exact ⟨rfl, rule_ok h hn⟩
theorem x8_bh {M N : Mem} {B m k : Nat} {l : List Nat} (hN : N.1 64 = M.1 64) (hB : B ≤ 8) (hm : M.1 64 1 = nI m) (hm2 : m < 12) (hk : k < B) (hbr : BR (M.1 2) (M.1 3) (M.1 4) (M.1 5) (M.1 64) k) (h : okN l) : f_X8_behindBridge N (nI k) (eM l) = some (eM (bh (M.1 4) (M.1 5) m k l)) := by
  obtain ⟨a, b, kd, n, -, -, hk6, hn, -, -, -, -, b3, c3, b4, c4⟩ := hbr
  have e2 : f_X8_get N (nI k) (2 : Int32) = some (nI kd) := (get8 (M := N) (j := k) (w := 2) (by omega) (by decide)).trans (by rw [hN, c3])
  have e3 : f_X8_get N (nI k) (3 : Int32) = some (nI n) := (get8 (M := N) (j := k) (w := 3) (by omega) (by decide)).trans (by rw [hN, c4])
  unfold f_X8_behindBridge bh
  rw [e2, e3, hN, hm]
  simp only [Option.bind_some]
  rw [x8_becomes h (by omega) hn (by omega), b3, b4, cl (by omega), cl (by omega)]
  rfl
def seqL (g : Nat → List Nat → List Nat) : Nat → Nat → List Nat → List Nat
  | 0, _, l => l
  | d + 1, k, l => seqL g d (k + 1) (g k l)
theorem x7_calledL {M : Mem} {B m b : Nat} (hB : B ≤ 8) (hm : M.1 1 7 = nI m) (hm2 : m < 12) (hbr : ∀ k, k < B → BR (M.1 2) (M.1 3) (M.1 4) (M.1 5) (M.1 64) k) (hb : b < B) (x4 : Int32) : ∀ (d k n : Nat) (l : List Nat), okN l → k + d = b + 1 → d < n → b_X7_called_50 (nI b) x4 n (eC l) (nI k) M = some (f_X7_lengthOrSyllable (eC (seqL (bh (M.1 4) (M.1 5) m) d k l)) x4, M) ∧ okN (seqL (bh (M.1 4) (M.1 5) m) d k l)
  | _, _, 0, _, _, _, hn => absurd hn (Nat.not_lt_zero _)
  | 0, k, n + 1, l, hl, hk, _ => by
    rw [b_X7_called_50.eq_2, if_pos ((nI_ltI (by omega) (by omega)).mpr (by omega))]
    exact ⟨rfl, hl⟩
  | d + 1, k, n + 1, l, hl, hk, hn => by
    obtain ⟨e, ho⟩ := x7_bh hB hm hm2 (show k < B by omega) (hbr k (by omega)) hl
    rw [b_X7_called_50.eq_2, if_neg (fun q => by have := (nI_ltI (by omega) (by omega)).mp q; omega), e, Option.bind_some, nI_1]
    exact x7_calledL hB hm hm2 hbr hb x4 d (k + 1) n _ ho (by omega) (by omega)
theorem x8_calledL {M : Mem} {B m b : Nat} (hB : B ≤ 8) (hm7 : M.1 1 7 = nI m) (hm : M.1 64 1 = nI m) (hm2 : m < 12) (hbr : ∀ k, k < B → BR (M.1 2) (M.1 3) (M.1 4) (M.1 5) (M.1 64) k) (hb : b < B) (x4 : Int32) : ∀ (d k n : Nat) (l : List Nat), okN l → k + d = b + 1 → d < n → b_X8_called_47 (nI b) x4 n (eM l) (nI k) M = some (f_X8_told (eM (seqL (bh (M.1 4) (M.1 5) m) d k l)) x4, M)
  | _, _, 0, _, _, _, hn => absurd hn (Nat.not_lt_zero _)
  | 0, k, n + 1, l, hl, hk, _ => by
    rw [b_X8_called_47.eq_2, if_pos ((nI_ltI (by omega) (by omega)).mpr (by omega))]
    rfl
  | d + 1, k, n + 1, l, hl, hk, hn => by
    obtain ⟨-, ho⟩ := x7_bh hB hm7 hm2 (show k < B by omega) (hbr k (by omega)) hl
    have e := x8_bh (N := M) rfl hB hm hm2 (show k < B by omega) (hbr k (by omega)) hl
    rw [b_X8_called_47.eq_2, if_neg (fun q => by have := (nI_ltI (by omega) (by omega)).mp q; omega), e, Option.bind_some, nI_1]
    exact x8_calledL hB hm7 hm hm2 hbr hb x4 d (k + 1) n _ ho (by omega) (by omega)
theorem e_called {M : Mem} (h : Inv M) (x y z w : Int32) : Same (f_X7_called x y z w) (f_X8_called x y z w) M := by
  obtain ⟨⟨B, m, N, u, a1, a2, a3, a4, a5, a6, a7, a8, a9⟩, -⟩ := id h
  have hf := fu_big
  rcases arg x 4 with ⟨j, hj, hj2, rfl⟩ | hx
  · rcases arg y B with ⟨a, ha, ha2, rfl⟩ | hy
    · rcases arg z B with ⟨b, hb, hb2, rfl⟩ | hz
      · by_cases hw : (-1 : Int32) ≤ w
        · obtain ⟨l, hl, e1, e2⟩ := a7 j hj
          by_cases hab : a ≤ b
          · obtain ⟨c7, co⟩ := x7_calledL a1.1 a3.1 a1.2.1 a6 hb w (b + 1 - a) a fu l hl (by omega) (by omega)
            have c8 := x8_calledL a1.1 a3.1 a3.2 a1.2.1 a6 hb w (b + 1 - a) a fu l hl (by omega) (by omega)
            refine ⟨f_X8_told (eM (seqL (bh (M.1 4) (M.1 5) m) (b + 1 - a) a l)) w, M, M, ?_, ?_, h⟩
            · (first | unfold f_X7_called | unfold f_X8_called); rw [row7_y hj, z10, br7_y a2.1 ha a1.1, z10, br7_y a2.1 hb a1.1, z10, if_pos hw, ck_y hj (by decide), cl hj2, e1, c7, told_eq co hw]
            · (first | unfold f_X7_called | unfold f_X8_called); rw [row8_y hj, z10, br8_y a2.2 ha a1.1, z10, br8_y a2.2 hb a1.1, z10, if_pos hw, ck_y (by omega) (by decide), cl hj2, e2, c8]
          · obtain ⟨n, hn⟩ : ∃ n, fu = n + 1 := ⟨fu - 1, by omega⟩
            refine ⟨f_X8_told (eM l) w, M, M, ?_, ?_, h⟩
            · (first | unfold f_X7_called | unfold f_X8_called); rw [row7_y hj, z10, br7_y a2.1 ha a1.1, z10, br7_y a2.1 hb a1.1, z10, if_pos hw, ck_y hj (by decide), cl hj2, e1, hn, b_X7_called_50.eq_2, if_pos ((nI_ltI (by omega) (by omega)).mpr (by omega)), told_eq hl hw]
            · (first | unfold f_X7_called | unfold f_X8_called); rw [row8_y hj, z10, br8_y a2.2 ha a1.1, z10, br8_y a2.2 hb a1.1, z10, if_pos hw, ck_y (by omega) (by decide), cl hj2, e2, hn, b_X8_called_47.eq_2, if_pos ((nI_ltI (by omega) (by omega)).mpr (by omega))]
        · exact s_bad (v := -10) h (by (first | unfold f_X7_called | unfold f_X8_called); rw [row7_y hj, z10, br7_y a2.1 ha a1.1, z10, br7_y a2.1 hb a1.1, z10, if_neg hw]; rfl) (by (first | unfold f_X7_called | unfold f_X8_called); rw [row8_y hj, z10, br8_y (show (mB7 M).1 64 0 = nI B from a2.2) ha a1.1, z10, br8_y (show (mB7 M).1 64 0 = nI B from a2.2) hb a1.1, z10, if_neg hw]; rfl)
      · exact s_bad (v := -10) h (by (first | unfold f_X7_called | unfold f_X8_called); rw [row7_y hj, z10, br7_y a2.1 ha a1.1, z10, br7_n a2.1 hz a1.1]; rfl) (by (first | unfold f_X7_called | unfold f_X8_called); rw [row8_y hj, z10, br8_y (show (mB7 M).1 64 0 = nI B from a2.2) ha a1.1, z10, br8_n (show (mB7 M).1 64 0 = nI B from a2.2) hz a1.1]; rfl)
    · exact s_bad (v := -10) h (by (first | unfold f_X7_called | unfold f_X8_called); rw [row7_y hj, z10, br7_n a2.1 hy a1.1]; rfl) (by (first | unfold f_X7_called | unfold f_X8_called); rw [row8_y hj, z10, br8_n (show (mB7 M).1 64 0 = nI B from a2.2) hy a1.1]; rfl)
  · exact s_bad (v := -10) h (by (first | unfold f_X7_called | unfold f_X8_called); rw [row7_n hx]; rfl) (by (first | unfold f_X7_called | unfold f_X8_called); rw [row8_n hx]; rfl)
def nthg (g : Nat → List Nat → List Nat) : Nat → Nat → List Nat → Int32
  | 0, _, _ => -1
  | d + 1, k, l => if (g k l).length = 0 then nI k else nthg g d (k + 1) (g k l)
theorem x7_nothingL {M : Mem} {B m : Nat} (hB : B ≤ 8) (hB7 : M.1 1 6 = nI B) (hm : M.1 1 7 = nI m) (hm2 : m < 12) (hbr : ∀ k, k < B → BR (M.1 2) (M.1 3) (M.1 4) (M.1 5) (M.1 64) k) : ∀ (d k n : Nat) (l : List Nat), okN l → k + d = B → d < n → b_X7_nothing_35 n (eC l) (nI k) M = some (nthg (bh (M.1 4) (M.1 5) m) d k l, M)
  | _, _, 0, _, _, _, hn => absurd hn (Nat.not_lt_zero _)
  | 0, k, n + 1, l, hl, hk, _ => by
    rw [b_X7_nothing_35.eq_2, hB7, if_pos ((nI_leI (by omega) (by omega)).mpr (by omega))]
    rfl
  | d + 1, k, n + 1, l, hl, hk, hn => by
    obtain ⟨e, ho⟩ := x7_bh hB hm hm2 (show k < B by omega) (hbr k (by omega)) hl
    have ho1 := ho.1
    rw [b_X7_nothing_35.eq_2, hB7, if_neg (fun q => by have := (nI_leI (by omega) (by omega)).mp q; omega), e, Option.bind_some, x1_len ho, nI_1]
    unfold nthg
    by_cases hc : (bh (M.1 4) (M.1 5) m k l).length = 0
    · rw [if_pos ((v_eq 0 0 (by omega)).mpr hc), if_pos hc]
    · rw [if_neg (fun q => hc ((v_eq 0 0 (by omega)).mp q)), if_neg hc]
      exact x7_nothingL hB hB7 hm hm2 hbr d (k + 1) n _ ho (by omega) (by omega)
theorem x8_nothingL {M : Mem} {B m : Nat} (hB : B ≤ 8) (hB8 : M.1 64 0 = nI B) (hm7 : M.1 1 7 = nI m) (hm : M.1 64 1 = nI m) (hm2 : m < 12) (hbr : ∀ k, k < B → BR (M.1 2) (M.1 3) (M.1 4) (M.1 5) (M.1 64) k) : ∀ (d k n : Nat) (l : List Nat), okN l → k + d = B → d < n → b_X8_nothing_32 n (eM l) (nI k) M = some (nthg (bh (M.1 4) (M.1 5) m) d k l, M)
  | _, _, 0, _, _, _, hn => absurd hn (Nat.not_lt_zero _)
  | 0, k, n + 1, l, hl, hk, _ => by
    rw [b_X8_nothing_32.eq_2, show f_X8_bridges M = nI B from hB8, if_pos ((nI_leI (by omega) (by omega)).mpr (by omega))]
    rfl
  | d + 1, k, n + 1, l, hl, hk, hn => by
    obtain ⟨-, ho⟩ := x7_bh hB hm7 hm2 (show k < B by omega) (hbr k (by omega)) hl
    have e := x8_bh (N := M) rfl hB hm hm2 (show k < B by omega) (hbr k (by omega)) hl
    rw [b_X8_nothing_32.eq_2, show f_X8_bridges M = nI B from hB8, if_neg (fun q => by have := (nI_leI (by omega) (by omega)).mp q; omega), e, Option.bind_some, nI_1]
    unfold nthg
    by_cases hc : (bh (M.1 4) (M.1 5) m k l).length = 0
    · rw [if_pos ((lg_eq0 _ _).mpr (ho.len0.mpr (List.length_eq_zero_iff.mp hc))), if_pos hc]
    · rw [if_neg (fun q => hc (List.length_eq_zero_iff.mpr (ho.len0.mp ((lg_eq0 _ _).mp q)))), if_neg hc]
      exact x8_nothingL hB hB8 hm7 hm hm2 hbr d (k + 1) n _ ho (by omega) (by omega)
theorem e_nothing {M : Mem} (h : Inv M) (x y : Int32) : Same (f_X7_nothing x y) (f_X8_nothing x y) M := by
  obtain ⟨⟨B, m, N, u, a1, a2, a3, a4, a5, a6, a7, a8, a9⟩, -⟩ := id h
  have hf := fu_big
  rcases arg x 4 with ⟨j, hj, hj2, rfl⟩ | hx
  · rcases arg y B with ⟨a, ha, ha2, rfl⟩ | hy
    · obtain ⟨l, hl, e1, e2⟩ := a7 j hj
      have c7 := x7_nothingL a1.1 a2.1 a3.1 a1.2.1 a6 (B - a) a fu l hl (by omega) (by omega)
      have c8 := x8_nothingL a1.1 a2.2 a3.1 a3.2 a1.2.1 a6 (B - a) a fu l hl (by omega) (by omega)
      refine ⟨nthg (bh (M.1 4) (M.1 5) m) (B - a) a l, M, M, ?_, ?_, h⟩
      · (first | unfold f_X7_nothing | unfold f_X8_nothing); rw [row7_y hj, z10, br7_y a2.1 ha a1.1, z10, ck_y hj (by decide), cl hj2, e1, c7]
      · (first | unfold f_X7_nothing | unfold f_X8_nothing); rw [row8_y hj, z10, br8_y a2.2 ha a1.1, z10, ck_y (by omega) (by decide), cl hj2, e2, c8]
    · exact s_bad (v := -2) h (by (first | unfold f_X7_nothing | unfold f_X8_nothing); rw [row7_y hj, z10, br7_n a2.1 hy a1.1]; rfl) (by (first | unfold f_X7_nothing | unfold f_X8_nothing); rw [row8_y hj, z10, br8_n (show (mB7 M).1 64 0 = nI B from a2.2) hy a1.1]; rfl)
  · exact s_bad (v := -2) h (by (first | unfold f_X7_nothing | unfold f_X8_nothing); rw [row7_n hx]; rfl) (by (first | unfold f_X7_nothing | unfold f_X8_nothing); rw [row8_n hx]; rfl)
def boatg (g : Nat → List Nat → List Nat) (w what : Int32) : Nat → Nat → List Nat → Int32 → Int32
  | 0, _, _, t => if what = 0 then -1 else t
  | d + 1, k, l, t => if can w (g k l) then boatg g w what d (k + 1) (g k l) (t + nI (g k l).length) else (if what = 0 then nI k else t)
theorem x7_boatL {M : Mem} {B m b : Nat} (hB : B ≤ 8) (hm : M.1 1 7 = nI m) (hm2 : m < 12) (hbr : ∀ k, k < B → BR (M.1 2) (M.1 3) (M.1 4) (M.1 5) (M.1 64) k) (hb : b < B) (w what : Int32) : ∀ (d k n : Nat) (l : List Nat) (t : Int32), okN l → k + d = b + 1 → d + 1 < n → b_X7_boat_70 w (nI b) what n (eC l) t (-1) (nI k) M = some (boatg (bh (M.1 4) (M.1 5) m) w what d k l t, M)
  | _, _, 0, _, _, _, _, hn => absurd hn (Nat.not_lt_zero _)
  | 0, k, n + 1, l, t, hl, hk, _ => by
    rw [b_X7_boat_70.eq_2, if_pos ((nI_ltI (by omega) (by omega)).mpr (by omega))]
    unfold boatg
    split <;> rfl
  | d + 1, k, n + 1, l, t, hl, hk, hn => by
    obtain ⟨e, ho⟩ := x7_bh hB hm hm2 (show k < B by omega) (hbr k (by omega)) hl
    rw [b_X7_boat_70.eq_2, if_neg (fun q => by have := (nI_ltI (by omega) (by omega)).mp q; omega), if_pos rfl, e, Option.bind_some, x1_sounds ho, Option.bind_some, x7_canSay ho, x1_len ho]
    unfold boatg b_X7_boat_125
    by_cases hc : can w (bh (M.1 4) (M.1 5) m k l) = true
    · rw [if_pos hc, if_neg (by decide), if_pos hc, nI_1]
      exact x7_boatL hB hm hm2 hbr hb w what d (k + 1) n _ _ ho (by omega) (by omega)
    · obtain ⟨n', rfl⟩ : ∃ n', n = n' + 1 := ⟨n - 1, by omega⟩
      rw [if_neg hc, if_pos rfl, if_neg hc]
      show b_X7_boat_70 w (nI b) what (n' + 1) _ _ _ (nI k + 1) M = _
      rw [b_X7_boat_70.eq_2, nI_1]
      by_cases hk2 : nI b < nI (k + 1)
      · rw [if_pos hk2]; split <;> rfl
      · rw [if_neg hk2, if_neg (fun q => nI_pos (n := k) (by omega) (by rw [q]; decide))]; split <;> rfl
theorem x8_boatL {M : Mem} {B m b : Nat} (hB : B ≤ 8) (hm7 : M.1 1 7 = nI m) (hm : M.1 64 1 = nI m) (hm2 : m < 12) (hbr : ∀ k, k < B → BR (M.1 2) (M.1 3) (M.1 4) (M.1 5) (M.1 64) k) (hb : b < B) (w what : Int32) : ∀ (d k n : Nat) (l : List Nat) (t : Int32), okN l → k + d = b + 1 → d < n → b_X8_boat_68 w (nI b) what n t (eM l) (nI k) M = some (boatg (bh (M.1 4) (M.1 5) m) w what d k l t, M)
  | _, _, 0, _, _, _, _, hn => absurd hn (Nat.not_lt_zero _)
  | 0, k, n + 1, l, t, hl, hk, _ => by
    rw [b_X8_boat_68.eq_2, if_pos ((nI_ltI (by omega) (by omega)).mpr (by omega))]
    unfold boatg
    split <;> rfl
  | d + 1, k, n + 1, l, t, hl, hk, hn => by
    obtain ⟨-, ho⟩ := x7_bh hB hm7 hm2 (show k < B by omega) (hbr k (by omega)) hl
    have e := x8_bh (N := M) rfl hB hm hm2 (show k < B by omega) (hbr k (by omega)) hl
    rw [b_X8_boat_68.eq_2, if_neg (fun q => by have := (nI_ltI (by omega) (by omega)).mp q; omega), e, Option.bind_some, x8_canSay ho, Option.bind_some, x8_many ho, nI_1]
    unfold boatg
    by_cases hc : can w (bh (M.1 4) (M.1 5) m k l) = true
    · rw [if_pos hc, if_neg (by decide), if_pos hc]
      exact x8_boatL hB hm7 hm hm2 hbr hb w what d (k + 1) n _ _ ho (by omega) (by omega)
    · rw [if_neg hc, if_pos rfl, if_neg hc]
      split <;> rfl
theorem e_boat {M : Mem} (h : Inv M) (x y z w v : Int32) : Same (f_X7_boat x y z w v) (f_X8_boat x y z w v) M := by
  obtain ⟨⟨B, m, N, u, a1, a2, a3, a4, a5, a6, a7, a8, a9⟩, -⟩ := id h
  have hf := fu_big
  have hB := (show (mB7 M).1 64 0 = nI B from a2.2)
  rcases arg x 4 with ⟨j, hj, hj2, rfl⟩ | hx
  · rcases arg y 65536 with ⟨s, hs, hs2, rfl⟩ | hy
    · have y8 : f_X8_in (nI s).toInt64 (0 : Int64) (65535 : Int64) = 1 := in_y hs hs2 (by decide)
      have y7 : ¬ nI s < 0 := nI_pos hs2
      have y7b : ¬ (65535 : Int32) < nI s := fun q => by have := (v_gt 65535 65535 hs2).mp q; omega
      rcases arg z B with ⟨a, ha, ha2, rfl⟩ | hz
      · rcases arg w B with ⟨b, hb, hb2, rfl⟩ | hw
        · rcases arg v 2 with ⟨c, hc, hc2, rfl⟩ | hv
          · have v7 : f_X7_isBelow (nI c) (2 : Int32) = 1 := bel_y hc rfl (by decide)
            have v8 : f_X8_in (nI c).toInt64 (0 : Int64) (1 : Int64) = 1 := in_y hc hc2 (by decide)
            obtain ⟨l, hl, e1, e2⟩ := a7 j hj
            by_cases hab : a ≤ b
            · have c7 := x7_boatL a1.1 a3.1 a1.2.1 a6 hb (nI s) (nI c) (b + 1 - a) a fu l 0 hl (by omega) (by omega)
              have c8 := x8_boatL a1.1 a3.1 a3.2 a1.2.1 a6 hb (nI s) (nI c) (b + 1 - a) a fu l 0 hl (by omega) (by omega)
              refine ⟨boatg (bh (M.1 4) (M.1 5) m) (nI s) (nI c) (b + 1 - a) a l 0, M, M, ?_, ?_, h⟩
              · (first | unfold f_X7_boat | unfold f_X8_boat); rw [row7_y hj, z10, if_neg y7, if_neg y7b, br7_y a2.1 ha a1.1, z10, br7_y a2.1 hb a1.1, z10, v7, z10, ck_y hj (by decide), cl hj2, e1, c7]
              · (first | unfold f_X7_boat | unfold f_X8_boat); rw [row8_y hj, z10, y8, z10, br8_y a2.2 ha a1.1, z10, br8_y a2.2 hb a1.1, z10, v8, z10, ck_y (by omega) (by decide), cl hj2, e2, c8]
            · obtain ⟨n, hn⟩ : ∃ n, fu = n + 1 := ⟨fu - 1, by omega⟩
              refine ⟨if nI c = 0 then -1 else 0, M, M, ?_, ?_, h⟩
              · (first | unfold f_X7_boat | unfold f_X8_boat); rw [row7_y hj, z10, if_neg y7, if_neg y7b, br7_y a2.1 ha a1.1, z10, br7_y a2.1 hb a1.1, z10, v7, z10, ck_y hj (by decide), cl hj2, e1, hn, b_X7_boat_70.eq_2, if_pos ((nI_ltI (by omega) (by omega)).mpr (by omega))]
                split <;> rfl
              · (first | unfold f_X7_boat | unfold f_X8_boat); rw [row8_y hj, z10, y8, z10, br8_y a2.2 ha a1.1, z10, br8_y a2.2 hb a1.1, z10, v8, z10, ck_y (by omega) (by decide), cl hj2, e2, hn, b_X8_boat_68.eq_2, if_pos ((nI_ltI (by omega) (by omega)).mpr (by omega))]
                split <;> rfl
          · exact s_bad (v := -10) h (by (first | unfold f_X7_boat | unfold f_X8_boat); rw [row7_y hj, z10, if_neg y7, if_neg y7b, br7_y a2.1 ha a1.1, z10, br7_y a2.1 hb a1.1, z10, bel_n (v := 2) hv rfl (by decide)]; rfl) (by (first | unfold f_X7_boat | unfold f_X8_boat); rw [row8_y hj, z10, y8, z10, br8_y hB ha a1.1, z10, br8_y hB hb a1.1, z10, in_n hv (by decide)]; rfl)
        · exact s_bad (v := -10) h (by (first | unfold f_X7_boat | unfold f_X8_boat); rw [row7_y hj, z10, if_neg y7, if_neg y7b, br7_y a2.1 ha a1.1, z10, br7_n a2.1 hw a1.1]; rfl) (by (first | unfold f_X7_boat | unfold f_X8_boat); rw [row8_y hj, z10, y8, z10, br8_y hB ha a1.1, z10, br8_n hB hw a1.1]; rfl)
      · exact s_bad (v := -10) h (by (first | unfold f_X7_boat | unfold f_X8_boat); rw [row7_y hj, z10, if_neg y7, if_neg y7b, br7_n a2.1 hz a1.1]; rfl) (by (first | unfold f_X7_boat | unfold f_X8_boat); rw [row8_y hj, z10, y8, z10, br8_n hB hz a1.1]; rfl)
    · refine s_bad (v := -10) h ?_ (by (first | unfold f_X7_boat | unfold f_X8_boat); rw [row8_y hj, z10, in_n hy (by decide)]; rfl)
      unfold f_X7_boat
      rw [row7_y hj, z10]
      by_cases q : y < 0
      · rw [if_pos q]; rfl
      · rw [if_neg q, if_pos ((fa_lt _ _).mpr (by
          rcases hy with hy | hy
          · exact absurd ((fa_lt _ _).mpr (by rw [show (0 : Int32).toInt = 0 by decide]; exact hy)) q
          · rw [show (65535 : Int32).toInt = 65535 by decide]; omega))]; rfl
  · exact s_bad (v := -10) h (by (first | unfold f_X7_boat | unfold f_X8_boat); rw [row7_n hx]; rfl) (by (first | unfold f_X7_boat | unfold f_X8_boat); rw [row8_n hx]; rfl)
