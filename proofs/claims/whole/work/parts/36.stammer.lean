/-! stammers -/
theorem lN_ne {b : Nat} (h0 : 0 < b) (hb : b < 2 ^ 63) : ¬ lN b = 0 := fun q => by
  have := (fa_eq64 _ _).mp q
  rw [pf_lI hb, show (0 : Int64).toInt = 0 by decide] at this
  omega
theorem ckM_y {α : Type} {b : Nat} (h0 : 0 < b) (hb : b < 2 ^ 63) (k : Option α) : ckM (lN b) k = k := by
  unfold ckM; exact if_neg (lN_ne h0 hb)
theorem eu_s7 {a b i n : Nat} (ha : a < 2 ^ 63) (h0 : 0 < b) (hb : b < 2 ^ 63) (hi : i < 100) : b_X0_commonPart_9 (n + 1) (lN a) (lN b) (nI i) = b_X0_commonPart_9 n (lN b) (lN (a % b)) (nI (i + 1)) := by
  rw [b_X0_commonPart_9.eq_2, if_neg (fun q => by have := (v_ge 100 100 (by omega)).mp q; omega), if_neg (fun q => lN_ne h0 hb ((lg_eq0 _ _).mp q)), ckM_y h0 hb, pk_lRem ha h0 hb, nI_1]
theorem eu_z7 {a i n : Nat} (hi : i < 100) : b_X0_commonPart_9 (n + 1) (lN a) (lN 0) (nI i) = some (lN a) := by
  rw [b_X0_commonPart_9.eq_2, if_neg (fun q => by have := (v_ge 100 100 (by omega)).mp q; omega), if_pos ((lg_eq0 (lN 0) 0).mpr rfl)]
theorem eu_s8 {a b n : Nat} {x y : Int64} {M : Mem} (ha : a < 2 ^ 63) (h0 : 0 < b) (hb : b < 2 ^ 63) : b_X8_fraction_6 x y (n + 1) (lN a) (lN b) M = b_X8_fraction_6 x y n (lN b) (lN (a % b)) M := by
  rw [b_X8_fraction_6.eq_2, if_neg (fun q => lN_ne h0 hb ((lg_eq0 _ _).mp q)), ckM_y h0 hb, pk_lRem ha h0 hb]
theorem eu_z8 {a n : Nat} {x y : Int64} {M : Mem} : b_X8_fraction_6 x y (n + 1) (lN a) (lN 0) M = b_X8_fraction_31 x y (lN a) M := by
  rw [b_X8_fraction_6.eq_2, if_pos ((lg_eq0 (lN 0) 0).mpr rfl)]
theorem half_mod {b r k : Nat} (h0 : 0 < r) (hr : r < b) (hb : b < 2 ^ (k + 1)) : b % r < 2 ^ k := by
  have e : 2 ^ (k + 1) = 2 * 2 ^ k := by rw [Nat.pow_succ]; omega
  have h1 := Nat.mod_lt b h0
  by_cases q : 2 * r ≤ b
  · omega
  · have : b % r = b - r := by
      rw [Nat.mod_eq_sub_mod (by omega), Nat.mod_eq_of_lt (by omega)]
    omega
theorem eu : ∀ (k a b n i : Nat), a < 2 ^ 63 → b < 2 ^ k → k ≤ 60 → i + (2 * k + 1) ≤ 100 → 2 * k + 1 ≤ n → (0 < a ∨ 0 < b) → ∃ g, 0 < g ∧ g < 2 ^ 63 ∧ b_X0_commonPart_9 n (lN a) (lN b) (nI i) = some (lN g) ∧ ∀ (x y : Int64) (n2 : Nat) (M : Mem), 2 * k + 1 ≤ n2 → b_X8_fraction_6 x y n2 (lN a) (lN b) M = b_X8_fraction_31 x y (lN g) M
  | _, _, _, 0, _, _, _, _, _, hn, _ => absurd hn (by omega)
  | 0, a, b, n + 1, i, ha, hb, _, hi, _, h0 => by
    have hb0 : b = 0 := by rw [Nat.pow_zero] at hb; omega
    subst hb0
    refine ⟨a, by omega, ha, eu_z7 (by omega), fun x y n2 M hn2 => ?_⟩
    obtain ⟨n3, rfl⟩ : ∃ n3, n2 = n3 + 1 := ⟨n2 - 1, by omega⟩
    exact eu_z8
  | k + 1, a, b, n + 1, i, ha, hb, hk, hi, hn, h0 => by
    by_cases hb0 : b = 0
    · subst hb0
      refine ⟨a, by omega, ha, eu_z7 (by omega), fun x y n2 M hn2 => ?_⟩
      obtain ⟨n3, rfl⟩ : ∃ n3, n2 = n3 + 1 := ⟨n2 - 1, by omega⟩
      exact eu_z8
    have hb63 : b < 2 ^ 63 := Nat.lt_of_lt_of_le hb (Nat.pow_le_pow_right (by decide) (by omega))
    have hr := Nat.mod_lt a (show b > 0 by omega)
    obtain ⟨n', rfl⟩ : ∃ n', n = n' + 1 := ⟨n - 1, by omega⟩
    by_cases hr0 : a % b = 0
    · refine ⟨b, by omega, hb63, ?_, fun x y n2 M hn2 => ?_⟩
      · rw [eu_s7 ha (by omega) hb63 (by omega), hr0, eu_z7 (by omega)]
      · obtain ⟨n3, rfl⟩ : ∃ n3, n2 = n3 + 1 + 1 := ⟨n2 - 2, by omega⟩
        rw [eu_s8 ha (by omega) hb63, hr0, eu_z8]
    · have h2 := half_mod (k := k) (show 0 < a % b by omega) hr hb
      obtain ⟨g, g1, g2, g3, g4⟩ := eu k (a % b) (b % (a % b)) n' (i + 1 + 1) (by omega) h2 (by omega) (by omega) (by omega) (Or.inl (by omega))
      refine ⟨g, g1, g2, ?_, fun x y n2 M hn2 => ?_⟩
      · rw [eu_s7 ha (by omega) hb63 (by omega), eu_s7 hb63 (by omega) (by omega) (by omega), g3]
      · obtain ⟨n3, rfl⟩ : ∃ n3, n2 = n3 + 1 + 1 := ⟨n2 - 2, by omega⟩
        rw [eu_s8 ha (by omega) hb63, eu_s8 hb63 (by omega) (by omega), g4 x y n3 M (by omega)]
/-- both bring it to its lowest -/
theorem low {a b : Nat} (ha : a < 2 ^ 63) (hb : b < 2 ^ 40) (h0 : 0 < a ∨ 0 < b) : ∃ p q : Int64, (∀ M, f_X0_setLowest (lN a) (lN b) M = some (mL (mL M 60 0 p) 60 1 q)) ∧ ∀ M, f_X8_fraction (lN a) (lN b) M = some (mL (mL M 63 6 p) 63 7 q) := by
  have hf := fu_big
  obtain ⟨g, g1, g2, g3, g4⟩ := eu 40 a b fu 0 ha hb (by omega) (by omega) (by omega) h0
  refine ⟨lN a / lN g, lN b / lN g, fun M => ?_, fun M => ?_⟩
  · unfold f_X0_setLowest f_X0_commonPart
    have g3' : b_X0_commonPart_9 fu (lN a) (lN b) (0 : Int32) = some (lN g) := g3
    have hge : (0 : Int32) ≤ lg_cmp (lN g) (1 : Int64) := by
      by_cases q : lg_cmp (lN g) (1 : Int64) < 0
      · have := (fa_lt64 _ _).mp ((lg_lt0 _ _).mp q)
        rw [pf_lI g2, show (1 : Int64).toInt = 1 by decide] at this
        omega
      · rw [fa_lt] at q; rw [fa_le]; omega
    rw [g3', Option.bind_some, if_pos hge, ckM_y g1 g2, ckM_y g1 g2]
  · unfold f_X8_fraction
    rw [g4 _ _ _ _ (by omega)]
    unfold b_X8_fraction_31
    rw [ckM_y g1 g2, ckM_y g1 g2]
def bn : Nat → Nat → Nat
  | _, 0 => 1
  | 0, _ + 1 => 0
  | s + 1, j + 1 => bn s (j + 1) + bn s j
def dp (c : Nat) : Nat → Nat → Nat
  | 0, 0 => 1
  | 0, _ + 1 => 0
  | s + 1, 0 => (10 - c) * dp c s 0
  | s + 1, j + 1 => (10 - c) * dp c s (j + 1) + c * dp c s j
theorem bn_big : ∀ {s j : Nat}, s < j → bn s j = 0
  | 0, j + 1, _ => rfl
  | s + 1, j + 1, h => by unfold bn; rw [bn_big (by omega), bn_big (by omega)]
theorem bn_0 : ∀ s, bn s 0 = 1
  | 0 => rfl
  | _ + 1 => rfl
theorem dp_0 (c : Nat) : ∀ s, dp c s 0 = (10 - c) ^ s
  | 0 => rfl
  | s + 1 => by unfold dp; rw [dp_0 c s, Nat.pow_succ, Nat.mul_comm]
theorem dp_bn (c : Nat) : ∀ (s j : Nat), dp c s j = bn s j * c ^ j * (10 - c) ^ (s - j)
  | s, 0 => by rw [dp_0, bn_0, Nat.pow_zero, Nat.sub_zero, Nat.one_mul]
  | 0, j + 1 => by unfold dp bn; rw [Nat.zero_mul, Nat.zero_mul]
  | s + 1, j + 1 => by
    unfold dp
    rw [dp_bn c s (j + 1), dp_bn c s j]
    show _ = (bn s (j + 1) + bn s j) * c ^ (j + 1) * (10 - c) ^ (s + 1 - (j + 1))
    rw [Nat.add_mul, Nat.add_mul, show s + 1 - (j + 1) = s - j by omega]
    congr 1
    · by_cases h : s < j + 1
      · rw [bn_big h, Nat.zero_mul, Nat.zero_mul, Nat.zero_mul, Nat.mul_zero]
      · have e : (10 - c) ^ (s - j) = (10 - c) ^ (s - (j + 1)) * (10 - c) := by rw [← Nat.pow_succ]; congr 1; omega
        rw [e, Nat.mul_comm (10 - c) (bn s (j + 1) * c ^ (j + 1) * (10 - c) ^ (s - (j + 1))), Nat.mul_assoc (bn s (j + 1) * c ^ (j + 1))]
    · rw [Nat.pow_succ, ← Nat.mul_assoc, ← Nat.mul_assoc, ← Nat.mul_assoc, Nat.mul_comm c, Nat.mul_right_comm (bn s j) c]
theorem cho : ∀ n, n < 13 → ∀ k, k < n + 1 → f_X0_chosen (nI n) (nI k) = some (lN (bn n k)) := by decide +kernel
theorem powL {a k : Nat} (ha : a < 2 ^ 31) (hk : k < 2 ^ 31) : ∀ (d i n : Nat), i + d = k → d < n → b_X0_power_5 (nI a) (nI k) n (lN (a ^ i)) (nI i) = some (lN (a ^ k))
  | _, _, 0, _, hn => absurd hn (Nat.not_lt_zero _)
  | 0, i, n + 1, hi, _ => by
    rw [b_X0_power_5.eq_2, if_pos ((nI_leI (by omega) (by omega)).mpr (by omega)), show i = k by omega]
  | d + 1, i, n + 1, hi, hn => by
    have ih := powL ha hk d (i + 1) n (by omega) (by omega)
    rw [b_X0_power_5.eq_2, if_neg (fun q => by have := (nI_leI (by omega) (by omega)).mp q; omega), nI_l ha, lN_mul, ← Nat.pow_succ, nI_1]
    exact ih
theorem pow7 {a k : Nat} (ha : a < 11) (hk : k < 13) : f_X0_power (nI a) (nI k) = some (lN (a ^ k)) := by
  have hf := fu_big
  exact powL (by omega) (by omega) k 0 fu (by omega) (by omega)
def pdR (c s : Nat) (g : Nat → Int64) (j : Nat) : Nat → Int64 := fun t => if t < 14 then (if j ≤ t then lN (dp c (s + 1) t) else lN (dp c s t)) else g t
def dpR (c s : Nat) (g : Nat → Int64) : Nat → Int64 := fun t => if t < 14 then lN (dp c s t) else g t
theorem pdR_14 (c s : Nat) (g : Nat → Int64) : pdR c s g 14 = dpR c s g := by
  funext t; unfold pdR dpR
  by_cases h : t < 14
  · rw [if_pos h, if_pos h, if_neg (by omega)]
  · rw [if_neg h, if_neg h]
theorem pdR_0 (c s : Nat) (g : Nat → Int64) : pdR c s g 0 = dpR c (s + 1) g := by
  funext t; unfold pdR dpR
  by_cases h : t < 14
  · rw [if_pos h, if_pos h, if_pos (by omega)]
  · rw [if_neg h, if_neg h]
theorem pdR_s (c s : Nat) (g : Nat → Int64) {j : Nat} (hj : j < 14) : vp_updL (pdR c s g (j + 1)) j (lN (dp c (s + 1) j)) = pdR c s g j := by
  funext t; unfold pdR
  by_cases e : t = j
  · subst e; rw [pk_uLs, if_pos hj, if_pos (Nat.le_refl _)]
  · rw [pk_uLn e]
    by_cases h : t < 14
    · rw [if_pos h, if_pos h]
      by_cases q : j + 1 ≤ t
      · rw [if_pos q, if_pos (by omega)]
      · rw [if_neg q, if_neg (by omega)]
    · rw [if_neg h, if_neg h]
theorem x8_st1 {M : Mem} {c s : Nat} (hc : c < 11) (g : Nat → Int64) (k102 : Int64 → Int32 → Mem → Option (Int32 × Mem)) (x4 x5 x8 : Int32) (x6 : Int64) : ∀ (j n : Nat), j ≤ 14 → j < n → b_X8_stammer_113 k102 (nI c) x4 x5 x6 x8 n (nI j - 1) (rL M 76 (pdR c s g j)) = k102 (x6 * 10) (x8 + 1) (rL M 76 (pdR c s g 0))
  | _, 0, _, hn => absurd hn (Nat.not_lt_zero _)
  | 0, n + 1, _, _ => by
    rw [b_X8_stammer_113.eq_2, if_pos (by decide)]; rfl
  | j + 1, n + 1, hj, hn => by
    have ih := x8_st1 (M := M) (s := s) hc g k102 x4 x5 x8 x6 j n (by omega) (by omega)
    have e1 : nI (j + 1) - (1 : Int32) = nI j := by rw [← nI_1]; exact Int32.add_sub_cancel _ _
    have e10 : ((10 : Int32) - nI c).toInt64 = lN (10 - c) := by
      have : ∀ c, c < 11 → ((10 : Int32) - nI c).toInt64 = lN (10 - c) := by decide +kernel
      exact this c hc
    have em : ∀ x : Int32, x + (-1 : Int32) = x - 1 := fun x => (Int32.sub_eq_add_neg ..).symm
    have v0 : (rL M 76 (pdR c s g (j + 1))).2 76 j = lN (dp c s j) := by rw [rL_eq]; unfold pdR; rw [if_pos (by omega), if_neg (by omega)]
    rw [b_X8_stammer_113.eq_2, e1, if_neg (nI_pos (by omega)), ck_y (by omega) (by decide), cl (by omega), v0, e10]
    unfold b_X8_stammer_158
    by_cases h0 : j = 0
    · subst h0
      rw [if_pos (by decide), ck_y (by omega) (by decide), lN_mul, Int64.add_zero, mL_rL]
      have := pdR_s c s g (j := 0) (by omega)
      rw [show dp c (s + 1) 0 = (10 - c) * dp c s 0 from rfl] at this
      rw [cl (by omega), this, em]
      exact ih
    · obtain ⟨i, rfl⟩ : ∃ i, j = i + 1 := ⟨j - 1, by omega⟩
      have e2 : nI (i + 1) - (1 : Int32) = nI i := by rw [← nI_1]; exact Int32.add_sub_cancel _ _
      have v1 : (rL M 76 (pdR c s g (i + 1 + 1))).2 76 i = lN (dp c s i) := by rw [rL_eq]; unfold pdR; rw [if_pos (by omega), if_neg (by omega)]
      rw [if_neg (fun q => by have := (v_le 0 0 (by omega)).mp q; omega), e2, ck_y (by omega) (by decide), ck_y (by omega) (by decide), cl (by omega), cl (by omega), v1, nI_l (by omega), lN_mul, lN_mul, lN_add, mL_rL]
      have := pdR_s c s g (j := i + 1) (by omega)
      rw [show dp c (s + 1) (i + 1) = (10 - c) * dp c s (i + 1) + c * dp c s i from rfl] at this
      rw [this, em]
      exact ih
theorem x8_st2 {M : Mem} {c N : Nat} (hc : c < 11) (hN : N < 13) (g : Nat → Int64) (x4 : Int32) : ∀ (d s n : Nat), s + d = N → d < n → b_X8_stammer_102 (nI c) x4 (nI N) n (lN (10 ^ s)) (nI s) (rL M 76 (dpR c s g)) = b_X8_stammer_180 x4 (nI N) (lN (10 ^ N)) (rL M 76 (dpR c N g))
  | _, _, 0, _, hn => absurd hn (Nat.not_lt_zero _)
  | 0, s, n + 1, hs, _ => by
    rw [b_X8_stammer_102.eq_2, if_pos ((nI_leI (by omega) (by omega)).mpr (by omega)), show s = N by omega]
  | d + 1, s, n + 1, hs, hn => by
    have hf := fu_big
    have ih := x8_st2 (M := M) hc hN g x4 d (s + 1) n (by omega) (by omega)
    have h1 := x8_st1 (M := M) (s := s) hc g (fun x6_ x8_ M_ => b_X8_stammer_102 (nI c) x4 (nI N) n x6_ x8_ M_) x4 (nI N) (nI s) (lN (10 ^ s)) 14 fu (by omega) (by omega)
    rw [pdR_14, pdR_0] at h1
    rw [b_X8_stammer_102.eq_2, if_neg (fun q => by have := (nI_leI (by omega) (by omega)).mp q; omega)]
    refine h1.trans ?_
    show b_X8_stammer_102 (nI c) x4 (nI N) n (lN (10 ^ s) * lN 10) (nI s + 1) _ = _
    rw [lN_mul, ← Nat.pow_succ, nI_1]
    exact ih
def st0 (g : Nat → Int64) (j : Nat) : Nat → Int64 := fun t => if t < j then (if t = 0 then 1 else 0) else g t
theorem st0_s (g : Nat → Int64) (j : Nat) : vp_updL (st0 g j) j (if j = 0 then 1 else 0) = st0 g (j + 1) := by
  funext t; unfold st0
  by_cases e : t = j
  · subst e; rw [pk_uLs, if_pos (show t < t + 1 by omega)]
  · rw [pk_uLn e]
    by_cases q : t < j
    · rw [if_pos q, if_pos (show t < j + 1 by omega)]
    · rw [if_neg q, if_neg (show ¬ t < j + 1 by omega)]
theorem st0_14 (c : Nat) (g : Nat → Int64) : st0 g 14 = dpR c 0 g := by
  funext t; unfold st0 dpR
  by_cases h : t < 14
  · rw [if_pos h, if_pos h]
    cases t with
    | zero => rfl
    | succ t => rw [if_neg (by omega)]; rfl
  · rw [if_neg h, if_neg h]
theorem x8_st0 {M : Mem} {c : Nat} (g : Nat → Int64) (x4 x5 : Int32) (x6 : Int64) : ∀ (d j n : Nat), j + d = 14 → d < n → b_X8_stammer_69 (nI c) x4 x5 x6 n (nI j) (rL M 76 (st0 g j)) = b_X8_stammer_99 (nI c) x4 x5 x6 (rL M 76 (st0 g 14))
  | _, _, 0, _, hn => absurd hn (Nat.not_lt_zero _)
  | 0, j, n + 1, hj, _ => by
    rw [b_X8_stammer_69.eq_2, if_pos ((v_ge 14 14 (by omega)).mpr (by omega)), show j = 14 by omega]
  | d + 1, j, n + 1, hj, hn => by
    have ih := x8_st0 (M := M) (c := c) g x4 x5 x6 d (j + 1) n (by omega) (by omega)
    have s := st0_s g j
    rw [b_X8_stammer_69.eq_2, if_neg (fun q => by have := (v_ge 14 14 (by omega)).mp q; omega)]
    unfold b_X8_stammer_92
    by_cases h0 : j = 0
    · rw [if_pos h0] at s
      rw [if_pos ((v_eq 0 0 (by omega)).mpr h0), ck_y (by omega) (by decide), cl (by omega), mL_rL, s, nI_1]
      exact ih
    · rw [if_neg h0] at s
      rw [if_neg (fun q => h0 ((v_eq 0 0 (by omega)).mp q)), ck_y (by omega) (by decide), cl (by omega), mL_rL, s, nI_1]
      exact ih
theorem x8_st {M : Mem} {c N : Nat} (hc : c < 11) (hN : N < 13) (x4 : Int32) : b_X8_stammer_69 (nI c) x4 (nI N) 1 fu 0 M = b_X8_stammer_180 x4 (nI N) (lN (10 ^ N)) (rL M 76 (dpR c N (M.2 76))) := by
  have hf := fu_big
  have h0 := x8_st0 (M := M) (c := c) (M.2 76) x4 (nI N) 1 14 0 fu (by omega) (by omega)
  have e : st0 (M.2 76) 0 = M.2 76 := by funext t; unfold st0; rw [if_neg (by omega)]
  rw [e, rL_self, st0_14 c] at h0
  exact h0.trans (x8_st2 (M := M) hc hN (M.2 76) x4 N 0 fu (by omega) (by omega))
theorem p10_lt : ∀ n, n < 13 → 10 ^ n < 2 ^ 40 ∧ 0 < 10 ^ n := by decide
theorem pw_le {a k : Nat} (h : a ≤ 10) : a ^ k ≤ 10 ^ k := Nat.pow_le_pow_left h k
theorem bn_le : ∀ (n k : Nat), bn n k ≤ 2 ^ n
  | n, 0 => by rw [bn_0]; exact Nat.one_le_two_pow
  | 0, k + 1 => by show 0 ≤ _; omega
  | n + 1, k + 1 => by
    show bn n (k + 1) + bn n k ≤ 2 ^ (n + 1)
    have h1 := bn_le n (k + 1)
    have h2 := bn_le n k
    rw [Nat.pow_succ]; omega
theorem dp_lt {c n k : Nat} (hc : c ≤ 10) (hn : n ≤ 12) (hk : k ≤ n) : dp c n k < 2 ^ 63 := by
  rw [dp_bn]
  have h1 := bn_le n k
  have h1' : (2 : Nat) ^ n ≤ 2 ^ 12 := Nat.pow_le_pow_right (by decide) hn
  have h2 : c ^ k * (10 - c) ^ (n - k) ≤ 10 ^ n := by
    calc c ^ k * (10 - c) ^ (n - k) ≤ 10 ^ k * 10 ^ (n - k) := Nat.mul_le_mul (pw_le hc) (pw_le (by omega))
      _ = 10 ^ n := by rw [← Nat.pow_add]; congr 1; omega
  have h3 : (10 : Nat) ^ n ≤ 10 ^ 12 := Nat.pow_le_pow_right (by decide) hn
  rw [Nat.mul_assoc]
  calc bn n k * (c ^ k * (10 - c) ^ (n - k)) ≤ 2 ^ 12 * 10 ^ 12 := Nat.mul_le_mul (by omega) (by omega)
    _ < 2 ^ 63 := by decide
/-- how the two see what comes -/
theorem st_lt : ∀ n, n < 13 → ∀ e, e < n → nI e - nI n < 0 ∧ f_X8_in (nI e - nI n).toInt64 (0 : Int64) (nI n).toInt64 = 0 := by decide +kernel
theorem st_in : ∀ n, n < 13 → ∀ k, k < n + 1 → nI (n + k) - nI n = nI k ∧ f_X8_in (nI k).toInt64 (0 : Int64) (nI n).toInt64 = 1 := by decide +kernel
theorem st_gt : ∀ n, n < 13 → ∀ e, e < 25 → 2 * n < e → ¬ nI e - nI n < 0 ∧ ¬ nI e - nI n ≤ nI n ∧ f_X8_in (nI e - nI n).toInt64 (0 : Int64) (nI n).toInt64 = 0 := by decide +kernel
theorem low01 (M : Mem) : f_X0_setLowest (0 : Int64) (1 : Int64) M = some (mL (mL M 60 0 0) 60 1 1) := by
  have hf := fu_big
  have c1 : f_X0_commonPart (0 : Int64) (1 : Int64) = some (lN 1) := by
    obtain ⟨f, hfe⟩ : ∃ f, fu = f + 1 + 1 := ⟨fu - 2, by omega⟩
    unfold f_X0_commonPart
    rw [hfe]
    have := eu_s7 (a := 0) (b := 1) (i := 0) (n := f + 1) (by decide) (by decide) (by decide) (by decide)
    exact this.trans (eu_z7 (by decide))
  unfold f_X0_setLowest
  rw [c1, Option.bind_some, if_pos (by decide), ckM_y (by decide) (by decide), ckM_y (by decide) (by decide)]
  rfl
theorem low10 {n : Nat} (hn : n < 13) (M : Mem) : f_X8_fraction (0 : Int64) (lN (10 ^ n)) M = some (mL (mL M 63 6 0) 63 7 1) := by
  have hf := fu_big
  obtain ⟨p1, p2⟩ := p10_lt n hn
  obtain ⟨f, hfe⟩ : ∃ f, fu = f + 1 + 1 := ⟨fu - 2, by omega⟩
  unfold f_X8_fraction
  rw [hfe]
  have s8 := eu_s8 (a := 0) (b := 10 ^ n) (n := f + 1) (x := lN 0) (y := lN (10 ^ n)) (M := M) (by decide) p2 (by omega)
  rw [Nat.zero_mod] at s8
  refine s8.trans (eu_z8.trans ?_)
  unfold b_X8_fraction_31
  rw [ckM_y p2 (by omega), ckM_y p2 (by omega), pk_lDiv (by decide) p2 (by omega), pk_lDiv (by omega) p2 (by omega), Nat.zero_div, Nat.div_self p2]
  rfl

theorem e_stammer {M : Mem} (h : Inv M) (x y z w : Int32) : Same (f_X7_stammer x y z w) (f_X8_stammer x y z w) M := by
  obtain ⟨⟨B, m, N, u, a1, a2, a3, a4, a5, a6, a7, a8, a9⟩, h2, h3, h4, h5, h6⟩ := id h
  have hB := (show (mB7 M).1 64 0 = nI B from a2.2)
  rcases arg x 4 with ⟨r, hr, hr2, rfl⟩ | hx
  · rcases arg y B with ⟨a, ha, ha2, rfl⟩ | hy
    · rcases arg z 11 with ⟨c, hc, hc2, rfl⟩ | hz
      · have z1 : ¬ nI c < 0 := nI_pos hc2
        have z2 : ¬ (10 : Int32) < nI c := fun q => by have := (v_gt 10 10 hc2).mp q; omega
        have z3 : f_X8_in (nI c).toInt64 (0 : Int64) (10 : Int64) = 1 := in_y hc hc2 (by decide)
        rcases arg w 25 with ⟨e, he, he2, rfl⟩ | hw
        · have w1 : ¬ nI e < 0 := nI_pos he2
          have w2 : nI e ≤ (24 : Int32) := (v_le 24 24 he2).mpr (by omega)
          have w3 : f_X8_in (nI e).toInt64 (0 : Int64) (24 : Int64) = 1 := in_y he he2 (by decide)
          obtain ⟨l0, hl0, e1, e2⟩ := a7 r hr
          obtain ⟨b7, hl⟩ := x7_bh a1.1 a3.1 a1.2.1 ha (a6 a ha) hl0
          generalize hL : bh (M.1 4) (M.1 5) m a l0 = l at b7 hl
          have hlen := hl.1
          have key : ∃ p q : Int64, f_X0_setChance (nI l.length) (nI e - nI l.length) (nI c) (10 : Int32) M = some (mL (mL M 60 0 p) 60 1 q) ∧ ∀ A : Mem, b_X8_stammer_69 (nI c) (nI e) (nI l.length) 1 fu 0 A = some (1, mL (mL (rL A 76 (dpR c l.length (A.2 76))) 63 6 p) 63 7 q) := by
            rcases (show e < l.length ∨ 2 * l.length < e ∨ (l.length ≤ e ∧ e ≤ 2 * l.length) by omega) with q | q | q
            · obtain ⟨t1, t2⟩ := st_lt l.length (by omega) e q
              refine ⟨0, 1, ?_, fun A => ?_⟩
              · unfold f_X0_setChance; rw [if_pos t1, low01]; rfl
              · rw [x8_st hc (by omega)]; unfold b_X8_stammer_180; rw [t2, z00, low10 (by omega)]; rfl
            · obtain ⟨t1, t2, t3⟩ := st_gt l.length (by omega) e he q
              refine ⟨0, 1, ?_, fun A => ?_⟩
              · unfold f_X0_setChance; rw [if_neg t1, if_neg t2, low01]; rfl
              · rw [x8_st hc (by omega)]; unfold b_X8_stammer_180; rw [t3, z00, low10 (by omega)]; rfl
            · obtain ⟨k, hk, rfl⟩ : ∃ k, k ≤ l.length ∧ e = l.length + k := ⟨e - l.length, by omega, by omega⟩
              obtain ⟨t1, t2⟩ := st_in l.length (by omega) k (by omega)
              obtain ⟨p1, p2⟩ := p10_lt l.length (by omega)
              obtain ⟨p, q2, l7, l8⟩ := low (a := dp c l.length k) (b := 10 ^ l.length) (dp_lt (by omega) hlen hk) p1 (Or.inr p2)
              have e10 : (10 : Int32) - nI c = nI (10 - c) := by
                have : ∀ c, c < 11 → (10 : Int32) - nI c = nI (10 - c) := by decide +kernel
                exact this c hc
              have ek : nI l.length - nI k = nI (l.length - k) := by
                have : ∀ n, n < 13 → ∀ k, k < n + 1 → nI n - nI k = nI (n - k) := by decide +kernel
                exact this l.length (by omega) k (by omega)
              refine ⟨p, q2, ?_, fun A => ?_⟩
              · unfold f_X0_setChance
                rw [t1, if_neg (nI_pos (by omega)), if_pos ((nI_leI (by omega) (by omega)).mpr hk), cho l.length (by omega) k (by omega), Option.bind_some, pow7 hc (by omega), Option.bind_some, e10, ek, pow7 (by omega) (by omega), Option.bind_some, show (10 : Int32) = nI 10 from rfl, pow7 (by omega) (by omega), Option.bind_some, lN_mul, lN_mul, ← dp_bn, l7]
                rfl
              · rw [x8_st hc (by omega)]; unfold b_X8_stammer_180
                have v : (rL A 76 (dpR c l.length (A.2 76))).2 76 k = lN (dp c l.length k) := by rw [rL_eq]; unfold dpR; rw [if_pos (by omega)]
                rw [t1, t2, z10, ck_y (by omega) (by decide), cl (by omega), v, l8]
                rfl
          obtain ⟨p, q, k7, k8⟩ := key
          refine ⟨1, mL (mL M 60 0 p) 60 1 q, mL (mL (rL (mL (mL M 60 0 p) 60 1 q) 76 (dpR c l.length ((mL (mL M 60 0 p) 60 1 q).2 76))) 63 6 p) 63 7 q, ?_, ?_, ⟨B, m, N, u, a1, a2, a3, a4, a5, a6, a7, a8, a9⟩, h2, h3, h4, ⟨rfl, rfl⟩, h6⟩
          · unfold f_X7_stammer
            rw [row7_y hr, z10, br7_y a2.1 ha a1.1, z10, if_neg z1, if_neg z2, if_neg w1, if_pos w2, ck_y hr (by decide), cl hr2, e1, b7, Option.bind_some, x1_len hl, k7]
            rfl
          · have b8 := x8_bh (M := M) (N := mL (mL M 60 0 p) 60 1 q) rfl a1.1 a3.2 a1.2.1 ha (a6 a ha) hl0
            rw [hL] at b8
            have e2' : (mL (mL M 60 0 p) 60 1 q).2 66 r = eM l0 := e2
            unfold f_X8_stammer
            rw [row8_y hr, z10, br8_y (M := mL (mL M 60 0 p) 60 1 q) a2.2 ha a1.1, z10, z3, z10, w3, z10, ck_y (by omega) (by decide), cl hr2, e2', b8, Option.bind_some, x8_many hl]
            exact k8 _
        · have w3 : f_X8_in w.toInt64 (0 : Int64) (24 : Int64) = 0 := in_n hw (by decide)
          refine s_bad (v := -2) h ?_ (by unfold f_X8_stammer; rw [row8_y hr, z10, br8_y hB ha a1.1, z10, z3, z10, w3]; rfl)
          unfold f_X7_stammer
          rw [row7_y hr, z10, br7_y a2.1 ha a1.1, z10, if_neg z1, if_neg z2]
          rcases hw with q | q
          · rw [if_pos ((fa_lt _ _).mpr (by rw [show (0 : Int32).toInt = 0 by decide]; exact q))]; rfl
          · rw [if_neg (fun t => by have := (fa_lt _ _).mp t; rw [show (0 : Int32).toInt = 0 by decide] at this; omega), if_neg (fun t => by have := (fa_le _ _).mp t; rw [show (24 : Int32).toInt = 24 by decide] at this; omega)]; rfl
      · have z3 : f_X8_in z.toInt64 (0 : Int64) (10 : Int64) = 0 := in_n hz (by decide)
        refine s_bad (v := -2) h ?_ (by unfold f_X8_stammer; rw [row8_y hr, z10, br8_y hB ha a1.1, z10, z3]; rfl)
        unfold f_X7_stammer
        rw [row7_y hr, z10, br7_y a2.1 ha a1.1, z10]
        rcases hz with q | q
        · rw [if_pos ((fa_lt _ _).mpr (by rw [show (0 : Int32).toInt = 0 by decide]; exact q))]; rfl
        · rw [if_neg (fun t => by have := (fa_lt _ _).mp t; rw [show (0 : Int32).toInt = 0 by decide] at this; omega), if_pos ((fa_lt _ _).mpr (by rw [show (10 : Int32).toInt = 10 by decide]; omega))]; rfl
    · exact s_bad (v := -2) h (by unfold f_X7_stammer; rw [row7_y hr, z10, br7_n a2.1 hy a1.1]; rfl) (by unfold f_X8_stammer; rw [row8_y hr, z10, br8_n hB hy a1.1]; rfl)
  · exact s_bad (v := -2) h (by unfold f_X7_stammer; rw [row7_n hx]; rfl) (by unfold f_X8_stammer; rw [row8_n hx]; rfl)
