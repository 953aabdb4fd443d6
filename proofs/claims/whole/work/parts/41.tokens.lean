/-! tokens -/
def rn (f : Int32 → Bool) (tx : Nat → Int32) : Nat → Nat → Nat
  | 0, p => p
  | d + 1, p => if f (tx p) = true then rn f tx d (p + 1) else p
theorem rn_ge {f : Int32 → Bool} {tx : Nat → Int32} : ∀ (d p : Nat), p ≤ rn f tx d p ∧ rn f tx d p ≤ p + d
  | 0, p => ⟨Nat.le_refl _, Nat.le_refl _⟩
  | d + 1, p => by
    unfold rn
    split
    · have := rn_ge (f := f) (tx := tx) d (p + 1); omega
    · omega
def fBl (c : Int32) : Bool := decide (c = 32)
def fLe (c : Int32) : Bool := decide (97 ≤ c) && decide (c ≤ 122)
def fFi (c : Int32) : Bool := decide (48 ≤ c) && decide (c ≤ 57)
def aW (w : Nat → Int32) (tx : Nat → Int32) (s : Nat) : Nat → Nat → Bool
  | 0, _ => true
  | d + 1, k => decide (tx (s + k) = w k) && aW w tx s d (k + 1)
theorem aW_s (w tx : Nat → Int32) (s d k : Nat) : aW w tx s (d + 1) k = (decide (tx (s + k) = w k) && aW w tx s d (k + 1)) := rfl
def isW (w : Nat → Int32) (m : Nat) (tx : Nat → Int32) (s e : Nat) : Bool := decide (e - s = m) && aW w tx s m 0
def wRi (k : Nat) : Int32 := sch 0 (nI k)
def wBr (k : Nat) : Int32 := sch 1 (nI k)
def wRo (k : Nat) : Int32 := sch 2 (nI k)
def tSt (tx : Nat → Int32) (n q : Nat) : Nat := rn fBl tx (n - q) q
def tEn (tx : Nat → Int32) (n q : Nat) : Nat := if n ≤ tSt tx n q then tSt tx n q else if fLe (tx (tSt tx n q)) = true then rn fLe tx (n - tSt tx n q) (tSt tx n q) else if fFi (tx (tSt tx n q)) = true then rn fFi tx (n - tSt tx n q) (tSt tx n q) else tSt tx n q + 1
def tK (tx : Nat → Int32) (n q : Nat) : Nat := if n ≤ tSt tx n q then 0 else if fLe (tx (tSt tx n q)) = true then (if isW wRi 5 tx (tSt tx n q) (tEn tx n q) = true then 3 else if isW wBr 6 tx (tSt tx n q) (tEn tx n q) = true then 4 else if isW wRo 3 tx (tSt tx n q) (tEn tx n q) = true then 5 else 6) else if fFi (tx (tSt tx n q)) = true then (if tEn tx n q - tSt tx n q ≤ 2 then 2 else 7) else if tx (tSt tx n q) = 59 then 1 else 7
def dg (c : Int32) : Nat := (c - 48).toNatClampNeg
def tV (tx : Nat → Int32) (n q : Nat) : Nat := if tEn tx n q - tSt tx n q = 1 then dg (tx (tSt tx n q)) else 10 * dg (tx (tSt tx n q)) + dg (tx (tSt tx n q + 1))
def c7 (k : Nat) : Int32 := if k ≤ 5 then nI k else 6
def c8K (k : Nat) : Int32 := if k = 0 then 0 else if k = 1 then 3 else if k = 2 then 2 else if k = 7 then 4 else 1
def T7 (F : Nat → Int32) (tx : Nat → Int32) (n q : Nat) : Prop := F 3 = nI (tSt tx n q) ∧ F 4 = nI (tEn tx n q) ∧ F 2 = c7 (tK tx n q) ∧ (tK tx n q = 2 → F 5 = nI (tV tx n q))
def T8 (G : Nat → Int32) (tx : Nat → Int32) (n q : Nat) : Prop := G 21 = nI (tSt tx n q) ∧ G 22 = nI (tEn tx n q - tSt tx n q) ∧ G 23 = c8K (tK tx n q) ∧ (tK tx n q = 2 → G 24 = nI (tV tx n q))
theorem tSt_b {tx : Nat → Int32} {n q : Nat} (h : q ≤ n) : q ≤ tSt tx n q ∧ tSt tx n q ≤ n := by
  have := rn_ge (f := fBl) (tx := tx) (n - q) q
  unfold tSt; omega
theorem rn_pos {f : Int32 → Bool} {tx : Nat → Int32} {d p : Nat} (hd : 0 < d) (h : f (tx p) = true) : p + 1 ≤ rn f tx d p := by
  obtain ⟨e, rfl⟩ : ∃ e, d = e + 1 := ⟨d - 1, by omega⟩
  unfold rn
  rw [if_pos h]
  exact (rn_ge e (p + 1)).1
theorem tEn_b {tx : Nat → Int32} {n q : Nat} (h : q ≤ n) : tSt tx n q ≤ tEn tx n q ∧ tEn tx n q ≤ n ∧ (tSt tx n q < n → tSt tx n q < tEn tx n q) := by
  have hs := tSt_b (tx := tx) h
  unfold tEn
  by_cases h1 : n ≤ tSt tx n q
  · rw [if_pos h1]; omega
  · rw [if_neg h1]
    by_cases h2 : fLe (tx (tSt tx n q)) = true
    · rw [if_pos h2]
      have h3 := rn_ge (f := fLe) (tx := tx) (n - tSt tx n q) (tSt tx n q)
      have h4 := rn_pos (f := fLe) (tx := tx) (d := n - tSt tx n q) (by omega) h2
      omega
    · rw [if_neg h2]
      by_cases h3 : fFi (tx (tSt tx n q)) = true
      · rw [if_pos h3]
        have h3' := rn_ge (f := fFi) (tx := tx) (n - tSt tx n q) (tSt tx n q)
        have h4 := rn_pos (f := fFi) (tx := tx) (d := n - tSt tx n q) (by omega) h3
        omega
      · rw [if_neg h3]; omega
theorem tK_0 {tx : Nat → Int32} {n q : Nat} : tK tx n q = 0 ↔ n ≤ tSt tx n q := by
  unfold tK
  by_cases h1 : n ≤ tSt tx n q
  · rw [if_pos h1]; simp [h1]
  · rw [if_neg h1]
    refine ⟨fun h => ?_, fun h => absurd h h1⟩
    exfalso
    revert h
    repeat' split
    all_goals decide
/-! figures and letters -/
theorem x3_fig {M : Mem} {p : Nat} (hp : p < 150) : f_X3_isFigure M (nI p) = some (if fFi (M.1 56 p) = true then 1 else 0) := by
  unfold f_X3_isFigure fFi
  rw [ck_y hp (by decide), ck_y hp (by decide), cl (by omega)]
  by_cases h1 : M.1 56 p < 48
  · rw [if_pos h1, if_neg (by rw [fa_lt] at h1; simp only [Bool.and_eq_true, decide_eq_true_eq, fa_le]; omega)]
  · rw [if_neg h1]
    by_cases h2 : (57 : Int32) < M.1 56 p
    · rw [if_pos h2, if_neg (by rw [fa_lt] at h2; simp only [Bool.and_eq_true, decide_eq_true_eq, fa_le]; omega)]
    · rw [if_neg h2, if_pos (by rw [fa_lt] at h1 h2; simp only [Bool.and_eq_true, decide_eq_true_eq, fa_le]; omega)]
theorem x3_let {M : Mem} {p : Nat} (hp : p < 150) : f_X3_isLetter M (nI p) = some (if fLe (M.1 56 p) = true then 1 else 0) := by
  unfold f_X3_isLetter fLe
  rw [ck_y hp (by decide), ck_y hp (by decide), cl (by omega)]
  by_cases h1 : M.1 56 p < 97
  · rw [if_pos h1, if_neg (by rw [fa_lt] at h1; simp only [Bool.and_eq_true, decide_eq_true_eq, fa_le]; omega)]
  · rw [if_neg h1]
    by_cases h2 : (122 : Int32) < M.1 56 p
    · rw [if_pos h2, if_neg (by rw [fa_lt] at h2; simp only [Bool.and_eq_true, decide_eq_true_eq, fa_le]; omega)]
    · rw [if_neg h2, if_pos (by rw [fa_lt] at h1 h2; simp only [Bool.and_eq_true, decide_eq_true_eq, fa_le]; omega)]
theorem in_iff (c a b : Int32) : f_X8_in c.toInt64 a.toInt64 b.toInt64 = if (decide (a ≤ c) && decide (c ≤ b)) = true then 1 else 0 := by
  unfold f_X8_in
  by_cases h1 : c < a
  · rw [if_pos ((lg_lt0 _ _).mpr ((fa_wide_lt _ _).mpr h1)), if_neg (by rw [fa_lt] at h1; simp only [Bool.and_eq_true, decide_eq_true_eq, fa_le]; omega)]
  · rw [if_neg (fun q => h1 ((fa_wide_lt _ _).mp ((lg_lt0 _ _).mp q)))]
    by_cases h2 : b < c
    · rw [if_pos ((lg_gt0 _ _).mpr ((fa_wide_lt _ _).mpr h2)), if_neg (by rw [fa_lt] at h2; simp only [Bool.and_eq_true, decide_eq_true_eq, fa_le]; omega)]
    · rw [if_neg (fun q => h2 ((fa_wide_lt _ _).mp ((lg_gt0 _ _).mp q))), if_pos (by rw [fa_lt] at h1 h2; simp only [Bool.and_eq_true, decide_eq_true_eq, fa_le]; omega)]
theorem x8_fig (c : Int32) : f_X8_isFigure c = if fFi c = true then 1 else 0 := in_iff c 48 57
theorem x8_let (c : Int32) : f_X8_isSmall c = if fLe c = true then 1 else 0 := in_iff c 97 122
theorem fig_d {c : Int32} (h : fFi c = true) : ∃ d, d < 10 ∧ c = nI (48 + d) ∧ dg c = d := by
  unfold fFi at h
  simp only [Bool.and_eq_true, decide_eq_true_eq, fa_le] at h
  rw [show (48 : Int32).toInt = 48 by decide, show (57 : Int32).toInt = 57 by decide] at h
  have h0 : ¬ c < 0 := fun q => by rw [fa_lt, show (0 : Int32).toInt = 0 by decide] at q; omega
  obtain ⟨j, hj, rfl⟩ := nI_of h0
  rw [nI_toInt hj] at h
  have key : ∀ d, d < 10 → dg (nI (48 + d)) = d := by decide
  obtain ⟨d, rfl⟩ : ∃ d, j = 48 + d := ⟨j - 48, by omega⟩
  exact ⟨d, by omega, rfl, key d (by omega)⟩
theorem val1 : ∀ d, d < 10 → ((10 : Int32) * 0 + nI (48 + d)) - 48 = nI d := by decide
theorem val2 : ∀ d, d < 10 → ∀ e, e < 10 → ((10 : Int32) * nI d + nI (48 + e)) - 48 = nI (10 * d + e) := by decide +kernel
theorem nI_sub_l (s d : Nat) : nI s + nI d - nI s = nI d := by rw [Int32.add_comm]; exact Int32.add_sub_cancel _ _
theorem x3_w0 {M : Mem} {s : Nat} (h3 : M.1 55 3 = nI s) (hs : s + 5 ≤ 150) : ∀ (d k n : Nat), k + d = 5 → d < n → b_X3_isWord_s0_20 M n (nI k) = some (if aW wRi (M.1 56) s d k = true then 1 else 0)
  | _, _, 0, _, hn => absurd hn (Nat.not_lt_zero _)
  | 0, k, n + 1, hk, _ => by
    rw [b_X3_isWord_s0_20.eq_2, if_pos ((v_ge 5 5 (by omega)).mpr (by omega))]; rfl
  | d + 1, k, n + 1, hk, hn => by
    have ih := x3_w0 h3 hs d (k + 1) n (by omega) (by omega)
    rw [b_X3_isWord_s0_20.eq_2, if_neg (fun q => by have := (v_ge 5 5 (by omega)).mp q; omega), h3, nI_add, ck_y (by omega) (by decide), ck_y (by omega) (by decide), cl (by omega), nI_1, ih]
    rw [aW_s]
    show (if M.1 56 (s + k) = wRi k then _ else _) = _
    by_cases hc : M.1 56 (s + k) = wRi k
    · rw [if_pos hc, decide_eq_true hc, Bool.true_and]
    · rw [if_neg hc, decide_eq_false hc, Bool.false_and]; rfl
theorem x3_W0 {M : Mem} {s e : Nat} (h3 : M.1 55 3 = nI s) (h4 : M.1 55 4 = nI e) (he : s ≤ e) (he2 : e ≤ 150) : f_X3_isWord_s0 M = some (if isW wRi 5 (M.1 56) s e = true then 1 else 0) := by
  have hf := fu_big
  unfold f_X3_isWord_s0 isW
  have hd : nI e - nI s = nI (e - s) := by
    obtain ⟨d, rfl⟩ : ∃ d, e = s + d := ⟨e - s, by omega⟩
    rw [← nI_add, show s + d - s = d by omega]
    exact nI_sub_l s d
  rw [h3, h4, hd]
  by_cases hl : e - s = 5
  · rw [if_pos (by rw [hl]; rfl), decide_eq_true hl, Bool.true_and]
    exact x3_w0 h3 (by omega) 5 0 fu (by omega) (by omega)
  · rw [if_neg (fun q => hl ((v_eq 5 5 (by omega)).mp q.symm)), decide_eq_false hl, Bool.false_and]; rfl
theorem x3_w1 {M : Mem} {s : Nat} (h3 : M.1 55 3 = nI s) (hs : s + 6 ≤ 150) : ∀ (d k n : Nat), k + d = 6 → d < n → b_X3_isWord_s1_20 M n (nI k) = some (if aW wBr (M.1 56) s d k = true then 1 else 0)
  | _, _, 0, _, hn => absurd hn (Nat.not_lt_zero _)
  | 0, k, n + 1, hk, _ => by
    rw [b_X3_isWord_s1_20.eq_2, if_pos ((v_ge 6 6 (by omega)).mpr (by omega))]; rfl
  | d + 1, k, n + 1, hk, hn => by
    have ih := x3_w1 h3 hs d (k + 1) n (by omega) (by omega)
    rw [b_X3_isWord_s1_20.eq_2, if_neg (fun q => by have := (v_ge 6 6 (by omega)).mp q; omega), h3, nI_add, ck_y (by omega) (by decide), ck_y (by omega) (by decide), cl (by omega), nI_1, ih]
    rw [aW_s]
    show (if M.1 56 (s + k) = wBr k then _ else _) = _
    by_cases hc : M.1 56 (s + k) = wBr k
    · rw [if_pos hc, decide_eq_true hc, Bool.true_and]
    · rw [if_neg hc, decide_eq_false hc, Bool.false_and]; rfl
theorem x3_W1 {M : Mem} {s e : Nat} (h3 : M.1 55 3 = nI s) (h4 : M.1 55 4 = nI e) (he : s ≤ e) (he2 : e ≤ 150) : f_X3_isWord_s1 M = some (if isW wBr 6 (M.1 56) s e = true then 1 else 0) := by
  have hf := fu_big
  unfold f_X3_isWord_s1 isW
  have hd : nI e - nI s = nI (e - s) := by
    obtain ⟨d, rfl⟩ : ∃ d, e = s + d := ⟨e - s, by omega⟩
    rw [← nI_add, show s + d - s = d by omega]
    exact nI_sub_l s d
  rw [h3, h4, hd]
  by_cases hl : e - s = 6
  · rw [if_pos (by rw [hl]; rfl), decide_eq_true hl, Bool.true_and]
    exact x3_w1 h3 (by omega) 6 0 fu (by omega) (by omega)
  · rw [if_neg (fun q => hl ((v_eq 6 6 (by omega)).mp q.symm)), decide_eq_false hl, Bool.false_and]; rfl
theorem x3_w2 {M : Mem} {s : Nat} (h3 : M.1 55 3 = nI s) (hs : s + 3 ≤ 150) : ∀ (d k n : Nat), k + d = 3 → d < n → b_X3_isWord_s2_20 M n (nI k) = some (if aW wRo (M.1 56) s d k = true then 1 else 0)
  | _, _, 0, _, hn => absurd hn (Nat.not_lt_zero _)
  | 0, k, n + 1, hk, _ => by
    rw [b_X3_isWord_s2_20.eq_2, if_pos ((v_ge 3 3 (by omega)).mpr (by omega))]; rfl
  | d + 1, k, n + 1, hk, hn => by
    have ih := x3_w2 h3 hs d (k + 1) n (by omega) (by omega)
    rw [b_X3_isWord_s2_20.eq_2, if_neg (fun q => by have := (v_ge 3 3 (by omega)).mp q; omega), h3, nI_add, ck_y (by omega) (by decide), ck_y (by omega) (by decide), cl (by omega), nI_1, ih]
    rw [aW_s]
    show (if M.1 56 (s + k) = wRo k then _ else _) = _
    by_cases hc : M.1 56 (s + k) = wRo k
    · rw [if_pos hc, decide_eq_true hc, Bool.true_and]
    · rw [if_neg hc, decide_eq_false hc, Bool.false_and]; rfl
theorem x3_W2 {M : Mem} {s e : Nat} (h3 : M.1 55 3 = nI s) (h4 : M.1 55 4 = nI e) (he : s ≤ e) (he2 : e ≤ 150) : f_X3_isWord_s2 M = some (if isW wRo 3 (M.1 56) s e = true then 1 else 0) := by
  have hf := fu_big
  unfold f_X3_isWord_s2 isW
  have hd : nI e - nI s = nI (e - s) := by
    obtain ⟨d, rfl⟩ : ∃ d, e = s + d := ⟨e - s, by omega⟩
    rw [← nI_add, show s + d - s = d by omega]
    exact nI_sub_l s d
  rw [h3, h4, hd]
  by_cases hl : e - s = 3
  · rw [if_pos (by rw [hl]; rfl), decide_eq_true hl, Bool.true_and]
    exact x3_w2 h3 (by omega) 3 0 fu (by omega) (by omega)
  · rw [if_neg (fun q => hl ((v_eq 3 3 (by omega)).mp q.symm)), decide_eq_false hl, Bool.false_and]; rfl

/-! the class's step -/
theorem x3_sw {M : Mem} {N : Nat} (hN : N ≤ 150) : ∀ (d p n : Nat) (F : Nat → Int32), F 0 = nI N → F 4 = nI p → p + d = N → d < n → ∃ F2, b_X3_stepWord_0 n (rI M 55 F) = b_X3_stepWord_35 (rI M 55 F2) ∧ F2 4 = nI (rn fLe (M.1 56) d p) ∧ ∀ k, k ≠ 4 → F2 k = F k
  | _, _, 0, _, _, _, _, hn => absurd hn (Nat.not_lt_zero _)
  | 0, p, n + 1, F, h0, h4, hp, _ => by
    refine ⟨F, ?_, h4, fun _ _ => rfl⟩
    rw [b_X3_stepWord_0.eq_2]
    show (if F 0 ≤ F 4 then _ else _) = _
    rw [h0, h4, if_pos ((nI_leI (by omega) (by omega)).mpr (by omega))]
  | d + 1, p, n + 1, F, h0, h4, hp, hn => by
    have hl := x3_let (M := rI M 55 F) (p := p) (by omega)
    rw [b_X3_stepWord_0.eq_2]
    show ∃ F2, (if F 0 ≤ F 4 then _ else (f_X3_isLetter (rI M 55 F) (F 4)).bind _) = _ ∧ _
    rw [h0, h4, if_neg (fun q => by have := (nI_leI (by omega) (by omega)).mp q; omega), hl, Option.bind_some]
    unfold rn
    by_cases hc : fLe (M.1 56 p) = true
    · rw [if_pos (show fLe ((rI M 55 F).1 56 p) = true from hc), if_neg (by decide), if_pos hc]
      obtain ⟨F2, e1, e2, e3⟩ := x3_sw hN d (p + 1) n (upd F 4 (nI (p + 1))) h0 rfl (by omega) (by omega)
      refine ⟨F2, ?_, e2, fun k hk => (e3 k hk).trans (pk_un hk)⟩
      rw [← e1]
      show b_X3_stepWord_0 n (mI (rI M 55 F) 55 4 (F 4 + 1)) = _
      rw [mI_rI, h4, nI_1]
    · rw [if_neg (show ¬ fLe ((rI M 55 F).1 56 p) = true from hc), if_pos rfl, if_neg hc]
      exact ⟨F, rfl, h4, fun _ _ => rfl⟩
def vv (tx : Nat → Int32) (s k : Nat) : Nat := if k = 0 then 0 else if k = 1 then dg (tx s) else 10 * dg (tx s) + dg (tx (s + 1))
theorem vv_1 {tx : Nat → Int32} {s p : Nat} {v : Int32} (hsp : s ≤ p) (h2 : p - s < 2) (hall : ∀ i, s ≤ i → i ≤ p → fFi (tx i) = true) (hv : v = nI (vv tx s (p - s))) : ((10 : Int32) * v + tx p) - 48 = nI (vv tx s (p + 1 - s)) := by
  subst hv
  rcases (show p - s = 0 ∨ p - s = 1 by omega) with e | e
  · have : p = s := by omega
    subst this
    obtain ⟨d, hd, hc, hg⟩ := fig_d (hall p (by omega) (by omega))
    rw [e, show p + 1 - p = 1 by omega]
    unfold vv
    rw [if_pos rfl, if_neg (by decide), if_pos rfl, hg, hc]
    exact val1 d hd
  · have : p = s + 1 := by omega
    subst this
    obtain ⟨d, hd, hc, hg⟩ := fig_d (hall s (by omega) (by omega))
    obtain ⟨d2, hd2, hc2, hg2⟩ := fig_d (hall (s + 1) (by omega) (by omega))
    rw [e, show s + 1 + 1 - s = 2 by omega]
    unfold vv
    rw [if_neg (by decide), if_pos rfl, if_neg (by decide), if_neg (by decide), hg, hg2, hc2]
    exact val2 d hd d2 hd2
theorem vv_2 {tx : Nat → Int32} {s p : Nat} (hsp : s ≤ p) (h2 : 2 ≤ p - s) : vv tx s (p + 1 - s) = vv tx s (p - s) := by
  unfold vv
  rw [if_neg (by omega), if_neg (by omega), if_neg (by omega), if_neg (by omega)]
theorem nI_sb {a b : Nat} (h : b ≤ a) : nI a - nI b = nI (a - b) := by
  obtain ⟨d, rfl⟩ : ∃ d, a = b + d := ⟨a - b, by omega⟩
  rw [← nI_add, show b + d - b = d by omega]
  exact nI_sub_l b d
theorem x3_sn {M : Mem} {N s : Nat} (hN : N ≤ 150) : ∀ (d p n : Nat) (F : Nat → Int32), F 0 = nI N → F 3 = nI s → F 4 = nI p → F 5 = nI (vv (M.1 56) s (p - s)) → s ≤ p → (∀ i, s ≤ i → i < p → fFi (M.1 56 i) = true) → p + d = N → d < n → ∃ F2, b_X3_stepNumber_5 n (rI M 55 F) = b_X3_stepNumber_84 (rI M 55 F2) ∧ F2 4 = nI (rn fFi (M.1 56) d p) ∧ F2 5 = nI (vv (M.1 56) s (rn fFi (M.1 56) d p - s)) ∧ ∀ k, k ≠ 4 → k ≠ 5 → F2 k = F k
  | _, _, 0, _, _, _, _, _, _, _, _, hn => absurd hn (Nat.not_lt_zero _)
  | 0, p, n + 1, F, h0, h3, h4, h5, hsp, hall, hp, _ => by
    refine ⟨F, ?_, h4, h5, fun _ _ _ => rfl⟩
    rw [b_X3_stepNumber_5.eq_2]
    show (if F 0 ≤ F 4 then _ else _) = _
    rw [h0, h4, if_pos ((nI_leI (by omega) (by omega)).mpr (by omega))]
  | d + 1, p, n + 1, F, h0, h3, h4, h5, hsp, hall, hp, hn => by
    have hl := x3_fig (M := rI M 55 F) (p := p) (by omega)
    rw [b_X3_stepNumber_5.eq_2]
    show ∃ F2, (if F 0 ≤ F 4 then _ else (f_X3_isFigure (rI M 55 F) (F 4)).bind fun r4 => if r4 = 0 then _ else (if (2 : Int32) ≤ F 4 - F 3 then _ else ck (F 4) 150 (b_X3_stepNumber_68 _ ((((10 : Int32) * F 5) + M.1 56 (F 4).toNatClampNeg) - 48) _))) = _ ∧ _
    rw [h0, h4, if_neg (fun q => by have := (nI_leI (by omega) (by omega)).mp q; omega), hl, Option.bind_some]
    unfold rn
    by_cases hc : fFi (M.1 56 p) = true
    · rw [if_pos (show fFi ((rI M 55 F).1 56 p) = true from hc), if_neg (by decide), if_pos hc, h3, nI_sb hsp]
      have hall2 : ∀ i, s ≤ i → i < p + 1 → fFi (M.1 56 i) = true := fun i h1 h2 => by
        by_cases e : i = p
        · subst e; exact hc
        · exact hall i h1 (by omega)
      have fin : ∀ w : Int32, w = nI (vv (M.1 56) s (p + 1 - s)) → ∃ F2, b_X3_stepNumber_68 (fun M_ => b_X3_stepNumber_5 n M_) w (rI M 55 F) = b_X3_stepNumber_84 (rI M 55 F2) ∧ F2 4 = nI (rn fFi (M.1 56) d (p + 1)) ∧ F2 5 = nI (vv (M.1 56) s (rn fFi (M.1 56) d (p + 1) - s)) ∧ ∀ k, k ≠ 4 → k ≠ 5 → F2 k = F k := by
        intro w hw
        obtain ⟨F2, e1, e2, e3, e4⟩ := x3_sn hN d (p + 1) n (upd (upd F 5 w) 4 (nI (p + 1))) h0 h3 rfl hw (by omega) hall2 (by omega) (by omega)
        refine ⟨F2, ?_, e2, e3, fun k hk hk5 => (e4 k hk hk5).trans ((pk_un hk).trans (pk_un hk5))⟩
        rw [← e1]
        unfold b_X3_stepNumber_68
        show b_X3_stepNumber_5 n (mI (mI (rI M 55 F) 55 5 w) 55 4 (F 4 + 1)) = _
        rw [mI_rI, mI_rI, h4, nI_1]
      by_cases h2 : 2 ≤ p - s
      · rw [if_pos ((v_ge 2 2 (by omega)).mpr h2)]
        exact fin (F 5) (by rw [h5, vv_2 hsp h2])
      · rw [if_neg (fun q => h2 ((v_ge 2 2 (by omega)).mp q)), ck_y (by omega) (by decide), cl (by omega)]
        exact fin _ (vv_1 hsp (by omega) (fun i h1 h2 => hall2 i h1 (by omega)) h5)
    · rw [if_neg (show ¬ fFi ((rI M 55 F).1 56 p) = true from hc), if_pos rfl, if_neg hc]
      exact ⟨F, rfl, h4, h5, fun _ _ _ => rfl⟩
theorem x3_46 {M : Mem} {N q : Nat} (hN : N ≤ 150) (hq : q ≤ N) {F : Nat → Int32} (h0 : F 0 = nI N) (h3 : F 3 = nI (tSt (M.1 56) N q)) : ∃ F2, b_X3_step_46 (rI M 55 F) = some (rI M 55 F2) ∧ F2 0 = nI N ∧ T7 F2 (M.1 56) N q := by
  have hf := fu_big
  have hs := tSt_b (tx := M.1 56) hq
  have he := tEn_b (tx := M.1 56) hq
  unfold b_X3_step_46
  obtain ⟨G, hG⟩ : ∃ G, G = upd F 4 (nI (tSt (M.1 56) N q)) := ⟨_, rfl⟩
  have hM : mI (rI M 55 F) 55 4 ((rI M 55 F).1 55 3) = rI M 55 G := by
    rw [mI_rI]
    show rI M 55 (upd F 4 (F 3)) = _
    rw [h3, hG]
  rw [hM]
  show ∃ F2, (if (rI M 55 G).1 55 3 < (rI M 55 G).1 55 0 then (f_X3_isLetter (rI M 55 G) ((rI M 55 G).1 55 3)).bind _ else _) = _ ∧ _
  have g0 : G 0 = nI N := by rw [hG, pk_un (by omega)]; exact h0
  have g3 : G 3 = nI (tSt (M.1 56) N q) := by rw [hG, pk_un (by omega)]; exact h3
  have g4 : G 4 = nI (tSt (M.1 56) N q) := by rw [hG, pk_us]
  have q3 : (rI M 55 G).1 55 3 = nI (tSt (M.1 56) N q) := g3
  have q0 : (rI M 55 G).1 55 0 = nI N := g0
  rw [q3, q0]
  by_cases h1 : N ≤ tSt (M.1 56) N q
  · rw [if_neg (fun t => by have := (nI_ltI (by omega) (by omega)).mp t; omega)]
    refine ⟨upd G 2 0, ?_, ?_, ?_, ?_, ?_, ?_⟩
    · show some (mI (rI M 55 G) 55 2 0) = _; rw [mI_rI]
    · rw [pk_un (by omega)]; exact g0
    · rw [pk_un (by omega)]; exact g3
    · rw [pk_un (by omega), g4]; unfold tEn; rw [if_pos h1]
    · rw [pk_us, tK_0.mpr h1]; rfl
    · intro k; rw [tK_0.mpr h1] at k; cases k
  rw [if_pos ((nI_ltI (by omega) (by omega)).mpr (by omega)), x3_let (M := rI M 55 G) (by omega), Option.bind_some]
  by_cases h2 : fLe (M.1 56 (tSt (M.1 56) N q)) = true
  · rw [if_pos (show fLe ((rI M 55 G).1 56 (tSt (M.1 56) N q)) = true from h2), if_neg (by decide)]
    unfold f_X3_stepWord
    have hen : tEn (M.1 56) N q = rn fLe (M.1 56) (N - tSt (M.1 56) N q) (tSt (M.1 56) N q) := by unfold tEn; rw [if_neg h1, if_pos h2]
    obtain ⟨F2, e1, e2, e3⟩ := x3_sw (M := M) hN (N - tSt (M.1 56) N q) (tSt (M.1 56) N q) fu G g0 g4 (by omega) (by omega)
    rw [e1]
    rw [← hen] at e2
    have k3 : (rI M 55 F2).1 55 3 = nI (tSt (M.1 56) N q) := (e3 3 (by omega)).trans g3
    have k4 : (rI M 55 F2).1 55 4 = nI (tEn (M.1 56) N q) := e2
    unfold b_X3_stepWord_35
    rw [x3_W0 k3 k4 he.1 (by omega), x3_W1 k3 k4 he.1 (by omega), x3_W2 k3 k4 he.1 (by omega)]
    have tk : tK (M.1 56) N q = if isW wRi 5 (M.1 56) (tSt (M.1 56) N q) (tEn (M.1 56) N q) = true then 3 else if isW wBr 6 (M.1 56) (tSt (M.1 56) N q) (tEn (M.1 56) N q) = true then 4 else if isW wRo 3 (M.1 56) (tSt (M.1 56) N q) (tEn (M.1 56) N q) = true then 5 else 6 := by
      unfold tK; rw [if_neg h1, if_pos h2]
    have fin : ∀ (c : Int32) (K : Nat), tK (M.1 56) N q = K → K ≠ 2 → c = c7 K → ∃ F3, (some (mI (rI M 55 F2) 55 2 c)) = some (rI M 55 F3) ∧ F3 0 = nI N ∧ T7 F3 (M.1 56) N q := by
      intro c K hK hK2 hc
      refine ⟨upd F2 2 c, by rw [mI_rI], ?_, ?_, ?_, ?_, ?_⟩
      · rw [pk_un (by omega), e3 0 (by omega)]; exact g0
      · rw [pk_un (by omega)]; exact k3
      · rw [pk_un (by omega)]; exact e2
      · rw [pk_us, hK, hc]
      · intro k; rw [hK] at k; exact absurd k hK2
    show ∃ F3, ((some (if isW wRi 5 (M.1 56) (tSt (M.1 56) N q) (tEn (M.1 56) N q) = true then (1 : Int32) else 0)).bind fun r1 => if r1 = 0 then ((some (if isW wBr 6 (M.1 56) (tSt (M.1 56) N q) (tEn (M.1 56) N q) = true then (1 : Int32) else 0)).bind fun r2 => if r2 = 0 then ((some (if isW wRo 3 (M.1 56) (tSt (M.1 56) N q) (tEn (M.1 56) N q) = true then (1 : Int32) else 0)).bind fun r3 => if r3 = 0 then some (mI (rI M 55 F2) 55 2 6) else some (mI (rI M 55 F2) 55 2 5)) else some (mI (rI M 55 F2) 55 2 4)) else some (mI (rI M 55 F2) 55 2 3)).bind (fun r9 => some r9) = _ ∧ _
    by_cases w0 : isW wRi 5 (M.1 56) (tSt (M.1 56) N q) (tEn (M.1 56) N q) = true
    · rw [if_pos w0, Option.bind_some, if_neg (by decide)]
      rw [if_pos w0] at tk
      exact fin 3 3 tk (by decide) rfl
    · rw [if_neg w0, Option.bind_some, if_pos rfl]
      rw [if_neg w0] at tk
      by_cases w1 : isW wBr 6 (M.1 56) (tSt (M.1 56) N q) (tEn (M.1 56) N q) = true
      · rw [if_pos w1, Option.bind_some, if_neg (by decide)]
        rw [if_pos w1] at tk
        exact fin 4 4 tk (by decide) rfl
      · rw [if_neg w1, Option.bind_some, if_pos rfl]
        rw [if_neg w1] at tk
        by_cases w2 : isW wRo 3 (M.1 56) (tSt (M.1 56) N q) (tEn (M.1 56) N q) = true
        · rw [if_pos w2, Option.bind_some, if_neg (by decide)]
          rw [if_pos w2] at tk
          exact fin 5 5 tk (by decide) rfl
        · rw [if_neg w2, Option.bind_some, if_pos rfl]
          rw [if_neg w2] at tk
          exact fin 6 6 tk (by decide) rfl
  rw [if_neg (show ¬ fLe ((rI M 55 G).1 56 (tSt (M.1 56) N q)) = true from h2), if_pos rfl, x3_fig (M := rI M 55 G) (by omega), Option.bind_some]
  by_cases h3' : fFi (M.1 56 (tSt (M.1 56) N q)) = true
  · rw [if_pos (show fFi ((rI M 55 G).1 56 (tSt (M.1 56) N q)) = true from h3'), if_neg (by decide)]
    have hen : tEn (M.1 56) N q = rn fFi (M.1 56) (N - tSt (M.1 56) N q) (tSt (M.1 56) N q) := by unfold tEn; rw [if_neg h1, if_neg h2, if_pos h3']
    unfold f_X3_stepNumber
    show ∃ F3, (b_X3_stepNumber_5 fu (mI (rI M 55 G) 55 5 0)).bind _ = _ ∧ _
    rw [mI_rI]
    obtain ⟨F2, e1, e2, e3, e4⟩ := x3_sn (M := M) hN (s := tSt (M.1 56) N q) (N - tSt (M.1 56) N q) (tSt (M.1 56) N q) fu (upd G 5 0) g0 g3 g4 (by rw [pk_us, Nat.sub_self]; rfl) (Nat.le_refl _) (fun i i1 i2 => by omega) (by omega) (by omega)
    rw [← hen] at e2 e3
    rw [e1]
    unfold b_X3_stepNumber_84
    have k3 : (rI M 55 F2).1 55 3 = nI (tSt (M.1 56) N q) := (e4 3 (by omega) (by omega)).trans g3
    have k4 : (rI M 55 F2).1 55 4 = nI (tEn (M.1 56) N q) := e2
    have k0 : F2 0 = nI N := (e4 0 (by omega) (by omega)).trans g0
    rw [k3, k4, nI_sb he.1]
    have tk : tK (M.1 56) N q = if tEn (M.1 56) N q - tSt (M.1 56) N q ≤ 2 then 2 else 7 := by unfold tK; rw [if_neg h1, if_neg h2, if_pos h3']
    have hgt := he.2.2 (by omega)
    by_cases h4 : tEn (M.1 56) N q - tSt (M.1 56) N q ≤ 2
    · rw [if_pos h4] at tk
      rw [if_neg (fun t => by have := (v_gt 2 2 (by omega)).mp t; omega)]
      refine ⟨upd F2 2 2, by show some (mI (rI M 55 F2) 55 2 2) = _; rw [mI_rI], ?_, ?_, ?_, ?_, fun _ => ?_⟩
      · rw [pk_un (by omega)]; exact k0
      · rw [pk_un (by omega)]; exact k3
      · rw [pk_un (by omega)]; exact e2
      · rw [pk_us, tk]; rfl
      · rw [pk_un (by omega), e3]
        unfold vv tV
        rw [if_neg (by omega)]
    · rw [if_neg h4] at tk
      rw [if_pos ((v_gt 2 2 (by omega)).mpr (by omega))]
      refine ⟨upd F2 2 6, by show some (mI (rI M 55 F2) 55 2 6) = _; rw [mI_rI], ?_, ?_, ?_, ?_, fun k => ?_⟩
      · rw [pk_un (by omega)]; exact k0
      · rw [pk_un (by omega)]; exact k3
      · rw [pk_un (by omega)]; exact e2
      · rw [pk_us, tk]; rfl
      · rw [tk] at k; cases k
  · rw [if_neg (show ¬ fFi ((rI M 55 G).1 56 (tSt (M.1 56) N q)) = true from h3'), if_pos rfl]
    have hen : tEn (M.1 56) N q = tSt (M.1 56) N q + 1 := by unfold tEn; rw [if_neg h1, if_neg h2, if_neg h3']
    have tk : tK (M.1 56) N q = if M.1 56 (tSt (M.1 56) N q) = 59 then 1 else 7 := by unfold tK; rw [if_neg h1, if_neg h2, if_neg h3']
    show ∃ F3, (ck ((mI (rI M 55 G) 55 4 (G 4 + 1)).1 55 3) 150 (if M.1 56 ((mI (rI M 55 G) 55 4 (G 4 + 1)).1 55 3).toNatClampNeg = 59 then some (mI (mI (rI M 55 G) 55 4 (G 4 + 1)) 55 2 1) else some (mI (mI (rI M 55 G) 55 4 (G 4 + 1)) 55 2 6))) = _ ∧ _
    have k3 : (mI (rI M 55 G) 55 4 (G 4 + 1)).1 55 3 = nI (tSt (M.1 56) N q) := g3
    rw [k3, ck_y (by omega) (by decide), cl (by omega), mI_rI, mI_rI, mI_rI, g4, nI_1]
    by_cases h5 : M.1 56 (tSt (M.1 56) N q) = 59
    · rw [if_pos h5] at tk
      rw [if_pos h5]
      refine ⟨_, rfl, ?_, ?_, ?_, ?_, fun k => ?_⟩
      · rw [pk_un (by omega), pk_un (by omega)]; exact g0
      · rw [pk_un (by omega), pk_un (by omega)]; exact g3
      · rw [pk_un (by omega), pk_us, hen]
      · rw [pk_us, tk]; rfl
      · rw [tk] at k; cases k
    · rw [if_neg h5] at tk
      rw [if_neg h5]
      refine ⟨_, rfl, ?_, ?_, ?_, ?_, fun k => ?_⟩
      · rw [pk_un (by omega), pk_un (by omega)]; exact g0
      · rw [pk_un (by omega), pk_un (by omega)]; exact g3
      · rw [pk_un (by omega), pk_us, hen]
      · rw [pk_us, tk]; rfl
      · rw [tk] at k; cases k
theorem x3_s8 {M : Mem} {N q0 : Nat} (hN : N ≤ 150) (hq0 : q0 ≤ N) : ∀ (d p n : Nat) (F : Nat → Int32), F 0 = nI N → F 3 = nI p → p + d = N → d < n → rn fBl (M.1 56) d p = tSt (M.1 56) N q0 → ∃ F2, b_X3_step_8 n (rI M 55 F) = some (rI M 55 F2) ∧ F2 0 = nI N ∧ T7 F2 (M.1 56) N q0
  | _, _, 0, _, _, _, _, hn, _ => absurd hn (Nat.not_lt_zero _)
  | 0, p, n + 1, F, h0, h3, hp, _, hr => by
    rw [b_X3_step_8.eq_2]
    show ∃ F2, (if F 0 ≤ F 3 then b_X3_step_46 (rI M 55 F) else _) = _ ∧ _
    rw [h0, h3, if_pos ((nI_leI (by omega) (by omega)).mpr (by omega))]
    exact x3_46 hN hq0 h0 (by rw [h3, ← hr]; rfl)
  | d + 1, p, n + 1, F, h0, h3, hp, hn, hr => by
    rw [b_X3_step_8.eq_2]
    show ∃ F2, (if F 0 ≤ F 3 then _ else ck (F 3) 150 (if M.1 56 (F 3).toNatClampNeg = 32 then b_X3_step_8 n (mI (rI M 55 F) 55 3 (F 3 + 1)) else b_X3_step_46 (rI M 55 F))) = _ ∧ _
    rw [h0, h3, if_neg (fun q => by have := (nI_leI (by omega) (by omega)).mp q; omega), ck_y (by omega) (by decide), cl (by omega), mI_rI, nI_1]
    unfold rn at hr
    by_cases hc : M.1 56 p = 32
    · rw [if_pos (show fBl (M.1 56 p) = true by unfold fBl; simp [hc])] at hr
      rw [if_pos hc]
      exact x3_s8 hN hq0 d (p + 1) n _ h0 rfl (by omega) (by omega) hr
    · rw [if_neg (show ¬ fBl (M.1 56 p) = true by unfold fBl; simp [hc])] at hr
      rw [if_neg hc]
      exact x3_46 hN hq0 h0 (by rw [h3, hr])
theorem x3_step {M : Mem} {N q : Nat} (hN : N ≤ 150) (hq : q ≤ N) (h0 : M.1 55 0 = nI N) (h4 : M.1 55 4 = nI q) : ∃ F, f_X3_step M = some (rI M 55 F) ∧ F 0 = nI N ∧ T7 F (M.1 56) N q := by
  have hf := fu_big
  unfold f_X3_step
  rw [h4]
  exact x3_s8 (M := M) hN hq (N - q) q fu (upd (M.1 55) 3 (nI q)) h0 rfl (by omega) (by omega) rfl
