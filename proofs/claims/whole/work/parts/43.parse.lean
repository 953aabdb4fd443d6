/-! reading, token by token -/
def S7 (M : Mem) (tx : Nat → Int32) (N q : Nat) : Prop := M.1 55 0 = nI N ∧ M.1 56 = tx ∧ T7 (M.1 55) tx N q
def S8 (M : Mem) (tx : Nat → Int32) (N q : Nat) : Prop := M.1 63 20 = nI N ∧ (∀ k, k < N → M.1 77 k = tx k) ∧ T8 (M.1 63) tx N q
theorem tV_lt {tx : Nat → Int32} {n q : Nat} (hq : q ≤ n) (h : tK tx n q = 2) : tV tx n q < 100 := by
  have hs := tSt_b (tx := tx) hq
  have he := tEn_b (tx := tx) hq
  have h' := h
  unfold tK at h'
  by_cases h1 : n ≤ tSt tx n q
  · rw [if_pos h1] at h'; cases h'
  rw [if_neg h1] at h'
  by_cases h2 : fLe (tx (tSt tx n q)) = true
  · rw [if_pos h2] at h'
    exfalso
    revert h'
    repeat' split
    all_goals decide
  rw [if_neg h2] at h'
  by_cases h3 : fFi (tx (tSt tx n q)) = true
  · have hen : tEn tx n q = rn fFi tx (n - tSt tx n q) (tSt tx n q) := by unfold tEn; rw [if_neg h1, if_neg h2, if_pos h3]
    obtain ⟨d, hd, -, hg⟩ := fig_d h3
    unfold tV
    by_cases h4 : tEn tx n q - tSt tx n q = 1
    · rw [if_pos h4, hg]; omega
    · rw [if_neg h4]
      have hgt := he.2.2 (by omega)
      obtain ⟨d2, hd2, -, hg2⟩ := fig_d (rn_all (f := fFi) (tx := tx) (n - tSt tx n q) (tSt tx n q) (tSt tx n q + 1) (by omega) (by rw [← hen]; omega))
      rw [hg, hg2]; omega
  · rw [if_neg h3] at h'
    exfalso
    revert h'
    split <;> decide
theorem step7 {M : Mem} {tx : Nat → Int32} {N q : Nat} (hN : N ≤ 150) (hq : q ≤ N) (h : S7 M tx N q) : ∃ F, f_X3_step M = some (rI M 55 F) ∧ S7 (rI M 55 F) tx N (tEn tx N q) := by
  obtain ⟨F, e1, e2, e3⟩ := x3_step hN (tEn_b (tx := tx) hq).2.1 h.1 h.2.2.2.1
  rw [h.2.1] at e3
  exact ⟨F, e1, e2, h.2.1, e3⟩
theorem go8 {M : Mem} {tx : Nat → Int32} {N q : Nat} (hN : N ≤ 150) (hq : q ≤ N) (h : S8 M tx N q) : ∃ G, f_X8_goBehind M = some (rI M 63 G) ∧ S8 (rI M 63 G) tx N (tEn tx N q) := by
  have he := tEn_b (tx := tx) hq
  obtain ⟨G, e1, e2, e3⟩ := x8_look hN he.2.1 h.1 h.2.1
  refine ⟨G, ?_, (e2 20 (by omega)).trans h.1, h.2.1, e3⟩
  unfold f_X8_goBehind
  rw [h.2.2.1, h.2.2.2.1, nI_add, show tSt tx N q + (tEn tx N q - tSt tx N q) = tEn tx N q by omega, e1]
  rfl
theorem c7_eq (K : Nat) (v : Int32) (j : Nat) (hj : j ≤ 5) (hv : nI j = v := by decide) : c7 K = v ↔ K = j := by
  subst hv
  unfold c7
  by_cases h : K ≤ 5
  · rw [if_pos h]; exact nI_eq (by omega) (by omega)
  · rw [if_neg h]
    refine ⟨fun q => ?_, fun q => by omega⟩
    have : (6 : Int32) = nI 6 := rfl
    rw [this] at q
    have := (nI_eq (by omega) (by omega)).mp q
    omega
theorem c8_2 (K : Nat) : c8K K = 2 ↔ K = 2 := by
  unfold c8K
  by_cases h0 : K = 0
  · rw [if_pos h0]; subst h0; decide
  rw [if_neg h0]
  by_cases h1 : K = 1
  · rw [if_pos h1]; subst h1; decide
  rw [if_neg h1]
  by_cases h2 : K = 2
  · rw [if_pos h2]; simp [h2]
  rw [if_neg h2]
  split
  · exact ⟨fun q => absurd q (by decide), fun q => absurd q h2⟩
  · exact ⟨fun q => absurd q (by decide), fun q => absurd q h2⟩
theorem c8_3 (K : Nat) : c8K K = 3 ↔ K = 1 := by
  unfold c8K
  by_cases h0 : K = 0
  · rw [if_pos h0]; subst h0; decide
  rw [if_neg h0]
  by_cases h1 : K = 1
  · rw [if_pos h1]; simp [h1]
  rw [if_neg h1]
  by_cases h2 : K = 2
  · rw [if_pos h2]; exact ⟨fun q => absurd q (by decide), fun q => absurd q h1⟩
  rw [if_neg h2]
  split
  · exact ⟨fun q => absurd q (by decide), fun q => absurd q h1⟩
  · exact ⟨fun q => absurd q (by decide), fun q => absurd q h1⟩
theorem c8_0 (K : Nat) : c8K K = 0 ↔ K = 0 := by
  unfold c8K
  by_cases h0 : K = 0
  · rw [if_pos h0]; simp [h0]
  rw [if_neg h0]
  repeat' split
  all_goals exact ⟨fun q => absurd q (by decide), fun q => absurd q h0⟩
theorem num7_y {M : Mem} {tx : Nat → Int32} {N q : Nat} {u : Int32} (lim : Nat) (w : Int32) (hN : N ≤ 150) (hq : q ≤ N) (h : S7 M tx N q) (hK : tK tx N q = 2) (hv : tV tx N q < lim) (hu : ¬ nI (tV tx N q) = u) (hl : lim ≤ 100 := by decide) (hw : nI lim = w := by decide) : ∃ F, f_X3_takeNumber w u M = some (nI (tV tx N q), rI M 55 F) ∧ S7 (rI M 55 F) tx N (tEn tx N q) := by
  subst hw
  obtain ⟨F, e1, e2⟩ := step7 hN hq h
  refine ⟨F, ?_, e2⟩
  unfold f_X3_takeNumber
  rw [h.2.2.2.2.1, h.2.2.2.2.2 hK, if_pos ((c7_eq _ 2 2 (by omega)).mpr hK), if_neg (fun k => by have := (nI_leI (by omega) (by omega)).mp k; omega), if_neg hu, e1]
  rfl
theorem num7_n {M : Mem} {tx : Nat → Int32} {N q : Nat} {u : Int32} (lim : Nat) (w : Int32) (hq : q ≤ N) (h : S7 M tx N q) (hn : ¬ (tK tx N q = 2 ∧ tV tx N q < lim) ∨ (tK tx N q = 2 ∧ nI (tV tx N q) = u)) (hl : lim ≤ 100 := by decide) (hw : nI lim = w := by decide) : f_X3_takeNumber w u M = some (-1, M) := by
  subst hw
  unfold f_X3_takeNumber
  rw [h.2.2.2.2.1]
  by_cases hK : tK tx N q = 2
  · have hb := tV_lt hq hK
    rw [h.2.2.2.2.2 hK, if_pos ((c7_eq _ 2 2 (by omega)).mpr hK)]
    by_cases hv : tV tx N q < lim
    · rw [if_neg (fun k => by have := (nI_leI (by omega) (by omega)).mp k; omega)]
      rcases hn with hn | hn
      · exact absurd ⟨hK, hv⟩ hn
      · rw [if_pos hn.2]
    · rw [if_pos ((nI_leI (by omega) (by omega)).mpr (by omega))]
  · rw [if_neg (fun k => hK ((c7_eq _ 2 2 (by omega)).mp k))]
theorem in_lim {v lim : Nat} {w : Int32} (hv : v < 100) (hl : 0 < lim) (hl2 : lim ≤ 100) (hw : w = nI (lim - 1)) : f_X8_in (nI v).toInt64 (0 : Int32).toInt64 w.toInt64 = if v < lim then 1 else 0 := by
  subst hw
  rw [in_iff]
  by_cases h : v < lim
  · rw [if_pos h, if_pos]
    simp only [Bool.and_eq_true, decide_eq_true_eq]
    exact ⟨nI_pos' (by omega), (nI_leI (by omega) (by omega)).mpr (by omega)⟩
  · rw [if_neg h, if_neg]
    simp only [Bool.and_eq_true, decide_eq_true_eq]
    exact fun k => by have := (nI_leI (by omega) (by omega)).mp k.2; omega
theorem takes8_y {M : Mem} {tx : Nat → Int32} {N q : Nat} (k : Nat) (x : Int32) (lim : Nat) (w : Int32) (hN : N ≤ 150) (hq : q ≤ N) (h : S8 M tx N q) (hK : tK tx N q = 2) (hv : tV tx N q < lim) (hl : lim ≤ 100 := by decide) (hw : w = nI (lim - 1) := by decide) (hk : k < 4 := by decide) (hx : nI k = x := by decide) : ∃ G, f_X8_takes x 0 w M = some (1, rI (mI M 80 k (nI (tV tx N q))) 63 G) ∧ S8 (rI (mI M 80 k (nI (tV tx N q))) 63 G) tx N (tEn tx N q) := by
  subst hx
  have hs : S8 (mI M 80 k (nI (tV tx N q))) tx N q := h
  obtain ⟨G, e1, e2⟩ := go8 hN hq hs
  refine ⟨G, ?_, e2⟩
  unfold f_X8_takes
  rw [h.2.2.2.2.1, h.2.2.2.2.2 hK, if_pos ((c8_2 _).mpr hK), in_lim (tV_lt hq hK) (by omega) hl hw, if_pos hv, z10, ck_y hk (by decide), cl (by omega)]
  show (f_X8_goBehind (mI M 80 k (nI (tV tx N q)))).bind _ = _
  rw [e1]
  rfl
theorem takes8_n {M : Mem} {tx : Nat → Int32} {N q : Nat} {x : Int32} (lim : Nat) (w : Int32) (hq : q ≤ N) (h : S8 M tx N q) (hn : ¬ (tK tx N q = 2 ∧ tV tx N q < lim)) (hl0 : 0 < lim := by decide) (hl : lim ≤ 100 := by decide) (hw : w = nI (lim - 1) := by decide) : f_X8_takes x 0 w M = some (0, M) := by
  unfold f_X8_takes
  rw [h.2.2.2.2.1]
  by_cases hK : tK tx N q = 2
  · rw [if_pos ((c8_2 _).mpr hK), h.2.2.2.2.2 hK, in_lim (tV_lt hq hK) hl0 hl hw, if_neg (fun k => hn ⟨hK, k⟩), z00]
  · rw [if_neg (fun k => hK ((c8_2 _).mp k))]
theorem stop7_y {M : Mem} {tx : Nat → Int32} {N q : Nat} (hN : N ≤ 150) (hq : q ≤ N) (h : S7 M tx N q) (hK : tK tx N q = 1) : ∃ F, f_X3_takeStop M = some (1, rI M 55 F) ∧ S7 (rI M 55 F) tx N (tEn tx N q) := by
  obtain ⟨F, e1, e2⟩ := step7 hN hq h
  refine ⟨F, ?_, e2⟩
  unfold f_X3_takeStop
  rw [h.2.2.2.2.1, if_pos ((c7_eq _ 1 1 (by omega)).mpr hK), e1]
  rfl
theorem stop7_n {M : Mem} {tx : Nat → Int32} {N q : Nat} (h : S7 M tx N q) (hK : ¬ tK tx N q = 1) : f_X3_takeStop M = some (0, M) := by
  unfold f_X3_takeStop
  rw [h.2.2.2.2.1, if_neg (fun k => hK ((c7_eq _ 1 1 (by omega)).mp k))]
/-- what the two change while they read -/
def K7 (N M : Mem) : Prop := (∀ k, k ≠ 55 → (k < 14 ∨ 26 < k) → N.1 k = M.1 k) ∧ (∀ k, (k < 14 ∨ 26 < k) → N.2 k = M.2 k)
def K8 (N M : Mem) : Prop := (∀ k, k ≠ 63 → k ≠ 78 → k ≠ 80 → N.1 k = M.1 k) ∧ (∀ k, k ≠ 79 → N.2 k = M.2 k)
theorem K7_r (M : Mem) : K7 M M := ⟨fun _ _ _ => rfl, fun _ _ => rfl⟩
theorem K8_r (M : Mem) : K8 M M := ⟨fun _ _ _ _ => rfl, fun _ _ => rfl⟩
theorem K7_t {P N M : Mem} (h : K7 P N) (h2 : K7 N M) : K7 P M := ⟨fun k a b => (h.1 k a b).trans (h2.1 k a b), fun k a => (h.2 k a).trans (h2.2 k a)⟩
theorem K8_t {P N M : Mem} (h : K8 P N) (h2 : K8 N M) : K8 P M := ⟨fun k a b c => (h.1 k a b c).trans (h2.1 k a b c), fun k a => (h.2 k a).trans (h2.2 k a)⟩
theorem K7_55 (M : Mem) (F : Nat → Int32) : K7 (rI M 55 F) M := ⟨fun _ a _ => rI_ne a, fun _ _ => rfl⟩
theorem K8_63 (M : Mem) (G : Nat → Int32) : K8 (rI M 63 G) M := ⟨fun _ a _ _ => rI_ne a, fun _ _ => rfl⟩
theorem K7_d {M : Mem} {c : Nat} (hc : 14 ≤ c ∧ c ≤ 26) (F : Nat → Int32) : K7 (rI M c F) M := ⟨fun _ _ b => rI_ne (by omega), fun _ _ => rfl⟩
theorem K7_dL {M : Mem} {c : Nat} (hc : 14 ≤ c ∧ c ≤ 26) (F : Nat → Int64) : K7 (rL M c F) M := ⟨fun _ _ _ => rfl, fun _ b => rL_ne (by omega)⟩
theorem K8_80 (M : Mem) (F : Nat → Int32) : K8 (rI M 80 F) M := ⟨fun _ _ _ c => rI_ne c, fun _ _ => rfl⟩
theorem K8_78 (M : Mem) (F : Nat → Int32) : K8 (rI M 78 F) M := ⟨fun _ _ b _ => rI_ne b, fun _ _ => rfl⟩
theorem K8_79 (M : Mem) (F : Nat → Int64) : K8 (rL M 79 F) M := ⟨fun _ _ _ _ => rfl, fun _ a => rL_ne a⟩
/-- both stand at the same place -/
def FA (N7 N8 : Mem) : Prop := ∃ s, s ≤ 150 ∧ N7.1 55 3 = nI s ∧ N8.1 63 21 = nI s
theorem FA_of {M7 M8 : Mem} {tx : Nat → Int32} {N q : Nat} (hN : N ≤ 150) (hq : q ≤ N) (h7 : S7 M7 tx N q) (h8 : S8 M8 tx N q) : FA M7 M8 := ⟨tSt tx N q, by have := tSt_b (tx := tx) hq; omega, h7.2.2.1, h8.2.2.1⟩
/-- the draft, but for one row -/
def DRx (M7 M8 : Mem) (B m x : Nat) : Prop := (B ≤ 8 ∧ m < 12) ∧ (M7.1 14 6 = nI B ∧ M8.1 78 0 = nI B) ∧ (M7.1 14 7 = nI m ∧ M8.1 78 1 = nI m) ∧ (M7.1 20 4 = nI 0 ∧ M8.1 78 2 = nI 0) ∧ (M7.1 14 8 = nI 0 ∧ M8.1 78 3 = nI 0) ∧ (∀ k, k < B → BR (M7.1 15) (M7.1 16) (M7.1 17) (M7.1 18) (M8.1 78) k) ∧ (∀ r, r < 4 → r ≠ x → nr (M7.2 19 r) (M8.2 79 r))
def DR (M7 M8 : Mem) : Prop := ∃ B m, DRx M7 M8 B m 9
/-- an item is read by both, or they stand at the same fault -/
def IT (r7 : Option (Int32 × Mem)) (r8 : Option (Int32 × Mem)) (M7 M8 : Mem) (tx : Nat → Int32) (N q : Nat) : Prop :=
  (∃ N7 N8, r7 = some (0, N7) ∧ (r8 = some (0, N8) ∨ (r8 = some (1, N8) ∧ ¬ N8.1 63 23 = 3)) ∧ FA N7 N8 ∧ K7 N7 M7 ∧ K8 N8 M8 ∧ N7.1 55 0 = nI N ∧ N8.1 63 20 = nI N) ∨
  (∃ N7 N8 N9 q', r7 = some (1, N7) ∧ r8 = some (1, N8) ∧ N8.1 63 23 = 3 ∧ f_X8_goBehind N8 = some N9 ∧ S7 N7 tx N q' ∧ S8 N9 tx N q' ∧ DR N7 N9 ∧ q + 2 ≤ q' ∧ q' ≤ N ∧ K7 N7 M7 ∧ K8 N9 M8)
theorem IT_stop {M7 M8 P7 P8 : Mem} {tx : Nat → Int32} {N q q0 : Nat} {r7 r8 : Option (Int32 × Mem)} (hN : N ≤ 150) (hq : q ≤ N) (hqq : q0 + 1 ≤ q) (h7 : S7 P7 tx N q) (h8 : S8 P8 tx N q) (hd : DR P7 P8) (k7 : K7 P7 M7) (k8 : K8 P8 M8) (e7 : r7 = (f_X3_takeStop P7).bind fun r => ckB r.1 (some (r.1, r.2))) (e8 : r8 = some (1, P8)) : IT r7 r8 M7 M8 tx N q0 := by
  by_cases hK : tK tx N q = 1
  · obtain ⟨F, f1, f2⟩ := stop7_y hN hq h7 hK
    obtain ⟨G, g1, g2⟩ := go8 hN hq h8
    have hs := tSt_b (tx := tx) hq
    have he := tEn_b (tx := tx) hq
    have hlt : tSt tx N q < N := by
      rcases Nat.lt_or_ge (tSt tx N q) N with t | t
      · exact t
      · have := tK_0.mpr t; omega
    have := he.2.2 hlt
    refine Or.inr ⟨rI P7 55 F, P8, rI P8 63 G, tEn tx N q, ?_, e8, ?_, g1, f2, g2, ?_, by omega, he.2.1, K7_t (K7_55 _ _) k7, K8_t (K8_63 _ _) k8⟩
    · rw [e7, f1]; rfl
    · rw [h8.2.2.2.2.1]; exact (c8_3 _).mpr hK
    · exact hd
  · refine Or.inl ⟨P7, P8, ?_, Or.inr ⟨e8, ?_⟩, FA_of hN hq h7 h8, k7, k8, h7.1, h8.1⟩
    · rw [e7, stop7_n h7 hK]; rfl
    · rw [h8.2.2.2.2.1]; exact fun k => hK ((c8_3 _).mp k)
theorem nm1 {v : Nat} (h : v < 100) : ¬ nI v = (-1 : Int32) := fun q => by
  have := (fa_eq _ _).mp q
  rw [nI_toInt (by omega), show (-1 : Int32).toInt = -1 by decide] at this
  omega
theorem tK_lt {tx : Nat → Int32} {N q : Nat} (hq : q ≤ N) (h : ¬ tK tx N q = 0) : q + 1 ≤ tEn tx N q := by
  have hs := tSt_b (tx := tx) hq
  have he := tEn_b (tx := tx) hq
  have hlt : tSt tx N q < N := by
    rcases Nat.lt_or_ge (tSt tx N q) N with t | t
    · exact t
    · exact absurd (tK_0.mpr t) h
  have := he.2.2 hlt
  omega
