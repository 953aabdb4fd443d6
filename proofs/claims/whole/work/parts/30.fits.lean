/-! counting; fits; tries -/
def cn (p : Nat → Bool) : Nat → Nat
  | 0 => 0
  | n + 1 => cn p n + if p n then 1 else 0
def prS (p : Nat → Bool) : Nat → Nat → Nat
  | 0, _ => 0
  | c + 1, t => if p c = true ∧ cn p c = t then c else prS p c t
theorem cn_y {p : Nat → Bool} {n : Nat} (h : p n = true) : cn p (n + 1) = cn p n + 1 := by simp [cn, h]
theorem cn_n {p : Nat → Bool} {n : Nat} (h : p n = false) : cn p (n + 1) = cn p n := by simp [cn, h]
theorem cn_le (p : Nat → Bool) : ∀ n, cn p n ≤ n
  | 0 => Nat.le_refl _
  | n + 1 => by have := cn_le p n; simp only [cn]; split <;> omega
theorem cn_mono (p : Nat → Bool) {a : Nat} : ∀ (d : Nat), cn p a ≤ cn p (a + d)
  | 0 => Nat.le_refl _
  | d + 1 => by have := cn_mono p (a := a) d; show _ ≤ cn p (a + d) + _; omega
theorem cn_mono' (p : Nat → Bool) {a b : Nat} (h : a ≤ b) : cn p a ≤ cn p b := by
  have := cn_mono p (a := a) (b - a); rwa [show a + (b - a) = b by omega] at this
theorem cn_cong {p q : Nat → Bool} : ∀ {n : Nat}, (∀ k, k < n → p k = q k) → cn p n = cn q n
  | 0, _ => rfl
  | n + 1, h => by simp only [cn, cn_cong (fun k hk => h k (Nat.lt_succ_of_lt hk)), h n (Nat.lt_succ_self n)]
theorem prS_at {p : Nat → Bool} {c : Nat} (hc : p c = true) : ∀ {C : Nat}, c < C → prS p C (cn p c) = c
  | 0, h => absurd h (Nat.not_lt_zero _)
  | C + 1, h => by
    unfold prS
    by_cases e : c = C
    · subst e; rw [if_pos ⟨hc, rfl⟩]
    · have h1 : cn p (c + 1) ≤ cn p C := cn_mono' p (by omega)
      rw [cn_y hc] at h1
      rw [if_neg (fun q => by omega)]
      exact prS_at hc (by omega)
theorem cn_pr {p q : Nat → Bool} {C : Nat} : ∀ {c : Nat}, c ≤ C → cn (fun b => p b && q b) c = cn (fun k => q (prS p C k)) (cn p c)
  | 0, _ => rfl
  | c + 1, h => by
    have ih := cn_pr (p := p) (q := q) (C := C) (c := c) (by omega)
    by_cases hp : p c = true
    · rw [cn_y hp]
      simp only [cn, hp, Bool.true_and, ih]
      simp only [prS_at hp (show c < C by omega)]
    · have hp2 : p c = false := by simpa using hp
      rw [cn_n hp2, ← ih]
      simp [cn, hp2]
theorem cn_ex {p : Nat → Bool} : ∀ {C t : Nat}, t < cn p C → ∃ c, c < C ∧ p c = true ∧ cn p c = t
  | 0, t, h => absurd h (Nat.not_lt_zero _)
  | C + 1, t, h => by
    by_cases h1 : t < cn p C
    · obtain ⟨c, a, b, d⟩ := cn_ex h1
      exact ⟨c, by omega, b, d⟩
    · by_cases hp : p C = true
      · rw [cn_y hp] at h; exact ⟨C, by omega, hp, by omega⟩
      · have hp2 : p C = false := by simpa using hp
        rw [cn_n hp2] at h; omega
theorem mI_rI {M : Mem} {k i : Nat} {g : Nat → Int32} {v : Int32} : mI (rI M k g) k i v = rI M k (upd g i v) := by
  unfold mI rI
  congr 1
  funext q
  by_cases e : q = k
  · subst e; simp
  · simp [e]
theorem mL_rL {M : Mem} {k i : Nat} {g : Nat → Int64} {v : Int64} : mL (rL M k g) k i v = rL M k (vp_updL g i v) := by
  unfold mL rL
  congr 1
  funext q
  by_cases e : q = k
  · subst e; simp
  · simp [e]
theorem rI_self (M : Mem) (k : Nat) : rI M k (M.1 k) = M := by
  unfold rI
  obtain ⟨a, b⟩ := M
  congr 1
  funext q
  by_cases e : q = k
  · subst e; simp
  · simp [e]
theorem rL_self (M : Mem) (k : Nat) : rL M k (M.2 k) = M := by
  unfold rL
  obtain ⟨a, b⟩ := M
  congr 1
  funext q
  by_cases e : q = k
  · subst e; simp
  · simp [e]
abbrev fitM (M : Mem) (N b p : Nat) : Bool := fitF (M.1 8) (M.1 9) (M.2 10) (M.2 11) b p N 0
theorem x7_agree {M : Mem} {N b p : Nat} (hN : N ≤ 8) (hN7 : M.1 7 4 = nI N) (hnt : ∀ k, k < N → NT (M.1 8) (M.1 9) (M.1 64) (M.2 10) (M.2 11) (M.2 66) k) (hb : b < 8) (hp : p < 96) : f_X2_agreeWith_7 M (nI b) (nI p) = some (if fitM M N b p then 1 else 0) := by
  have hf := fu_big
  unfold f_X2_agreeWith_7
  exact x7_fitL hN hN7 hnt hb hp N 0 fu (by omega) (by omega)
theorem x8_agree {M : Mem} {N b p : Nat} (hN : N ≤ 8) (hN8 : M.1 64 2 = nI N) (hnt : ∀ k, k < N → NT (M.1 8) (M.1 9) (M.1 64) (M.2 10) (M.2 11) (M.2 66) k) (hb : b < 8) (hp : p < 96) : f_X8_doesFit M (nI b) (nI p) = some (if fitM M N b p then 1 else 0) := by
  have hf := fu_big
  unfold f_X8_doesFit
  have := x8_fitL hN hN8 hnt hb hp N 0 fu true (by omega) (by omega)
  simp only [Bool.true_and, if_true] at this
  exact this
/-- the row of those that fit, as far as it is laid -/
def fitR (p : Nat → Bool) (old : Nat → Int32) (n : Nat) : Nat → Int32 := fun t => if t < n then nI (prS p 96 t) else old t
theorem fitR_s {p : Nat → Bool} {old : Nat → Int32} {c : Nat} (hc : p c = true) (h : c < 96) : upd (fitR p old (cn p c)) (cn p c) (nI c) = fitR p old (cn p (c + 1)) := by
  funext t
  unfold fitR
  by_cases e : t = cn p c
  · subst e
    rw [pk_us, cn_y hc, if_pos (by omega), prS_at hc h]
  · rw [pk_un e, cn_y hc]
    by_cases e2 : t < cn p c
    · rw [if_pos e2, if_pos (by omega)]
    · rw [if_neg e2, if_neg (by omega)]
theorem x7_collL {M : Mem} {N b : Nat} (hN : N ≤ 8) (hN7 : M.1 7 4 = nI N) (hnt : ∀ k, k < N → NT (M.1 8) (M.1 9) (M.1 64) (M.2 10) (M.2 11) (M.2 66) k) (hb : b < 8) : ∀ (d c n : Nat), c + d = 96 → d < n → b_X7_collectFitting_4 (nI b) n (nI (cn (fitM M N b) c)) (nI c) (rI M 61 (fitR (fitM M N b) (M.1 61) (cn (fitM M N b) c))) = some (nI (cn (fitM M N b) 96), rI M 61 (fitR (fitM M N b) (M.1 61) (cn (fitM M N b) 96)))
  | _, _, 0, _, hn => absurd hn (Nat.not_lt_zero _)
  | 0, c, n + 1, hc, _ => by
    rw [b_X7_collectFitting_4.eq_2, if_pos ((v_ge 96 96 (by omega)).mpr (by omega)), show c = 96 by omega]
  | d + 1, c, n + 1, hc, hn => by
    have ih := x7_collL hN hN7 hnt hb d (c + 1) n (by omega) (by omega)
    have ag : f_X2_agreeWith_7 (rI M 61 (fitR (fitM M N b) (M.1 61) (cn (fitM M N b) c))) (nI b) (nI c) = some (if fitM M N b c then 1 else 0) := x7_agree (M := rI M 61 _) hN hN7 hnt hb (by omega)
    have hle := cn_le (fitM M N b) c
    rw [b_X7_collectFitting_4.eq_2, if_neg (fun q => by have := (v_ge 96 96 (by omega)).mp q; omega), ag, Option.bind_some]
    unfold b_X7_collectFitting_35
    by_cases hp : fitM M N b c = true
    · rw [if_pos hp, if_neg (by decide), ck_y (by omega) (by decide), cl (by omega), mI_rI, fitR_s hp (by omega), nI_1, ← cn_y hp, nI_1]
      exact ih
    · have hp2 : fitM M N b c = false := by simpa using hp
      rw [if_neg hp, if_pos rfl, nI_1]
      rw [cn_n hp2] at ih
      exact ih
theorem x7_coll {M : Mem} {N b : Nat} (hN : N ≤ 8) (hN7 : M.1 7 4 = nI N) (hnt : ∀ k, k < N → NT (M.1 8) (M.1 9) (M.1 64) (M.2 10) (M.2 11) (M.2 66) k) (hb : b < 8) : f_X7_collectFitting (nI b) M = some (nI (cn (fitM M N b) 96), rI M 61 (fitR (fitM M N b) (M.1 61) (cn (fitM M N b) 96))) := by
  have hf := fu_big
  have h := x7_collL hN hN7 hnt hb 96 0 fu (by omega) (by omega)
  have e : rI M 61 (fitR (fitM M N b) (M.1 61) (cn (fitM M N b) 0)) = M := rI_self M 61
  rw [e] at h
  exact h
/-- the first that fits, of those below c -/
def fst1 (p : Nat → Bool) (c : Nat) : Int32 := if cn p c = 0 then -1 else nI (prS p 96 0)
theorem x8_fitsL {M : Mem} {N b : Nat} (hN : N ≤ 8) (hN8 : M.1 64 2 = nI N) (hnt : ∀ k, k < N → NT (M.1 8) (M.1 9) (M.1 64) (M.2 10) (M.2 11) (M.2 66) k) (hb : b < 8) (what : Int32) : ∀ (d c n : Nat), c + d = 96 → d < n → b_X8_fits_33 (nI b) what n (nI (cn (fitM M N b) c)) (fst1 (fitM M N b) c) (nI c) M = some (if what = 0 then nI (cn (fitM M N b) 96) else fst1 (fitM M N b) 96, M)
  | _, _, 0, _, hn => absurd hn (Nat.not_lt_zero _)
  | 0, c, n + 1, hc, _ => by
    rw [b_X8_fits_33.eq_2, if_pos ((v_ge 96 96 (by omega)).mpr (by omega)), show c = 96 by omega]
    split <;> rfl
  | d + 1, c, n + 1, hc, hn => by
    have ih := x8_fitsL hN hN8 hnt hb what d (c + 1) n (by omega) (by omega)
    have hle := cn_le (fitM M N b) c
    rw [b_X8_fits_33.eq_2, if_neg (fun q => by have := (v_ge 96 96 (by omega)).mp q; omega), x8_agree hN hN8 hnt hb (by omega), Option.bind_some]
    unfold b_X8_fits_66 b_X8_fits_61
    by_cases hp : fitM M N b c = true
    · rw [if_pos hp, if_neg (by decide)]
      have e1 : fst1 (fitM M N b) (c + 1) = nI (prS (fitM M N b) 96 0) := by unfold fst1; rw [cn_y hp, if_neg (by omega)]
      rw [e1, cn_y hp, ← nI_1, ← nI_1 c] at ih
      by_cases h0 : cn (fitM M N b) c = 0
      · have e2 : nI c = nI (prS (fitM M N b) 96 0) := by rw [← h0, prS_at hp (by omega)]
        rw [if_pos ((v_eq 0 0 (by omega)).mpr h0)]
        rw [← e2] at ih
        exact ih
      · have e2 : fst1 (fitM M N b) c = nI (prS (fitM M N b) 96 0) := by unfold fst1; rw [if_neg h0]
        rw [if_neg (fun q => h0 ((v_eq 0 0 (by omega)).mp q)), e2]
        exact ih
    · have hp2 : fitM M N b c = false := by simpa using hp
      have e1 : fst1 (fitM M N b) (c + 1) = fst1 (fitM M N b) c := by unfold fst1; rw [cn_n hp2]
      rw [if_neg hp, if_pos rfl, nI_1]
      rw [e1, cn_n hp2] at ih
      exact ih
theorem e_fits {M : Mem} (h : Inv M) (x y : Int32) : Same (f_X7_fits x y) (f_X8_fits x y) M := by
  obtain ⟨⟨B, m, N, u, a1, a2, a3, a4, a5, a6, a7, a8, a9⟩, -⟩ := id h
  have hf := fu_big
  have hB := (show (mB7 M).1 64 0 = nI B from a2.2)
  rcases arg x B with ⟨a, ha, ha2, rfl⟩ | hx
  · rcases arg y 2 with ⟨c, hc, hc2, rfl⟩ | hy
    · have v7 : f_X7_isBelow (nI c) (2 : Int32) = 1 := bel_y hc rfl (by decide)
      have v8 : f_X8_in (nI c).toInt64 (0 : Int64) (1 : Int64) = 1 := in_y hc hc2 (by decide)
      have c7 := x7_coll (b := a) a1.2.2.1 a4.1 a8 (by omega)
      have hle := cn_le (fitM M N a) 96
      have c8 := x8_fitsL (M := rI M 61 (fitR (fitM M N a) (M.1 61) (cn (fitM M N a) 96))) (b := a) a1.2.2.1 a4.2 a8 (by omega) (nI c) 96 0 fu (by omega) (by omega)
      refine ⟨if nI c = 0 then nI (cn (fitM M N a) 96) else fst1 (fitM M N a) 96, rI M 61 (fitR (fitM M N a) (M.1 61) (cn (fitM M N a) 96)), rI M 61 (fitR (fitM M N a) (M.1 61) (cn (fitM M N a) 96)), ?_, ?_, h⟩
      · (first | unfold f_X7_fits | unfold f_X8_fits); rw [br7_y a2.1 ha a1.1, z10, v7, z10, c7, Option.bind_some]
        by_cases h0 : nI c = 0
        · rw [if_pos h0, if_pos h0]
        · rw [if_neg h0, if_neg h0]
          unfold fst1
          by_cases h1 : cn (fitM M N a) 96 = 0
          · rw [if_pos ((v_eq 0 0 (by omega)).mpr h1), if_pos h1]
          · rw [if_neg (fun q => h1 ((v_eq 0 0 (by omega)).mp q)), if_neg h1, rI_eq]
            unfold fitR
            rw [if_pos (by omega)]
      · (first | unfold f_X7_fits | unfold f_X8_fits); rw [br8_y (M := rI M 61 _) a2.2 ha a1.1, z10, v8, z10]; exact c8
    · exact s_bad (v := -10) h (by (first | unfold f_X7_fits | unfold f_X8_fits); rw [br7_y a2.1 ha a1.1, z10, bel_n (v := 2) hy rfl (by decide)]; rfl) (by (first | unfold f_X7_fits | unfold f_X8_fits); rw [br8_y hB ha a1.1, z10, in_n hy (by decide)]; rfl)
  · exact s_bad (v := -10) h (by (first | unfold f_X7_fits | unfold f_X8_fits); rw [br7_n a2.1 hx a1.1]; rfl) (by (first | unfold f_X7_fits | unfold f_X8_fits); rw [br8_n hB hx a1.1]; rfl)

/-! tries -/
/-- as many at most make the same, of those laid so far -/
def pcO (O : Nat → List Nat) (i : Nat) : Nat := cn (fun k => O k == O i) (i + 1)
def mxO (O : Nat → List Nat) : Nat → Nat
  | 0 => 0
  | i + 1 => max (mxO O i) (pcO O i)
theorem mxO_ge (O : Nat → List Nat) : ∀ {n i : Nat}, i < n → pcO O i ≤ mxO O n
  | 0, _, h => absurd h (Nat.not_lt_zero _)
  | n + 1, i, h => by
    unfold mxO
    by_cases e : i = n
    · subst e; omega
    · have := mxO_ge O (n := n) (i := i) (by omega); omega
theorem mxO_le (O : Nat → List Nat) {b : Nat} : ∀ {n : Nat}, (∀ i, i < n → pcO O i ≤ b) → mxO O n ≤ b
  | 0, _ => Nat.zero_le _
  | n + 1, h => by
    unfold mxO
    have h1 := mxO_le O (b := b) (n := n) (fun i hi => h i (by omega))
    have h2 := h n (by omega)
    omega
def fullV (p : Nat → Bool) (V : Nat → List Nat) (a : Nat) : Nat := cn (fun b => p b && (V b == V a)) 96
def mdV (p : Nat → Bool) (V : Nat → List Nat) : Nat → Nat
  | 0 => 0
  | a + 1 => max (mdV p V a) (if p a then fullV p V a else 0)
theorem mdV_ge {p : Nat → Bool} (V : Nat → List Nat) : ∀ {n a : Nat}, a < n → p a = true → fullV p V a ≤ mdV p V n
  | 0, _, h, _ => absurd h (Nat.not_lt_zero _)
  | n + 1, a, h, hp => by
    unfold mdV
    by_cases e : a = n
    · subst e; rw [if_pos hp]; omega
    · have := mdV_ge V (n := n) (a := a) (by omega) hp; omega
theorem mdV_le {p : Nat → Bool} (V : Nat → List Nat) {b : Nat} : ∀ {n : Nat}, (∀ a, a < n → p a = true → fullV p V a ≤ b) → mdV p V n ≤ b
  | 0, _ => Nat.zero_le _
  | n + 1, h => by
    unfold mdV
    have h1 := mdV_le V (b := b) (n := n) (fun i hi => h i (by omega))
    by_cases hp : p n = true
    · have h2 := h n (by omega) hp
      rw [if_pos hp]; omega
    · rw [if_neg hp]; omega
theorem last_ex {q : Nat → Bool} : ∀ {n : Nat}, (∃ i, i < n ∧ q i = true) → ∃ i, i < n ∧ q i = true ∧ ∀ k, i < k → k < n → q k = false
  | 0, h => by obtain ⟨i, h1, -⟩ := h; omega
  | n + 1, h => by
    by_cases hn : q n = true
    · exact ⟨n, by omega, hn, fun k h1 h2 => by omega⟩
    · obtain ⟨i, h1, h2⟩ := h
      have hne : i ≠ n := fun e => hn (by rw [← e]; exact h2)
      obtain ⟨j, a, b, c⟩ := last_ex (n := n) ⟨i, by omega, h2⟩
      refine ⟨j, by omega, b, fun k h3 h4 => ?_⟩
      by_cases e : k = n
      · subst e; simpa using hn
      · exact c k h3 (by omega)
theorem cn_tail {q : Nat → Bool} {a : Nat} : ∀ (d : Nat), (∀ k, a ≤ k → k < a + d → q k = false) → cn q (a + d) = cn q a
  | 0, _ => rfl
  | d + 1, h => by
    show cn q (a + d) + (if q (a + d) then 1 else 0) = _
    rw [cn_tail d (fun k h1 h2 => h k h1 (by omega)), h (a + d) (by omega) (by omega)]
    rfl
theorem mx_md (p : Nat → Bool) (V : Nat → List Nat) : mxO (fun k => V (prS p 96 k)) (cn p 96) = mdV p V 96 := by
  have full : ∀ a, fullV p V a = cn (fun k => V (prS p 96 k) == V a) (cn p 96) := fun a => cn_pr (p := p) (q := fun b => V b == V a) (C := 96) (Nat.le_refl _)
  apply Nat.le_antisymm
  · apply mxO_le
    intro i hi
    obtain ⟨c, h1, h2, h3⟩ := cn_ex hi
    have h4 := mdV_ge (p := p) V h1 h2
    refine Nat.le_trans ?_ h4
    rw [full c]
    unfold pcO
    have e : V (prS p 96 i) = V c := by rw [← h3, prS_at h2 h1]
    simp only [e]
    exact cn_mono' _ (by omega)
  · apply mdV_le
    intro a ha hp
    have hi : cn p a < cn p 96 := by
      have := cn_mono' p (show a + 1 ≤ 96 by omega)
      rw [cn_y hp] at this; omega
    obtain ⟨t, h1, h2, h3⟩ := last_ex (q := fun k => V (prS p 96 k) == V a) ⟨cn p a, hi, by rw [prS_at hp ha]; simp⟩
    have h2' : V (prS p 96 t) = V a := by simpa using h2
    refine Nat.le_trans ?_ (mxO_ge (fun k => V (prS p 96 k)) h1)
    rw [full a]
    unfold pcO
    simp only [h2']
    have := cn_tail (q := fun k => V (prS p 96 k) == V a) (a := t + 1) (cn p 96 - (t + 1)) (fun k h4 h5 => h3 k (by omega) (by omega))
    rw [show t + 1 + (cn p 96 - (t + 1)) = cn p 96 by omega] at this
    rw [this]
    exact Nat.le_refl _
