/-! above; what fits -/
def abL (p : Nat → Bool) (what : Int32) : Nat → Nat → Nat → Int32 → Int32
  | 0, _, n, f => if what = 0 then nI n else f
  | d + 1, c, n, f => if p c then abL p what d (c + 1) (n + 1) (if n = 0 then nI c else f) else abL p what d (c + 1) n f
theorem x7_abL {M : Mem} {B m k : Nat} {l : List Nat} (hB : B ≤ 8) (hm : M.1 1 7 = nI m) (hm2 : m < 12) (hk : k < B) (hbr : BR (M.1 2) (M.1 3) (M.1 4) (M.1 5) (M.1 64) k) (hl : okN l) (what : Int32) : ∀ (d c n t : Nat) (f : Int32), (f = -1 ↔ t = 0) → t ≤ c → c + d = 289 → d < n → b_X7_above_50 (nI k) what (eC l) n (nI t) f (nI c) M = some (abL (fun c => isC c && (bh (M.1 4) (M.1 5) m k (ofC c) == l)) what d c t f, M)
  | _, _, 0, _, _, _, _, _, hn => absurd hn (Nat.not_lt_zero _)
  | 0, c, n + 1, t, f, hf, _, hc, _ => by
    rw [b_X7_above_50.eq_2, if_pos ((v_gt 288 288 (by omega)).mpr (by omega))]
    unfold abL
    split <;> rfl
  | d + 1, c, n + 1, t, f, hf, htc, hc, hn => by
    have nlt : ¬ (288 : Int32) < nI c := fun q => by have := (v_gt 288 288 (by omega)).mp q; omega
    rw [b_X7_above_50.eq_2, if_neg nlt]
    unfold abL b_X7_above_103 b_X7_above_101
    by_cases hC : isC c = true
    · obtain ⟨h1, h2, h3, -⟩ := ofC_ok c (by omega) hC
      obtain ⟨e, ho⟩ := x7_bh hB hm hm2 hk hbr h1
      rw [h2, z10, h3, e, Option.bind_some, nI_1, nI_1]
      by_cases hE : bh (M.1 4) (M.1 5) m k (ofC c) = l
      · have hp : (isC c && (bh (M.1 4) (M.1 5) m k (ofC c) == l)) = true := by rw [hC, hE]; simp
        rw [if_pos ((lg_eq0 _ _).mpr (by rw [hE]))]
        simp only [hp, if_true]
        by_cases ht : t = 0
        · rw [if_pos (hf.mpr ht), if_pos ht]
          show b_X7_above_50 _ _ _ n _ _ (nI c + 1) M = _
          rw [nI_1]
          exact x7_abL hB hm hm2 hk hbr hl what d (c + 1) n (t + 1) (nI c) ⟨fun q => absurd (show nI c < 0 by rw [q]; decide) (nI_pos (by omega)), fun q => by omega⟩ (by omega) (by omega) (by omega)
        · rw [if_neg (fun q => ht (hf.mp q)), if_neg ht]
          show b_X7_above_50 _ _ _ n _ _ (nI c + 1) M = _
          rw [nI_1]
          exact x7_abL hB hm hm2 hk hbr hl what d (c + 1) n (t + 1) f ⟨fun q => absurd (hf.mp q) ht, fun q => by omega⟩ (by omega) (by omega) (by omega)
      · have hp : (isC c && (bh (M.1 4) (M.1 5) m k (ofC c) == l)) = false := by rw [hC]; simpa using hE
        rw [if_neg (fun q => hE ((eC_inj ho hl).mp ((lg_eq0 _ _).mp q)))]
        simp only [hp, Bool.false_eq_true, if_false]
        exact x7_abL hB hm hm2 hk hbr hl what d (c + 1) n t f hf (by omega) (by omega) (by omega)
    · have hC2 : isC c = false := by simpa using hC
      rw [ofC_no c (by omega) hC2, z00, nI_1]
      simp only [hC2, Bool.false_and, Bool.false_eq_true, if_false]
      exact x7_abL hB hm hm2 hk hbr hl what d (c + 1) n t f hf (by omega) (by omega) (by omega)
theorem rem17 {c : Nat} (hc : c < 2 ^ 31) : nI c - nI c / (17 : Int32) * (17 : Int32) = nI (c % 17) := pk_rem (d := 17) hc (by decide) (by decide)
theorem x8_abL {M : Mem} {B m j k : Nat} {l : List Nat} (hj : j < 4) (hl0 : M.2 66 j = eM l) (hB : B ≤ 8) (hm7 : M.1 1 7 = nI m) (hm : M.1 64 1 = nI m) (hm2 : m < 12) (hk : k < B) (hbr : BR (M.1 2) (M.1 3) (M.1 4) (M.1 5) (M.1 64) k) (hl : okN l) (what : Int32) : ∀ (d c n t : Nat) (f : Int32), t ≤ c → c + d = 289 → d < n → b_X8_above_41 (nI k) (nI j) what n (nI t) f (nI c) M = some (abL (fun c => isC c && (bh (M.1 4) (M.1 5) m k (ofC c) == l)) what d c t f, M)
  | _, _, 0, _, _, _, _, hn => absurd hn (Nat.not_lt_zero _)
  | 0, c, n + 1, t, f, _, hc, _ => by
    rw [b_X8_above_41.eq_2, if_pos ((v_ge 289 289 (by omega)).mpr (by omega))]
    unfold abL
    split <;> rfl
  | d + 1, c, n + 1, t, f, htc, hc, hn => by
    have ih := fun t f (h : t ≤ c + 1) => x8_abL hj hl0 hB hm7 hm hm2 hk hbr hl what d (c + 1) n t f h (by omega) (by omega)
    rw [b_X8_above_41.eq_2, if_neg (fun q => by have := (v_ge 289 289 (by omega)).mp q; omega)]
    have yes : isC c = true → b_X8_above_69 (fun x4_ x5_ x6_ M_ => b_X8_above_41 (nI k) (nI j) what n x4_ x5_ x6_ M_) (nI k) (nI j) what (nI t) f (nI c) 1 M = some (abL (fun c => isC c && (bh (M.1 4) (M.1 5) m k (ofC c) == l)) what (d + 1) c t f, M) := by
      intro hC
      obtain ⟨h1, -, -, h3⟩ := ofC_ok c (by omega) hC
      obtain ⟨-, ho⟩ := x7_bh hB hm7 hm2 hk hbr h1
      have e := x8_bh (N := M) rfl hB hm hm2 hk hbr h1
      unfold b_X8_above_69 b_X8_above_113 b_X8_above_108 abL
      rw [z10, h3, e, Option.bind_some, ck_y (by omega) (by decide), cl (by omega), hl0, nI_1, nI_1]
      by_cases hE : bh (M.1 4) (M.1 5) m k (ofC c) = l
      · have hp : (isC c && (bh (M.1 4) (M.1 5) m k (ofC c) == l)) = true := by rw [hC, hE]; simp
        rw [if_pos ((lg_eq0 _ _).mpr (by rw [hE]))]
        simp only [hp, if_true]
        by_cases ht : t = 0
        · rw [if_pos ((v_eq 0 0 (by omega)).mpr ht), if_pos ht]
          show b_X8_above_41 _ _ _ n _ _ (nI c + 1) M = _
          rw [nI_1]
          exact ih (t + 1) _ (by omega)
        · rw [if_neg (fun q => ht ((v_eq 0 0 (by omega)).mp q)), if_neg ht]
          show b_X8_above_41 _ _ _ n _ _ (nI c + 1) M = _
          rw [nI_1]
          exact ih (t + 1) _ (by omega)
      · have hp : (isC c && (bh (M.1 4) (M.1 5) m k (ofC c) == l)) = false := by rw [hC]; simpa using hE
        rw [if_neg (fun q => hE ((eM_inj ho hl).mp ((lg_eq0 _ _).mp q)))]
        simp only [hp, Bool.false_eq_true, if_false]
        exact ih t f (by omega)
    by_cases h17 : c < 17
    · rw [if_pos ((v_lt 17 17 (by omega)).mpr h17)]
      exact yes ((show ∀ c, c < 17 → isC c = true by decide) c h17)
    · rw [if_neg (fun q => h17 ((v_lt 17 17 (by omega)).mp q)), rem17 (by omega)]
      by_cases h0 : c % 17 = 0
      · have hC2 : isC c = false := by unfold isC; simp [h0]; omega
        rw [if_pos ((v_le 0 0 (by omega)).mpr (by omega))]
        unfold b_X8_above_69 b_X8_above_113 abL
        rw [z00, nI_1]
        simp only [hC2, Bool.false_and, Bool.false_eq_true, if_false]
        exact ih t f (by omega)
      · rw [if_neg (fun q => by have := (v_le 0 0 (by omega)).mp q; omega)]
        exact yes (by unfold isC; simp [h0])
theorem e_above {M : Mem} (h : Inv M) (x y z : Int32) : Same (f_X7_above x y z) (f_X8_above x y z) M := by
  obtain ⟨⟨B, m, N, u, a1, a2, a3, a4, a5, a6, a7, a8, a9⟩, -⟩ := id h
  have hf := fu_big
  have hB := (show (mB7 M).1 64 0 = nI B from a2.2)
  rcases arg x B with ⟨a, ha, ha2, rfl⟩ | hx
  · rcases arg y 4 with ⟨j, hj, hj2, rfl⟩ | hy
    · rcases arg z 2 with ⟨c, hc, hc2, rfl⟩ | hz
      · have v7 : f_X7_isBelow (nI c) (2 : Int32) = 1 := bel_y hc rfl (by decide)
        have v8 : f_X8_in (nI c).toInt64 (0 : Int64) (1 : Int64) = 1 := in_y hc hc2 (by decide)
        obtain ⟨l, hl, e1, e2⟩ := a7 j hj
        have c7 := x7_abL a1.1 a3.1 a1.2.1 ha (a6 a ha) hl (nI c) 289 0 fu 0 (-1) (by decide) (by omega) (by omega) (by omega)
        have c8 := x8_abL hj e2 a1.1 a3.1 a3.2 a1.2.1 ha (a6 a ha) hl (nI c) 289 0 fu 0 (-1) (by omega) (by omega) (by omega)
        refine ⟨_, M, M, (?_ : _ = some (abL (fun c => isC c && (bh (M.1 4) (M.1 5) m a (ofC c) == l)) (nI c) 289 0 0 (-1), M)), ?_, h⟩
        · (first | unfold f_X7_above | unfold f_X8_above); rw [br7_y a2.1 ha a1.1, z10, row7_y hj, z10, v7, z10, ck_y hj (by decide), cl hj2, e1]; exact c7
        · (first | unfold f_X7_above | unfold f_X8_above); rw [br8_y a2.2 ha a1.1, z10, row8_y hj, z10, v8, z10]; exact c8
      · exact s_bad (v := -10) h (by (first | unfold f_X7_above | unfold f_X8_above); rw [br7_y a2.1 ha a1.1, z10, row7_y hj, z10, bel_n (v := 2) hz rfl (by decide)]; rfl) (by (first | unfold f_X7_above | unfold f_X8_above); rw [br8_y hB ha a1.1, z10, row8_y hj, z10, in_n hz (by decide)]; rfl)
    · exact s_bad (v := -10) h (by (first | unfold f_X7_above | unfold f_X8_above); rw [br7_y a2.1 ha a1.1, z10, row7_n hy]; rfl) (by (first | unfold f_X7_above | unfold f_X8_above); rw [br8_y hB ha a1.1, z10, row8_n hy]; rfl)
  · exact s_bad (v := -10) h (by (first | unfold f_X7_above | unfold f_X8_above); rw [br7_n a2.1 hx a1.1]; rfl) (by (first | unfold f_X7_above | unfold f_X8_above); rw [br8_n hB hx a1.1]; rfl)
/-! fits -/
theorem pair7 {l : List Nat} (h : okN l) {p q : Nat} (hp : p < 96) (hq : q < 12) : f_X5_appliedPair (eC l) (nI p) (nI q) = some (eC (rule (p / 16) (p % 16) q l)) := by
  unfold f_X5_appliedPair
  have e1 : nI p / (16 : Int32) = nI (p / 16) := pk_div (d := 16) (by omega) (by decide) (by decide)
  have e2 : nI p - nI p / (16 : Int32) * (16 : Int32) = nI (p % 16) := pk_rem (d := 16) (by omega) (by decide) (by decide)
  rw [e2, e1, x5_applied h (by omega) (by omega) (by omega)]; rfl
theorem pair8 {l : List Nat} (h : okN l) {p q : Nat} (hp : p < 96) (hq : q < 12) : f_X8_becomes (nI p / (16 : Int32)) (nI p - nI p / (16 : Int32) * (16 : Int32)) (nI q) (eM l) = some (eM (rule (p / 16) (p % 16) q l)) := by
  have e1 : nI p / (16 : Int32) = nI (p / 16) := pk_div (d := 16) (by omega) (by decide) (by decide)
  have e2 : nI p - nI p / (16 : Int32) * (16 : Int32) = nI (p % 16) := pk_rem (d := 16) (by omega) (by decide) (by decide)
  rw [e2, e1, x8_becomes h (by omega) (by omega) (by omega)]
/-- whether a pair fits what was noted k-th -/
def fit1 (bo mo : Nat → Int32) (ah be : Nat → Int64) (b p k : Nat) : Bool := decide (¬ bo k = nI b) || decide (f_X5_appliedPair (ah k) (nI p) (mo k) = some (be k))
def fitF (bo mo : Nat → Int32) (ah be : Nat → Int64) (b p : Nat) : Nat → Nat → Bool
  | 0, _ => true
  | d + 1, k => fit1 bo mo ah be b p k && fitF bo mo ah be b p d (k + 1)
theorem x7_fitL {M : Mem} {N b p : Nat} (hN : N ≤ 8) (hN7 : M.1 7 4 = nI N) (hnt : ∀ k, k < N → NT (M.1 8) (M.1 9) (M.1 64) (M.2 10) (M.2 11) (M.2 66) k) (hb : b < 8) (hp : p < 96) : ∀ (d k n : Nat), k + d = N → d < n → b_X2_agreeWith_7_2 M (nI b) (nI p) n (nI k) = some (if fitF (M.1 8) (M.1 9) (M.2 10) (M.2 11) b p d k then 1 else 0)
  | _, _, 0, _, hn => absurd hn (Nat.not_lt_zero _)
  | 0, k, n + 1, hk, _ => by
    rw [b_X2_agreeWith_7_2.eq_2, hN7, if_pos ((nI_leI (by omega) (by omega)).mpr (by omega))]; rfl
  | d + 1, k, n + 1, hk, hn => by
    obtain ⟨⟨b', q, hb', hq, n1, -, n2, -⟩, ⟨la', hla, ea, -⟩, ⟨lb, hlb, eb, -⟩⟩ := hnt k (by omega)
    have ih := x7_fitL hN hN7 hnt hb hp d (k + 1) n (by omega) (by omega)
    rw [b_X2_agreeWith_7_2.eq_2, hN7, if_neg (fun q => by have := (nI_leI (by omega) (by omega)).mp q; omega), ck_y (by omega) (by decide), cl (by omega)]
    unfold fitF fit1 b_X2_agreeWith_7_48
    rw [nI_1]
    by_cases hbb : M.1 8 k = nI b
    · rw [if_pos hbb, ck_y (by omega) (by decide), ck_y (by omega) (by decide), ea, n2, pair7 hla hp hq, Option.bind_some, ck_y (by omega) (by decide), eb]
      by_cases hE : rule (p / 16) (p % 16) q la' = lb
      · rw [if_pos ((lg_eq0 _ _).mpr (by rw [hE])), hE]
        simp only [hbb, decide_true, decide_false, not_true_eq_false, Bool.false_or, Bool.true_and]
        exact ih
      · rw [if_neg (fun z => hE ((eC_inj (rule_ok hla (by omega)) hlb).mp ((lg_eq0 _ _).mp z)))]
        have : ¬ eC (rule (p / 16) (p % 16) q la') = eC lb := fun z => hE ((eC_inj (rule_ok hla (by omega)) hlb).mp z)
        simp [hbb, this]
    · rw [if_neg hbb]
      simp only [hbb, not_false_eq_true, decide_true, Bool.true_or, Bool.true_and]
      exact ih
theorem x8_fitL {M : Mem} {N b p : Nat} (hN : N ≤ 8) (hN8 : M.1 64 2 = nI N) (hnt : ∀ k, k < N → NT (M.1 8) (M.1 9) (M.1 64) (M.2 10) (M.2 11) (M.2 66) k) (hb : b < 8) (hp : p < 96) : ∀ (d k n : Nat) (ok : Bool), k + d = N → d < n → b_X8_doesFit_5 M (nI b) (nI p) n (if ok then 1 else 0) (nI k) = some (if ok && fitF (M.1 8) (M.1 9) (M.2 10) (M.2 11) b p d k then 1 else 0)
  | _, _, 0, _, _, hn => absurd hn (Nat.not_lt_zero _)
  | 0, k, n + 1, ok, hk, _ => by
    rw [b_X8_doesFit_5.eq_2, hN8, if_pos ((nI_leI (by omega) (by omega)).mpr (by omega))]
    unfold ckB fitF
    cases ok <;> rfl
  | d + 1, k, n + 1, ok, hk, hn => by
    obtain ⟨⟨b', q, hb', hq, n1, m1, n2, m2⟩, ⟨la', hla, ea, fa⟩, ⟨lb, hlb, eb, fb⟩⟩ := hnt k (by omega)
    have ih := fun ok => x8_fitL hN hN8 hnt hb hp d (k + 1) n ok (by omega) (by omega)
    have i36 : (36 : Int32) + (2 : Int32) * nI k = nI (36 + 2 * k) := by
      have e : (2 : Int32) * nI k = nI (2 * k) := pk_mul 2 k
      rw [e]; exact nI_add 36 _
    have i4 : (4 : Int32) + (2 : Int32) * nI k = nI (4 + 2 * k) := by
      have e : (2 : Int32) * nI k = nI (2 * k) := pk_mul 2 k
      rw [e]; exact nI_add 4 _
    rw [b_X8_doesFit_5.eq_2, hN8, if_neg (fun q => by have := (nI_leI (by omega) (by omega)).mp q; omega), i36, ck_y (by omega) (by decide), cl (by omega), m1]
    unfold fitF fit1 b_X8_doesFit_37 b_X8_doesFit_106
    rw [i36, i4, nI_1, nI_1, nI_1, cl (by omega), cl (by omega), cl (by omega), n1]
    cases ok with
    | false =>
      simp only [Bool.false_eq_true, if_false, Bool.false_and]
      have := ih false
      simp only [Bool.false_eq_true, if_false, Bool.false_and] at this
      split <;> (rw [if_pos trivial]; exact this)
    | true =>
      have iT := ih true
      have iF := ih false
      simp only [Bool.false_eq_true, if_false, Bool.false_and, if_true, Bool.true_and] at iT iF ⊢
      by_cases hbb : nI b' = nI b
      · rw [if_pos hbb, if_neg (by decide), if_neg (by decide), ck_y (by omega) (by decide), ck_y (by omega) (by decide), m2, fa, pair8 hla hp hq, Option.bind_some, ck_y (by omega) (by decide), fb, n2, ea, eb, pair7 hla hp hq]
        by_cases hE : rule (p / 16) (p % 16) q la' = lb
        · rw [if_pos ((lg_eq0 _ _).mpr (by rw [hE])), hE]
          simp only [hbb, decide_true, decide_false, not_true_eq_false, Bool.false_or, Bool.true_and]
          exact iT
        · rw [if_neg (fun z => hE ((eM_inj (rule_ok hla (by omega)) hlb).mp ((lg_eq0 _ _).mp z)))]
          have : ¬ eC (rule (p / 16) (p % 16) q la') = eC lb := fun z => hE ((eC_inj (rule_ok hla (by omega)) hlb).mp z)
          simp only [hbb, this, Option.some.injEq, decide_false, not_true_eq_false, Bool.or_self, Bool.false_and, Bool.false_eq_true, if_false]
          exact iF
      · rw [if_neg hbb, if_neg (by decide)]
        simp only [hbb, not_false_eq_true, decide_true, Bool.true_or, Bool.true_and]
        exact iT
