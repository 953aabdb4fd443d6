/-! what to try next -/
theorem prS_lt (p : Nat → Bool) (t : Nat) : ∀ {C : Nat}, 0 < C → prS p C t < C
  | 0, h => absurd h (Nat.lt_irrefl _)
  | 1, _ => by unfold prS; split <;> simp [prS]
  | C + 2, _ => by
    unfold prS
    split
    · omega
    · have := prS_lt p t (C := C + 1) (by omega); omega
theorem pcO_le (O : Nat → List Nat) (i : Nat) : pcO O i ≤ i + 1 := cn_le _ _
theorem mxO_le' (O : Nat → List Nat) (n : Nat) : mxO O n ≤ n := mxO_le O (fun i hi => by have := pcO_le O i; omega)
theorem maxI {a b : Nat} (ha : a < 2 ^ 31) (hb : b < 2 ^ 31) : (if nI a < nI b then nI b else nI a) = nI (max a b) := by
  by_cases h : a < b
  · rw [if_pos ((nI_ltI ha hb).mpr h), Nat.max_eq_right (by omega)]
  · rw [if_neg (fun q => h ((nI_ltI ha hb).mp q)), Nat.max_eq_left (by omega)]
theorem x7_mostI {Mo : Mem} {O : Nat → List Nat} {i : Nat} (hi : i < 96) (hO : ∀ t, t ≤ i → okN (O t) ∧ Mo.2 62 t = eC (O t)) (k6 : Int32 → Int32 → Mem → Option (Int32 × Mem)) (x1 : Int64) (x3 x4 : Int32) : ∀ (d k n : Nat), k + d = i + 1 → d < n → b_X7_mostAlike_43 k6 x1 x3 x4 (nI i) n (nI (cn (fun k => O k == O i) k)) (nI k) Mo = b_X7_mostAlike_84 k6 x1 x3 x4 (nI i) (nI (pcO O i)) Mo
  | _, _, 0, _, hn => absurd hn (Nat.not_lt_zero _)
  | 0, k, n + 1, hk, _ => by
    rw [b_X7_mostAlike_43.eq_2, if_pos ((nI_ltI (by omega) (by omega)).mpr (by omega)), show k = i + 1 by omega]
    rfl
  | d + 1, k, n + 1, hk, hn => by
    have ih := x7_mostI hi hO k6 x1 x3 x4 d (k + 1) n (by omega) (by omega)
    obtain ⟨o1, e1⟩ := hO k (by omega)
    obtain ⟨o2, e2⟩ := hO i (by omega)
    rw [b_X7_mostAlike_43.eq_2, if_neg (fun q => by have := (nI_ltI (by omega) (by omega)).mp q; omega), ck_y (by omega) (by decide), ck_y hi (by decide), cl (by omega), cl (by omega), e1, e2]
    unfold b_X7_mostAlike_75
    have e10 : ∀ c : Nat, nI c + (1 : Int32) = nI (c + 1) := nI_1
    by_cases hE : O k = O i
    · rw [if_pos ((lg_eq0 _ _).mpr (by rw [hE]))]
      have hp : (fun k => O k == O i) k = true := by simpa using hE
      rw [cn_y hp] at ih
      rw [e10, e10]
      exact ih
    · rw [if_neg (fun q => hE ((eC_inj o1 o2).mp ((lg_eq0 _ _).mp q)))]
      have hp : (fun k => O k == O i) k = false := by simpa using hE
      rw [cn_n hp] at ih
      rw [e10, show ∀ x : Int32, x + (0 : Int32) = x from fun x => Int32.add_zero x]
      exact ih
def outR (O : Nat → List Nat) (old : Nat → Int64) (i : Nat) : Nat → Int64 := fun t => if t < i then eC (O t) else old t
theorem outR_s (O : Nat → List Nat) (old : Nat → Int64) (i : Nat) : vp_updL (outR O old i) i (eC (O i)) = outR O old (i + 1) := by
  funext t
  unfold outR
  by_cases e : t = i
  · subst e; rw [pk_uLs, if_pos (by omega)]
  · rw [pk_uLn e]
    by_cases e2 : t < i
    · rw [if_pos e2, if_pos (by omega)]
    · rw [if_neg e2, if_neg (by omega)]
abbrev Vr (m : Nat) (l : List Nat) (a : Nat) : List Nat := rule (a / 16) (a % 16) m l
theorem x7_mostL {M : Mem} {p : Nat → Bool} {m T : Nat} {l : List Nat} (hl : okN l) (hm : M.1 1 7 = nI m) (hm2 : m < 12) (hT : T ≤ 96) (h61 : ∀ t, t < T → M.1 61 t = nI (prS p 96 t)) (old : Nat → Int64) : ∀ (d i n : Nat), i + d = T → d < n → b_X7_mostAlike_6 (eC l) (nI T) n (nI (mxO (fun k => Vr m l (prS p 96 k)) i)) (nI i) (rL M 62 (outR (fun k => Vr m l (prS p 96 k)) old i)) = some (nI (mxO (fun k => Vr m l (prS p 96 k)) T), rL M 62 (outR (fun k => Vr m l (prS p 96 k)) old T))
  | _, _, 0, _, hn => absurd hn (Nat.not_lt_zero _)
  | 0, i, n + 1, hi, _ => by
    rw [b_X7_mostAlike_6.eq_2, if_pos ((nI_leI (by omega) (by omega)).mpr (by omega)), show i = T by omega]
  | d + 1, i, n + 1, hi, hn => by
    have hf := fu_big
    have ih := x7_mostL hl hm hm2 hT h61 old d (i + 1) n (by omega) (by omega)
    have hpr := prS_lt p i (C := 96) (by decide)
    have hmx := mxO_le' (fun k => Vr m l (prS p 96 k)) i
    have hpc := pcO_le (fun k => Vr m l (prS p 96 k)) i
    have e61 : (rL M 62 (outR (fun k => Vr m l (prS p 96 k)) old i)).1 61 i = nI (prS p 96 i) := h61 i (by omega)
    have em : (rL M 62 (outR (fun k => Vr m l (prS p 96 k)) old i)).1 1 7 = nI m := hm
    rw [b_X7_mostAlike_6.eq_2, if_neg (fun q => by have := (nI_leI (by omega) (by omega)).mp q; omega), ck_y (by omega) (by decide), cl (by omega), e61, em, pair7 hl hpr hm2, Option.bind_some, ck_y (by omega) (by decide)]
    have e2 : mL (rL M 62 (outR (fun k => Vr m l (prS p 96 k)) old i)) 62 i (eC (rule (prS p 96 i / 16) (prS p 96 i % 16) m l)) = rL M 62 (outR (fun k => Vr m l (prS p 96 k)) old (i + 1)) := by
      rw [mL_rL]; exact congrArg _ (outR_s (fun k => Vr m l (prS p 96 k)) old i)
    simp only [e2]
    have key := x7_mostI (Mo := rL M 62 (outR (fun k => Vr m l (prS p 96 k)) old (i + 1))) (O := fun k => Vr m l (prS p 96 k)) (i := i) (by omega) (fun t ht => ⟨rule_ok hl (by omega), by rw [rL_eq]; unfold outR; rw [if_pos (by omega)]⟩) (fun x4_ x5_ M_ => b_X7_mostAlike_6 (eC l) (nI T) n x4_ x5_ M_) (eC l) (nI T) (nI (mxO (fun k => Vr m l (prS p 96 k)) i)) (i + 1) 0 fu (by omega) (by omega)
    refine key.trans ?_
    unfold b_X7_mostAlike_84
    rw [maxI (by omega) (by omega), nI_1]
    exact ih
theorem x7_most {M : Mem} {p : Nat → Bool} {m T : Nat} {l : List Nat} (hl : okN l) (hm : M.1 1 7 = nI m) (hm2 : m < 12) (hT : T ≤ 96) (h61 : ∀ t, t < T → M.1 61 t = nI (prS p 96 t)) (g : Nat → Int64) : ∃ g2, f_X7_mostAlike (eC l) (nI T) (rL M 62 g) = some (nI (mxO (fun k => Vr m l (prS p 96 k)) T), rL M 62 g2) := by
  have hf := fu_big
  have h := x7_mostL hl hm hm2 hT h61 g T 0 fu (by omega) (by omega)
  have e : outR (fun k => Vr m l (prS p 96 k)) g 0 = g := by funext t; unfold outR; rw [if_neg (by omega)]
  rw [e] at h
  exact ⟨_, h⟩
def sel (v : Nat → Nat) : Nat → Nat → Int32 → Nat → Int32
  | 0, _, b, _ => b
  | d + 1, r, b, f => if v r < f then sel v d (r + 1) (nI r) (v r) else sel v d (r + 1) b f
theorem x7_triesL {M : Mem} {p : Nat → Bool} {m T : Nat} {ls : Nat → List Nat} (hl : ∀ r, r < 4 → okN (ls r) ∧ M.2 6 r = eC (ls r)) (hm : M.1 1 7 = nI m) (hm2 : m < 12) (hT : T ≤ 96) (hT0 : 0 < T) (h61 : ∀ t, t < T → M.1 61 t = nI (prS p 96 t)) : ∀ (d r n f : Nat) (b : Int32) (g : Nat → Int64), r + d = 4 → d < n → f ≤ 97 → ∃ g2, b_X7_tries_31 (nI T) n b (nI f) (nI r) (rL M 62 g) = some (sel (fun r => mxO (fun k => Vr m (ls r) (prS p 96 k)) T) d r b f, rL M 62 g2)
  | _, _, 0, _, _, _, _, hn, _ => absurd hn (Nat.not_lt_zero _)
  | 0, r, n + 1, f, b, g, hr, _, _ => by
    rw [b_X7_tries_31.eq_2, if_pos ((v_ge 4 4 (by omega)).mpr (by omega))]
    exact ⟨g, rfl⟩
  | d + 1, r, n + 1, f, b, g, hr, hn, hf97 => by
    obtain ⟨ho, e6⟩ := hl r (by omega)
    obtain ⟨g2, h2⟩ := x7_most ho hm hm2 hT h61 g
    have hmx := mxO_le' (fun k => Vr m (ls r) (prS p 96 k)) T
    have e6' : (rL M 62 g).2 6 r = eC (ls r) := e6
    rw [b_X7_tries_31.eq_2, if_neg (fun q => by have := (v_ge 4 4 (by omega)).mp q; omega), if_neg (fun q => by have := (v_le 0 0 (by omega)).mp q; omega), ck_y (by omega) (by decide), cl (by omega), e6', h2, Option.bind_some]
    unfold sel b_X7_tries_72
    rw [nI_1]
    by_cases hc : mxO (fun k => Vr m (ls r) (prS p 96 k)) T < f
    · rw [if_neg (fun q => by have := (nI_leI (by omega) (by omega)).mp q; omega), if_pos hc]
      exact x7_triesL hl hm hm2 hT hT0 h61 d (r + 1) n _ (nI r) g2 (by omega) (by omega) (by omega)
    · rw [if_pos ((nI_leI (by omega) (by omega)).mpr (by omega)), if_neg hc]
      exact x7_triesL hl hm hm2 hT hT0 h61 d (r + 1) n f b g2 (by omega) (by omega) hf97
theorem fullV_le (p : Nat → Bool) (V : Nat → List Nat) (a : Nat) : fullV p V a ≤ 96 := cn_le _ _
theorem mdV_le96 (p : Nat → Bool) (V : Nat → List Nat) (n : Nat) : mdV p V n ≤ 96 := mdV_le V (fun a _ _ => fullV_le p V a)
theorem x8_mostI {M : Mem} {p : Nat → Bool} {m j a : Nat} {l : List Nat} (hj : j < 4) (hl : okN l) (hl0 : M.2 66 j = eM l) (hm : M.1 64 1 = nI m) (hm2 : m < 12) (h75 : ∀ t, t < 96 → M.1 75 t = if p t then 1 else 0) (ha : a < 96) (hp : p a = true) (k4 : Int32 → Int32 → Option Int32) (x2 : Int32) : ∀ (d b n : Nat), b + d = 96 → d < n → b_X8_mostAlike_41 k4 M (nI j) x2 (nI a) (eM (Vr m l a)) n (nI (cn (fun b => p b && (Vr m l b == Vr m l a)) b)) (nI b) = b_X8_mostAlike_114 k4 M (nI j) x2 (nI a) (nI (fullV p (Vr m l) a))
  | _, _, 0, _, hn => absurd hn (Nat.not_lt_zero _)
  | 0, b, n + 1, hb, _ => by
    rw [b_X8_mostAlike_41.eq_2, if_pos ((v_ge 96 96 (by omega)).mpr (by omega)), show b = 96 by omega]
    rfl
  | d + 1, b, n + 1, hb, hn => by
    have ih := x8_mostI hj hl hl0 hm hm2 h75 ha hp k4 x2 d (b + 1) n (by omega) (by omega)
    have e10 : ∀ c : Nat, nI c + (1 : Int32) = nI (c + 1) := nI_1
    rw [b_X8_mostAlike_41.eq_2, if_neg (fun q => by have := (v_ge 96 96 (by omega)).mp q; omega), ck_y ha (by decide), cl (by omega), h75 a ha, if_neg (show ¬ (if p a = true then (1 : Int32) else 0) = 0 by rw [if_pos hp]; decide), ck_y (by omega) (by decide), cl (by omega), h75 b (by omega)]
    unfold b_X8_mostAlike_105
    by_cases hpb : p b = true
    · rw [if_neg (show ¬ (if p b = true then (1 : Int32) else 0) = 0 by rw [if_pos hpb]; decide), ck_y (by omega) (by decide), cl (by omega), hl0, hm, pair8 hl (by omega) hm2, Option.bind_some]
      by_cases hE : Vr m l b = Vr m l a
      · rw [if_pos ((lg_eq0 _ _).mpr (by rw [← hE]))]
        have hq : (fun b => p b && (Vr m l b == Vr m l a)) b = true := by simp [hpb, hE]
        rw [cn_y hq] at ih
        rw [e10, e10]
        exact ih
      · rw [if_neg (fun q => hE ((eM_inj (rule_ok hl (by omega)) (rule_ok hl (by omega))).mp ((lg_eq0 _ _).mp q)))]
        have hq : (fun b => p b && (Vr m l b == Vr m l a)) b = false := by simp [hpb, hE]
        rw [cn_n hq] at ih
        rw [e10, show ∀ x : Int32, x + (0 : Int32) = x from fun x => Int32.add_zero x]
        exact ih
    · have hq : (fun b => p b && (Vr m l b == Vr m l a)) b = false := by simp [hpb]
      rw [if_pos (show (if p b = true then (1 : Int32) else 0) = 0 by rw [if_neg hpb])]
      rw [cn_n hq] at ih
      rw [e10, show ∀ x : Int32, x + (0 : Int32) = x from fun x => Int32.add_zero x]
      exact ih
theorem x8_mostL {M : Mem} {p : Nat → Bool} {m j : Nat} {l : List Nat} (hj : j < 4) (hl : okN l) (hl0 : M.2 66 j = eM l) (hm : M.1 64 1 = nI m) (hm2 : m < 12) (h75 : ∀ t, t < 96 → M.1 75 t = if p t then 1 else 0) : ∀ (d a n : Nat), a + d = 96 → d < n → b_X8_mostAlike_4 M (nI j) n (nI (mdV p (Vr m l) a)) (nI a) = some (nI (mdV p (Vr m l) 96))
  | _, _, 0, _, hn => absurd hn (Nat.not_lt_zero _)
  | 0, a, n + 1, ha, _ => by
    rw [b_X8_mostAlike_4.eq_2, if_pos ((v_ge 96 96 (by omega)).mpr (by omega)), show a = 96 by omega]
  | d + 1, a, n + 1, ha, hn => by
    have hf := fu_big
    have ih := x8_mostL hj hl hl0 hm hm2 h75 d (a + 1) n (by omega) (by omega)
    have h1 := mdV_le96 p (Vr m l) a
    have h2 := fullV_le p (Vr m l) a
    rw [b_X8_mostAlike_4.eq_2, if_neg (fun q => by have := (v_ge 96 96 (by omega)).mp q; omega), ck_y (by omega) (by decide), cl (by omega), hl0, hm, pair8 hl (by omega) hm2, Option.bind_some]
    unfold mdV at ih
    have fin : ∀ v : Nat, v ≤ 96 → b_X8_mostAlike_114 (fun x2_ x3_ => b_X8_mostAlike_4 M (nI j) n x2_ x3_) M (nI j) (nI (mdV p (Vr m l) a)) (nI a) (nI v) = b_X8_mostAlike_4 M (nI j) n (nI (max (mdV p (Vr m l) a) v)) (nI (a + 1)) := by
      intro v hv
      unfold b_X8_mostAlike_114 b_X8_mostAlike_126
      rw [nI_1]
      by_cases hc : v ≤ mdV p (Vr m l) a
      · rw [if_pos ((nI_leI (by omega) (by omega)).mpr hc), Nat.max_eq_left hc]
      · rw [if_neg (fun q => hc ((nI_leI (by omega) (by omega)).mp q)), Nat.max_eq_right (by omega)]
    by_cases hp : p a = true
    · have key := x8_mostI hj hl hl0 hm hm2 h75 (by omega) hp (fun x2_ x3_ => b_X8_mostAlike_4 M (nI j) n x2_ x3_) (nI (mdV p (Vr m l) a)) 96 0 fu (by omega) (by omega)
      rw [if_pos hp] at ih
      refine key.trans ((fin _ h2).trans ih)
    · obtain ⟨f, hfe⟩ : ∃ f, fu = f + 1 := ⟨fu - 1, by omega⟩
      rw [if_neg hp] at ih
      rw [hfe, b_X8_mostAlike_41.eq_2, if_neg (by decide), ck_y (by omega) (by decide), cl (by omega), h75 a (by omega), if_pos (show (if p a = true then (1 : Int32) else 0) = 0 by rw [if_neg hp])]
      exact (fin 0 (by omega)).trans ih
theorem x8_most {M : Mem} {p : Nat → Bool} {m j : Nat} {l : List Nat} (hj : j < 4) (hl : okN l) (hl0 : M.2 66 j = eM l) (hm : M.1 64 1 = nI m) (hm2 : m < 12) (h75 : ∀ t, t < 96 → M.1 75 t = if p t then 1 else 0) : f_X8_mostAlike M (nI j) = some (nI (mdV p (Vr m l) 96)) := by
  have hf := fu_big
  exact x8_mostL hj hl hl0 hm hm2 h75 96 0 fu (by omega) (by omega)
theorem x8_triesR {M : Mem} {p : Nat → Bool} {m : Nat} {ls : Nat → List Nat} (hl : ∀ r, r < 4 → okN (ls r) ∧ M.2 66 r = eM (ls r)) (hm : M.1 64 1 = nI m) (hm2 : m < 12) (h75 : ∀ t, t < 96 → M.1 75 t = if p t then 1 else 0) (hpos : ∀ r, r < 4 → 0 < mdV p (Vr m (ls r)) 96) : ∀ (d r n f : Nat) (b : Int32), r + d = 4 → d < n → f ≤ 1000000 → b_X8_tries_49 n b (nI f) (nI r) M = some (sel (fun r => mdV p (Vr m (ls r)) 96) d r b f, M)
  | _, _, 0, _, _, _, hn, _ => absurd hn (Nat.not_lt_zero _)
  | 0, r, n + 1, f, b, hr, _, _ => by
    rw [b_X8_tries_49.eq_2, if_pos ((v_ge 4 4 (by omega)).mpr (by omega))]; rfl
  | d + 1, r, n + 1, f, b, hr, hn, hf97 => by
    obtain ⟨ho, e6⟩ := hl r (by omega)
    have h0 := hpos r (by omega)
    have h96 := mdV_le96 p (Vr m (ls r)) 96
    have np : ¬ nI (mdV p (Vr m (ls r)) 96) ≤ 0 := fun q => by have := (v_le 0 0 (by omega)).mp q; omega
    rw [b_X8_tries_49.eq_2, if_neg (fun q => by have := (v_ge 4 4 (by omega)).mp q; omega), x8_most (by omega) ho e6 hm hm2 h75, Option.bind_some, if_neg np]
    unfold sel b_X8_tries_79 b_X8_tries_80 b_X8_tries_97 b_X8_tries_98
    rw [nI_1]
    by_cases hc : mdV p (Vr m (ls r)) 96 < f
    · have nle : ¬ nI f ≤ nI (mdV p (Vr m (ls r)) 96) := fun q => by have := (nI_leI (by omega) (by omega)).mp q; omega
      rw [if_neg nle, if_pos hc]
      show (if _ ≤ (0:Int32) then _ else _) = _
      rw [if_neg np, if_neg nle]
      exact x8_triesR hl hm hm2 h75 hpos d (r + 1) n _ (nI r) (by omega) (by omega) (by omega)
    · have le : nI f ≤ nI (mdV p (Vr m (ls r)) 96) := (nI_leI (by omega) (by omega)).mpr (by omega)
      rw [if_pos le, if_neg hc]
      show (if _ ≤ (0:Int32) then _ else _) = _
      rw [if_neg np, if_pos le]
      show b_X8_tries_49 n b (nI f) (nI r + 1) M = _
      rw [nI_1]
      exact x8_triesR hl hm hm2 h75 hpos d (r + 1) n f b (by omega) (by omega) hf97
theorem x8_triesZ {M : Mem} {p : Nat → Bool} {m : Nat} {ls : Nat → List Nat} (hl : ∀ r, r < 4 → okN (ls r) ∧ M.2 66 r = eM (ls r)) (hm : M.1 64 1 = nI m) (hm2 : m < 12) (h75 : ∀ t, t < 96 → M.1 75 t = if p t then 1 else 0) (h0 : ∀ r, r < 4 → mdV p (Vr m (ls r)) 96 = 0) : ∀ (d r n : Nat) (f b : Int32), r + d = 4 → d < n → b_X8_tries_49 n b f (nI r) M = some (b, M)
  | _, _, 0, _, _, _, hn => absurd hn (Nat.not_lt_zero _)
  | 0, r, n + 1, f, b, hr, _ => by
    rw [b_X8_tries_49.eq_2, if_pos ((v_ge 4 4 (by omega)).mpr (by omega))]
  | d + 1, r, n + 1, f, b, hr, hn => by
    obtain ⟨ho, e6⟩ := hl r (by omega)
    rw [b_X8_tries_49.eq_2, if_neg (fun q => by have := (v_ge 4 4 (by omega)).mp q; omega), x8_most (by omega) ho e6 hm hm2 h75, Option.bind_some, h0 r (by omega), if_pos (by decide)]
    unfold b_X8_tries_79 b_X8_tries_80 b_X8_tries_97 b_X8_tries_98
    show (if _ ≤ (0:Int32) then _ else _) = _
    rw [if_pos (by decide)]
    show b_X8_tries_49 n b f (nI r + 1) M = _
    rw [nI_1]
    exact x8_triesZ hl hm hm2 h75 h0 d (r + 1) n f b (by omega) (by omega)
def fitZ (p : Nat → Bool) (old : Nat → Int32) (c : Nat) : Nat → Int32 := fun t => if t < c then (if p t then 1 else 0) else old t
theorem fitZ_s (p : Nat → Bool) (old : Nat → Int32) (c : Nat) : upd (fitZ p old c) c (vp_nar .boolean (if p c then 1 else 0)) = fitZ p old (c + 1) := by
  have hv : ∀ b : Bool, vp_nar .boolean (if b then 1 else 0) = if b then 1 else 0 := by decide
  rw [hv]
  funext t
  unfold fitZ
  by_cases e : t = c
  · subst e; rw [pk_us, if_pos (show t < t + 1 by omega)]
  · rw [pk_un e]
    by_cases e2 : t < c
    · rw [if_pos e2, if_pos (show t < c + 1 by omega)]
    · rw [if_neg e2, if_neg (show ¬ t < c + 1 by omega)]
theorem x8_tries1 {M : Mem} {N b : Nat} (hN : N ≤ 8) (hN8 : M.1 64 2 = nI N) (hnt : ∀ k, k < N → NT (M.1 8) (M.1 9) (M.1 64) (M.2 10) (M.2 11) (M.2 66) k) (hb : b < 8) : ∀ (d c n : Nat), c + d = 96 → d < n → b_X8_tries_17 (nI b) n (nI c) (rI M 75 (fitZ (fitM M N b) (M.1 75) c)) = b_X8_tries_41 (rI M 75 (fitZ (fitM M N b) (M.1 75) 96))
  | _, _, 0, _, hn => absurd hn (Nat.not_lt_zero _)
  | 0, c, n + 1, hc, _ => by
    rw [b_X8_tries_17.eq_2, if_pos ((v_ge 96 96 (by omega)).mpr (by omega)), show c = 96 by omega]
  | d + 1, c, n + 1, hc, hn => by
    have ih := x8_tries1 hN hN8 hnt hb d (c + 1) n (by omega) (by omega)
    have ag : f_X8_doesFit (rI M 75 (fitZ (fitM M N b) (M.1 75) c)) (nI b) (nI c) = some (if fitM M N b c then 1 else 0) := x8_agree (M := rI M 75 _) hN hN8 hnt hb (by omega)
    rw [b_X8_tries_17.eq_2, if_neg (fun q => by have := (v_ge 96 96 (by omega)).mp q; omega), ag, Option.bind_some, ck_y (by omega) (by decide), cl (by omega), mI_rI, fitZ_s, nI_1]
    exact ih

theorem sel_c {v w : Nat → Nat} : ∀ (d r : Nat) (b : Int32) (f : Nat), (∀ q, q < r + d → v q = w q) → sel v d r b f = sel w d r b f
  | 0, _, _, _, _ => rfl
  | d + 1, r, b, f, h => by
    unfold sel
    rw [h r (by omega)]
    split
    · exact sel_c d (r + 1) _ _ (fun q hq => h q (by omega))
    · exact sel_c d (r + 1) _ _ (fun q hq => h q (by omega))
theorem e_tries {M : Mem} (h : Inv M) (x : Int32) : Same (f_X7_tries x) (f_X8_tries x) M := by
  obtain ⟨⟨B, m, N, u, a1, a2, a3, a4, a5, a6, a7, a8, a9⟩, -⟩ := id h
  have hf := fu_big
  have hB := (show (mB7 M).1 64 0 = nI B from a2.2)
  rcases arg x B with ⟨a, ha, ha2, rfl⟩ | hx
  · have hle := cn_le (fitM M N a) 96
    have c7 := x7_coll (b := a) a1.2.2.1 a4.1 a8 (by omega)
    have hrows : ∃ ls : Nat → List Nat, ∀ r, r < 4 → okN (ls r) ∧ M.2 6 r = eC (ls r) ∧ M.2 66 r = eM (ls r) := by
      obtain ⟨l0, h0⟩ := a7 0 (by decide)
      obtain ⟨l1, h1⟩ := a7 1 (by decide)
      obtain ⟨l2, h2⟩ := a7 2 (by decide)
      obtain ⟨l3, h3⟩ := a7 3 (by decide)
      refine ⟨fun r => if r = 0 then l0 else if r = 1 then l1 else if r = 2 then l2 else l3, fun r hr => ?_⟩
      rcases (show r = 0 ∨ r = 1 ∨ r = 2 ∨ r = 3 by omega) with rfl | rfl | rfl | rfl
      · exact h0
      · exact h1
      · exact h2
      · exact h3
    obtain ⟨ls, hls⟩ := hrows
    have key8 : ∀ M' : Mem, M'.1 64 = M.1 64 → M'.1 8 = M.1 8 → M'.1 9 = M.1 9 → M'.2 10 = M.2 10 → M'.2 11 = M.2 11 → M'.2 66 = M.2 66 → f_X8_tries (nI a) M' = b_X8_tries_41 (rI M' 75 (fitZ (fitM M N a) (M'.1 75) 96)) := by
      intro M' e64 e8 e9 e10 e11 e66
      have hz : fitZ (fitM M' N a) (M'.1 75) 0 = M'.1 75 := by funext t; unfold fitZ; rw [if_neg (by omega)]
      have t1 := x8_tries1 (M := M') (N := N) (b := a) a1.2.2.1 (by rw [e64]; exact a4.2) (by rw [e8, e9, e64, e10, e11, e66]; exact a8) (by omega) 96 0 fu (by omega) (by omega)
      rw [hz, rI_self] at t1
      have eM' : fitM M' N a = fitM M N a := by funext t; show fitF _ _ _ _ _ _ _ _ = _; rw [e8, e9, e10, e11]
      rw [eM'] at t1
      unfold f_X8_tries
      rw [br8_y (M := M') (by rw [e64]; exact a2.2) ha a1.1, z10]
      exact t1
    by_cases h0 : cn (fitM M N a) 96 = 0
    · have hz : ∀ t, t < 96 → fitM M N a t = false := by
        intro t ht
        by_cases q : fitM M N a t = true
        · have q1 := cn_mono' (fitM M N a) (show t + 1 ≤ 96 by omega)
          rw [cn_y q] at q1; omega
        · simpa using q
      have z0 := x8_triesZ (M := rI (rI M 61 (fitR (fitM M N a) (M.1 61) (cn (fitM M N a) 96))) 75 (fitZ (fitM M N a) (M.1 75) 96)) (p := fitM M N a) (m := m) (ls := ls) (fun r hr => ⟨(hls r hr).1, (hls r hr).2.2⟩) a3.2 a1.2.1 (fun t ht => by rw [rI_eq]; unfold fitZ; rw [if_pos ht]) (fun r hr => by
        have q := mdV_le (p := fitM M N a) (Vr m (ls r)) (b := 0) (n := 96) (fun a' ha' hp' => by rw [hz a' ha'] at hp'; cases hp')
        omega) 4 0 fu (1000000 : Int32) (-1 : Int32) (by omega) (by omega)
      refine ⟨-1, _, _, ?_, (key8 (rI M 61 _) rfl rfl rfl rfl rfl rfl).trans z0, h⟩
      unfold f_X7_tries
      rw [br7_y a2.1 ha a1.1, z10, c7, Option.bind_some]
      obtain ⟨f, hfe⟩ : ∃ f, fu = f + 1 := ⟨fu - 1, by omega⟩
      rw [hfe, b_X7_tries_31.eq_2, if_neg (by decide), if_pos ((v_le 0 0 (by omega)).mpr (by omega))]
    · obtain ⟨g2, L7⟩ := x7_triesL (M := rI M 61 (fitR (fitM M N a) (M.1 61) (cn (fitM M N a) 96))) (p := fitM M N a) (m := m) (T := cn (fitM M N a) 96) (ls := ls) (fun r hr => ⟨(hls r hr).1, (hls r hr).2.1⟩) a3.1 a1.2.1 hle (by omega) (fun t ht => by rw [rI_eq]; unfold fitR; rw [if_pos ht]) 4 0 fu (cn (fitM M N a) 96 + 1) (-1 : Int32) (M.2 62) (by omega) (by omega) (by omega)
      have e62 : rL (rI M 61 (fitR (fitM M N a) (M.1 61) (cn (fitM M N a) 96))) 62 (M.2 62) = rI M 61 (fitR (fitM M N a) (M.1 61) (cn (fitM M N a) 96)) := rL_self (rI M 61 _) 62
      rw [e62] at L7
      have hpos : ∀ r, r < 4 → 0 < mdV (fitM M N a) (Vr m (ls r)) 96 := by
        intro r hr
        obtain ⟨c, hc1, hc2, hc3⟩ := cn_ex (p := fitM M N a) (C := 96) (t := 0) (by omega)
        have q1 := mdV_ge (p := fitM M N a) (Vr m (ls r)) hc1 hc2
        have q2 : 0 < fullV (fitM M N a) (Vr m (ls r)) c := by
          unfold fullV
          have q3 := cn_mono' (fun b => fitM M N a b && (Vr m (ls r) b == Vr m (ls r) c)) (show c + 1 ≤ 96 by omega)
          rw [cn_y (by simp [hc2])] at q3
          omega
        omega
      have L8 := x8_triesR (M := rI (rL (rI M 61 (fitR (fitM M N a) (M.1 61) (cn (fitM M N a) 96))) 62 g2) 75 (fitZ (fitM M N a) (M.1 75) 96)) (p := fitM M N a) (m := m) (ls := ls) (fun r hr => ⟨(hls r hr).1, (hls r hr).2.2⟩) a3.2 a1.2.1 (fun t ht => by rw [rI_eq]; unfold fitZ; rw [if_pos ht]) hpos 4 0 fu 1000000 (-1 : Int32) (by omega) (by omega) (by omega)
      have esel : sel (fun r => mdV (fitM M N a) (Vr m (ls r)) 96) 4 0 (-1) 1000000 = sel (fun r => mxO (fun k => Vr m (ls r) (prS (fitM M N a) 96 k)) (cn (fitM M N a) 96)) 4 0 (-1) (cn (fitM M N a) 96 + 1) := by
        rw [sel_c (v := fun r => mxO (fun k => Vr m (ls r) (prS (fitM M N a) 96 k)) (cn (fitM M N a) 96)) (w := fun r => mdV (fitM M N a) (Vr m (ls r)) 96) 4 0 _ _ (fun q _ => mx_md (fitM M N a) (Vr m (ls q)))]
        have q1 := mdV_le96 (fitM M N a) (Vr m (ls 0)) 96
        have q2 := mxO_le' (fun k => Vr m (ls 0) (prS (fitM M N a) 96 k)) (cn (fitM M N a) 96)
        have q3 : mxO (fun k => Vr m (ls 0) (prS (fitM M N a) 96 k)) (cn (fitM M N a) 96) = mdV (fitM M N a) (Vr m (ls 0)) 96 := mx_md (fitM M N a) (Vr m (ls 0))
        have e1 : ∀ f, mdV (fitM M N a) (Vr m (ls 0)) 96 < f → sel (fun r => mdV (fitM M N a) (Vr m (ls r)) 96) 4 0 (-1) f = sel (fun r => mdV (fitM M N a) (Vr m (ls r)) 96) 3 1 (nI 0) (mdV (fitM M N a) (Vr m (ls 0)) 96) := fun f hf => by rw [sel, if_pos hf]
        rw [e1 _ (by omega), e1 _ (by omega)]
      rw [esel] at L8
      refine ⟨_, _, _, ?_, (key8 (rL (rI M 61 _) 62 g2) rfl rfl rfl rfl rfl rfl).trans L8, h⟩
      unfold f_X7_tries
      rw [br7_y a2.1 ha a1.1, z10, c7, Option.bind_some, nI_1]
      exact L7
  · exact s_bad (v := -2) h (by unfold f_X7_tries; rw [br7_n a2.1 hx a1.1]; rfl) (by unfold f_X8_tries; rw [br8_n hB hx a1.1]; rfl)
