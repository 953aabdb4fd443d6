/-! the curse -/
def mnO : Option Nat → Option Nat → Option Nat
  | a, none => a
  | none, some v => some v
  | some w, some v => if v < w then some v else some w
theorem mnO_n (a : Option Nat) : mnO a none = a := by cases a <;> rfl
theorem mnO_0 (a : Option Nat) : mnO none a = a := by cases a <;> rfl
theorem mnO_ss (w v : Nat) : mnO (some w) (some v) = if v < w then some v else some w := rfl
theorem mnO_as (a b c : Option Nat) : mnO (mnO a b) c = mnO a (mnO b c) := by
  cases c with
  | none => rw [mnO_n, mnO_n]
  | some z =>
    cases b with
    | none => rw [mnO_n, mnO_0]
    | some y =>
      cases a with
      | none => rw [mnO_0, mnO_0]
      | some x =>
        rw [mnO_ss, mnO_ss]
        by_cases h1 : y < x
        · rw [if_pos h1, mnO_ss]
          by_cases h2 : z < y
          · rw [if_pos h2, mnO_ss, if_pos (by omega)]
          · rw [if_neg h2, mnO_ss, if_pos h1]
        · rw [if_neg h1, mnO_ss]
          by_cases h2 : z < y
          · rw [if_pos h2, mnO_ss]
          · rw [if_neg h2, mnO_ss, if_neg (by omega), if_neg h1]
def fwC (B : Nat) (op : List Nat → Nat → Bool) (hs : List Nat → Bool) : Nat → List Nat → Option Nat
  | 0, rp => if hs rp = true then some rp.length else none
  | k + 1, rp => if hs rp = true then some rp.length else lpW (fun b a => mnO a (fwC B op hs k (b :: rp))) (op rp) B 0 none
def visC (hs : List Nat → Bool) (rp : List Nat) (a : Option Nat) : Option Nat := mnO a (if hs rp = true then some rp.length else none)
theorem lp_inv {A : Type} {P : A → Prop} {rc : Nat → A → A} {op : Nat → Bool} (h : ∀ b a, P a → P (rc b a)) : ∀ (e b : Nat) (a : A), P a → P (lpW rc op e b a)
  | 0, _, _, ha => ha
  | e + 1, b, a, ha => by
    unfold lpW
    apply lp_inv h e
    split
    · exact h b a ha
    · exact ha
theorem mnO_ge {a b : Option Nat} {d : Nat} (ha : ∀ v, a = some v → d ≤ v) (hb : ∀ v, b = some v → d ≤ v) : ∀ v, mnO a b = some v → d ≤ v := by
  intro v h
  cases b with
  | none => rw [mnO_n] at h; exact ha v h
  | some y =>
    cases a with
    | none => rw [mnO_0] at h; exact hb v h
    | some x =>
      rw [mnO_ss] at h
      split at h
      · cases h; exact hb _ rfl
      · cases h; exact ha _ rfl
theorem fw_ge {B : Nat} {op : List Nat → Nat → Bool} {hs : List Nat → Bool} : ∀ (k : Nat) (rp : List Nat) (v : Nat), fwC B op hs k rp = some v → rp.length ≤ v
  | 0, rp, v, h => by
    unfold fwC at h
    split at h
    · cases h; omega
    · cases h
  | k + 1, rp, v, h => by
    unfold fwC at h
    split at h
    · cases h; omega
    · have := lp_inv (P := fun a : Option Nat => ∀ v, a = some v → rp.length ≤ v) (rc := fun b a => mnO a (fwC B op hs k (b :: rp))) (op := op rp) (fun b a ha => mnO_ge ha (fun v hv => by have := fw_ge k (b :: rp) v hv; simp only [List.length_cons] at this; omega)) B 0 none (fun v hv => by cases hv)
      exact this v h
theorem lp_mn {f : Nat → Option Nat} {op : Nat → Bool} : ∀ (e b : Nat) (a : Option Nat), lpW (fun b a => mnO a (f b)) op e b a = mnO a (lpW (fun b a => mnO a (f b)) op e b none)
  | 0, b, a => by unfold lpW; rw [mnO_n]
  | e + 1, b, a => by
    unfold lpW
    by_cases h : op b = true
    · rw [if_pos h, if_pos h, lp_mn e (b + 1) (mnO a (f b)), lp_mn e (b + 1) (mnO none (f b)), mnO_0, mnO_as]
    · rw [if_neg h, if_neg h, lp_mn e (b + 1) a]
theorem lp_c {A : Type} {rc rc2 : Nat → A → A} {op : Nat → Bool} (h : ∀ b a, rc b a = rc2 b a) (e b : Nat) (a : A) : lpW rc op e b a = lpW rc2 op e b a := by
  have : rc = rc2 := funext fun b => funext fun a => h b a
  rw [this]
theorem FV_fw {B : Nat} {op : List Nat → Nat → Bool} {hs : List Nat → Bool} : ∀ (k : Nat) (rp : List Nat) (a : Option Nat), FV B op (visC hs) k rp a = mnO a (fwC B op hs k rp)
  | 0, rp, a => rfl
  | k + 1, rp, a => by
    unfold FV fwC
    rw [lp_c (rc2 := fun b a => mnO a (fwC B op hs k (b :: rp))) (fun b a => FV_fw k (b :: rp) a), lp_mn]
    unfold visC
    by_cases h : hs rp = true
    · rw [if_pos h, if_pos h, mnO_as]
      congr 1
      have hge := lp_inv (P := fun a : Option Nat => ∀ v, a = some v → rp.length + 1 ≤ v) (rc := fun b a => mnO a (fwC B op hs k (b :: rp))) (op := op rp) (fun b a ha => mnO_ge ha (fun v hv => fw_ge k (b :: rp) v hv)) B 0 none (fun v hv => by cases hv)
      cases hl : lpW (fun b a => mnO a (fwC B op hs k (b :: rp))) (op rp) B 0 none with
      | none => rfl
      | some v =>
        have := hge v hl
        rw [mnO_ss, if_neg (by omega)]
    · rw [if_neg h, if_neg h, mnO_n]
def oI : Option Nat → Int32
  | none => -1
  | some v => nI v
theorem oIn : oI none = -1 := rfl
theorem oI_m1 {a : Option Nat} (h : ∀ v, a = some v → v ≤ 6) : oI a = -1 ↔ a = none := by
  cases a with
  | none => exact ⟨fun _ => rfl, fun _ => rfl⟩
  | some v =>
    have := h v rfl
    refine ⟨fun q => ?_, fun q => by cases q⟩
    have := (fa_eq _ _).mp q
    rw [show oI (some v) = nI v from rfl, nI_toInt (by omega), show (-1 : Int32).toInt = -1 by decide] at this
    omega
theorem fw_le {B : Nat} {op : List Nat → Nat → Bool} {hs : List Nat → Bool} : ∀ (k : Nat) (rp : List Nat), k + rp.length = 6 → ∀ (v : Nat), fwC B op hs k rp = some v → v ≤ 6
  | 0, rp, hk, v, h => by
    unfold fwC at h
    split at h
    · cases h; omega
    · cases h
  | k + 1, rp, hk, v, h => by
    unfold fwC at h
    split at h
    · cases h; omega
    · have mle : ∀ a b : Option Nat, (∀ v, a = some v → v ≤ 6) → (∀ v, b = some v → v ≤ 6) → ∀ v, mnO a b = some v → v ≤ 6 := by
        intro a b ha hb v h
        cases b with
        | none => rw [mnO_n] at h; exact ha v h
        | some y =>
          cases a with
          | none => rw [mnO_0] at h; exact hb v h
          | some x =>
            rw [mnO_ss] at h
            split at h
            · cases h; exact hb _ rfl
            · cases h; exact ha _ rfl
      exact lp_inv (P := fun a : Option Nat => ∀ v, a = some v → v ≤ 6) (rc := fun b a => mnO a (fwC B op hs k (b :: rp))) (op := op rp) (fun b a ha => mle _ _ ha (fw_le k (b :: rp) (by simp only [List.length_cons]; omega))) B 0 none (fun v hv => by cases hv) v h
/-- the class's fewest -/
theorem x6_few {M : Mem} {B m : Nat} {FR TO : Nat → Nat} {bhl : Nat → List Nat → List Nat} {l0 q : List Nat} {p0 : Nat} (hrc : RC M B m FR TO bhl) (hl : okN l0) (hq : okN q) (hp0 : p0 < 6) : ∀ (k n : Nat) (rp : List Nat) (mq : Nat), k + rp.length = 6 → k < n → (∀ b ∈ rp, b < B) → MK mq rp → f_X6_fewest_1 M n (nI (plR TO p0 rp)) (eC (laR bhl l0 rp)) (eC q) (nI mq) (nI rp.length) = some (oI (fwC B (opn FR TO p0) (fun rp => hasL (laR bhl l0 rp) q) k rp))
  | _, 0, _, _, _, hn, _, _ => absurd hn (Nat.not_lt_zero _)
  | k, n + 1, rp, mq, hk, hn, hall, hmk => by
    have hf := fu_big
    have hB := hrc.1
    have hpl := pl_lt hrc hp0 hall
    have hok := la_ok hrc hl hall
    unfold f_X6_fewest_1
    rw [x1_holds hok hq, Option.bind_some]
    by_cases hh : hasL (laR bhl l0 rp) q = true
    · rw [if_pos hh, if_neg (by decide)]
      cases k with
      | zero => unfold fwC; rw [if_pos hh]; rfl
      | succ k => unfold fwC; rw [if_pos hh]; rfl
    · rw [if_neg hh, if_pos rfl]
      cases k with
      | zero =>
        unfold fwC
        rw [if_neg hh, if_neg (fun q => by have := (v_lt 6 6 (by omega)).mp q; omega)]
        rfl
      | succ k =>
        unfold fwC
        rw [if_neg hh, if_pos ((v_lt 6 6 (by omega)).mpr (by omega))]
        have inner : ∀ (e b n2 : Nat) (a : Option Nat), b + e = B → e < n2 → (∀ v, a = some v → v ≤ 6) → b_X6_fewest_1_28 (f_X6_fewest_1 M n) M (nI (plR TO p0 rp)) (eC (laR bhl l0 rp)) (eC q) (nI mq) (nI rp.length) n2 (oI a) (nI b) = some (oI (lpW (fun b a => mnO a (fwC B (opn FR TO p0) (fun rp => hasL (laR bhl l0 rp) q) k (b :: rp))) (opn FR TO p0 rp) e b a)) := by
          intro e
          induction e with
          | zero =>
            intro b n2 a hb hn2 _
            obtain ⟨n3, rfl⟩ : ∃ n3, n2 = n3 + 1 := ⟨n2 - 1, by omega⟩
            rw [b_X6_fewest_1_28.eq_2, hrc.2.2.1, if_pos ((nI_leI (by omega) (by omega)).mpr (by omega))]
            rfl
          | succ e ih =>
            intro b n2 a hb hn2 ha
            obtain ⟨n3, rfl⟩ : ∃ n3, n2 = n3 + 1 := ⟨n2 - 1, by omega⟩
            obtain ⟨r1, r2, r3, r4, r5, r6⟩ := hrc.2.2.2.2.1 b (by omega)
            have ho := x6_open (M := M) (FR := FR) (TO := TO) (p0 := p0) (b := b) hB (by omega) ⟨r1, r3⟩ hpl hmk
            rw [b_X6_fewest_1_28.eq_2, hrc.2.2.1, if_neg (fun q => by have := (nI_leI (by omega) (by omega)).mp q; omega), ho, Option.bind_some]
            unfold lpW b_X6_fewest_1_114 b_X6_fewest_1_110 b_X6_fewest_1_112 b_X6_fewest_1_105
            have fin : ∀ a : Option Nat, (∀ v, a = some v → v ≤ 6) → b_X6_fewest_1_28 (f_X6_fewest_1 M n) M (nI (plR TO p0 rp)) (eC (laR bhl l0 rp)) (eC q) (nI mq) (nI rp.length) n3 (oI a) (nI b + 1) = some (oI (lpW (fun b a => mnO a (fwC B (opn FR TO p0) (fun rp => hasL (laR bhl l0 rp) q) k (b :: rp))) (opn FR TO p0 rp) e (b + 1) a)) := fun a ha => by
              rw [nI_1]; exact ih (b + 1) n3 a (by omega) (by omega) ha
            by_cases hop : opn FR TO p0 rp b = true
            · have hall2 : ∀ c ∈ b :: rp, c < B := fun c hc => by
                rcases List.mem_cons.mp hc with rfl | h
                · omega
                · exact hall c h
              have hbh := (hrc.2.2.2.2.2 b _ (show b < B by omega) hok).2.1
              have f1 := x6_few hrc hl hq hp0 k n (b :: rp) (mq ||| 2 ^ b) (by simp only [List.length_cons]; omega) (by omega) hall2 (MK_s hmk (by omega))
              have f1' : f_X6_fewest_1 M n (nI (TO b)) (eC (bhl b (laR bhl l0 rp))) (eC q) (nI (mq ||| 2 ^ b)) (nI (rp.length + 1)) = some (oI (fwC B (opn FR TO p0) (fun rp => hasL (laR bhl l0 rp) q) k (b :: rp))) := f1
              have hfl := fw_le (B := B) (op := opn FR TO p0) (hs := fun rp => hasL (laR bhl l0 rp) q) k (b :: rp) (by simp only [List.length_cons]; omega)
              rw [if_pos hop, if_neg (by decide), if_pos hop, hbh, Option.bind_some, ck_y (by omega) (by decide), cl (by omega), r5, (mask_or mq hmk.1 b (by omega)).1, show nI rp.length + (1 : Int32) = nI (rp.length + 1) from nI_1 _, f1', Option.bind_some]
              cases hv : fwC B (opn FR TO p0) (fun rp => hasL (laR bhl l0 rp) q) k (b :: rp) with
              | none =>
                rw [if_pos oIn, mnO_n]
                exact fin a ha
              | some v =>
                have hv6 := hfl v hv
                rw [if_neg (fun t => by cases (oI_m1 (a := some v) (fun w hw => by cases hw; exact hv6)).mp t)]
                cases a with
                | none =>
                  rw [if_pos oIn, mnO_0]
                  exact fin (some v) (fun w hw => by cases hw; exact hv6)
                | some w =>
                  have hw6 := ha w rfl
                  rw [if_neg (fun t => by cases (oI_m1 (a := some w) (fun x hx => by cases hx; exact hw6)).mp t)]
                  show (if nI w ≤ nI v then _ else _) = _
                  rw [mnO_ss]
                  by_cases hlt : v < w
                  · rw [if_neg (fun t => by have := (nI_leI (by omega) (by omega)).mp t; omega), if_pos hlt]
                    exact fin (some v) (fun x hx => by cases hx; exact hv6)
                  · rw [if_pos ((nI_leI (by omega) (by omega)).mpr (by omega)), if_neg hlt]
                    exact fin (some w) ha
            · rw [if_neg hop, if_pos rfl, if_neg hop]
              exact fin a ha
        exact inner B 0 fu none (by omega) (by omega) (fun v hv => by cases hv)
theorem x8_cur {M0 : Mem} {B m : Nat} {FR TO : Nat → Nat} {bhl : Nat → List Nat → List Nat} {l0 q : List Nat} {p0 j : Nat} (hrc : RC M0 B m FR TO bhl) (hl : okN l0) (hq : okN q) (hp0 : p0 < 6) (hj : j < 4) : ∀ (n : Nat) (rp : List Nat) (a a' : Option Nat) (M : Mem), St M M0 B TO (laR bhl l0) p0 rp 0 → M.2 66 j = eM q → (∀ v, a = some v → v ≤ 6) → WB B (opn FR TO p0) (visC (fun rp => hasL (laR bhl l0 rp) q)) n rp a = some a' → ∃ N, b_X8_curse_45 (nI j) (n + 1) (oI a) 1 M = some (oI a', N) ∧ KX N M := by
  have hf := fu_big
  intro n
  induction n with
  | zero => intro rp a a' M _ _ _ h; cases h
  | succ n ih =>
    intro rp a a' M hs h66 ha h
    obtain ⟨s64, s12, s70, sSR, sB, s6, sc⟩ := id hs
    obtain ⟨t1, t2, t3⟩ := SR_top sSR
    have hok := la_ok hrc hl sB
    have hva : ∀ v, visC (fun rp => hasL (laR bhl l0 rp) q) rp a = some v → v ≤ 6 := by
      intro v hv
      unfold visC at hv
      by_cases hh : hasL (laR bhl l0 rp) q = true
      · rw [if_pos hh] at hv
        cases a with
        | none => rw [mnO_0] at hv; cases hv; exact s6
        | some w =>
          rw [mnO_ss] at hv
          split at hv
          · cases hv; exact s6
          · cases hv; exact ha _ rfl
      · rw [if_neg hh, mnO_n] at hv; exact ha v hv
    have e1 : b_X8_curse_45 (nI j) (n + 1 + 1) (oI a) 1 M = b_X8_curse_107 (fun x4_ x5_ M_ => b_X8_curse_45 (nI j) (n + 1) x4_ x5_ M_) (nI j) (oI (visC (fun rp => hasL (laR bhl l0 rp) q) rp a)) M := by
      have yes : ∀ (k45 : Int32 → Int32 → Mem → Option (Int32 × Mem)), (∀ w, a = some w → rp.length < w) → b_X8_curse_70 k45 (nI j) (oI a) (1 : Int32) M = b_X8_curse_107 k45 (nI j) (oI (visC (fun rp => hasL (laR bhl l0 rp) q) rp a)) M := by
        intro k45 hlt
        unfold b_X8_curse_70 visC b_X8_curse_105
        rw [if_neg (by decide), s12, ck_y (by omega) (by decide), ck_y (by omega) (by decide), cl (by omega), cl (by omega), t2, h66, x8_has hok hq, Option.bind_some]
        by_cases hh : hasL (laR bhl l0 rp) q = true
        · rw [if_pos hh, if_neg (by decide), if_pos hh]
          cases a with
          | none => rfl
          | some w => rw [mnO_ss, if_pos (hlt w rfl)]; rfl
        · rw [if_neg hh, if_pos rfl, if_neg hh, mnO_n]
      rw [b_X8_curse_45.eq_2, if_neg (by decide)]
      cases a with
      | none =>
        rw [if_pos oIn]
        exact yes _ (fun w hw => by cases hw)
      | some w =>
        have hw6 := ha w rfl
        rw [if_neg (fun t => by cases (oI_m1 (a := some w) (fun x hx => by cases hx; exact hw6)).mp t)]
        show (if nI w ≤ M.1 63 12 then _ else _) = _
        rw [s12]
        by_cases hlt : rp.length < w
        · rw [if_neg (fun t => by have := (nI_leI (by omega) (by omega)).mp t; omega)]
          exact yes _ (fun x hx => by cases hx; exact hlt)
        · rw [if_pos ((nI_leI (by omega) (by omega)).mpr (by omega))]
          unfold b_X8_curse_70 b_X8_curse_105
          rw [if_pos rfl]
          have : visC (fun rp => hasL (laR bhl l0 rp) q) rp (some w) = some w := by
            unfold visC
            split
            · rw [mnO_ss, if_neg hlt]
            · rfl
          rw [this]
    have hgo := x8_go hrc hl hp0 rp 0 fu M hs (by omega)
    rw [e1]
    unfold b_X8_curse_107 f_X8_goOn
    unfold WB at h
    cases hga : goA B (opn FR TO p0) rp 0 with
    | none =>
      rw [hga] at h
      obtain ⟨N2, g1, g2⟩ := hgo.1 hga
      rw [g1, Option.bind_some]
      refine ⟨N2, ?_, g2⟩
      cases h
      show b_X8_curse_45 (nI j) (n + 1) _ 0 N2 = _
      rw [b_X8_curse_45.eq_2, if_pos rfl]
    | some rp' =>
      rw [hga] at h
      obtain ⟨N2, g1, g2, g3⟩ := hgo.2 rp' hga
      rw [g1, Option.bind_some]
      obtain ⟨N3, f1, f3⟩ := ih rp' _ a' N2 g2 (by rw [g3.2.1 66 (by decide)]; exact h66) hva h
      exact ⟨N3, f1, KX_t f3 g3⟩
theorem e_curse {M : Mem} (h : Inv M) (x y z : Int32) : Same (f_X7_curse x y z) (f_X8_curse x y z) M := by
  have hf := fu_big
  obtain ⟨⟨B, m, N, u, a1, a2, a3, a4, a5, a6, a7, a8, a9⟩, -⟩ := id h
  rcases arg x 4 with ⟨r, hr, hr2, rfl⟩ | hx
  · rcases arg y 4 with ⟨j, hj, hj2, rfl⟩ | hy
    · rcases arg z 6 with ⟨p, hp, hp2, rfl⟩ | hz
      · have k1 : f_X7_isBelow (nI p) (6 : Int32) = 1 := bel_y hp rfl (by decide)
        obtain ⟨l, hl, e1, e2⟩ := a7 r hr
        obtain ⟨q, hq, e3, e4⟩ := a7 j hj
        have hrc := RC_of a1.1 a1.2.1 a2.1 a2.2 a3.1 a3.2 a6
        generalize (fun b => (M.1 2 b).toNatClampNeg) = FR at hrc
        generalize (fun b => (M.1 3 b).toNatClampNeg) = TO at hrc
        generalize bh (M.1 4) (M.1 5) m = bhl at hrc
        have c7 := x6_few (l0 := l) (q := q) (p0 := p) hrc hl hq hp 6 8 [] 0 rfl (by decide) (fun b hb => by cases hb) MK_0
        have hw := WB_all a1.1 (opn FR TO p) (visC (fun rp => hasL (laR bhl l rp) q)) none (n := fu - 1) (by omega)
        rw [FV_fw, mnO_0] at hw
        obtain ⟨N2, g1, g3⟩ := x8_cur (M0 := M) (l0 := l) (q := q) (p0 := p) hrc hl hq hp hj (fu - 1) [] none _ (mI (mI (mL (mI (mI M 63 12 0) 71 0 (nI p)) 72 0 (eM l)) 73 0 0) 70 0 (-1)) ⟨rfl, rfl, (by show (-1 : Int32) + 1 = nI 0; decide), ⟨rfl, rfl, rfl⟩, fun b hb => (by cases hb), by decide, by omega⟩ e4 (fun v hv => by cases hv) hw
        rw [show fu - 1 + 1 = fu by omega] at g1
        refine ⟨oI (fwC B (opn FR TO p) (fun rp => hasL (laR bhl l rp) q) 6 []), M, N2, ?_, ?_, Inv_ky h (KY_t (KY_x g3) ?_)⟩
        · unfold f_X7_curse f_X6_fewestToCurse_1
          have c7' : f_X6_fewest_1 M 8 (nI p) (eC l) (eC q) (0 : Int32) (0 : Int32) = some (oI (fwC B (opn FR TO p) (fun rp => hasL (laR bhl l rp) q) 6 [])) := c7
          rw [row7_y hr, z10, row7_y hj, z10, k1, z10, ck_y hr (by decide), ck_y hj (by decide), cl hr2, cl hj2, e1, e3, c7']
          rfl
        · unfold f_X8_curse
          rw [row8_y hr, z10, row8_y hj, z10, pl8_y hp, z10, ck_y (by omega) (by decide), cl hr2, e2]
          exact g1
        · refine ⟨fun q h1 h2 h3 h4 h5 => ?_, fun q h1 => ?_, fun k h1 h2 h3 h4 => ?_⟩
          · unfold mI
            rw [rI_ne h2, rI_ne h4]
            show (rI (rI M 63 _) 71 _).1 q = _
            rw [rI_ne h3, rI_ne h1]
          · show (rL _ 72 _).2 q = _
            rw [rL_ne h1]; rfl
          · show upd (M.1 63) 12 _ k = _
            rw [pk_un h1]
      · exact s_bad (v := -2) h (by unfold f_X7_curse; rw [row7_y hr, z10, row7_y hj, z10, bel_n (v := 6) hz rfl (by decide)]; rfl) (by unfold f_X8_curse; rw [row8_y hr, z10, row8_y hj, z10, pl8_n hz]; rfl)
    · exact s_bad (v := -2) h (by unfold f_X7_curse; rw [row7_y hr, z10, row7_n hy]; rfl) (by unfold f_X8_curse; rw [row8_y hr, z10, row8_n hy]; rfl)
  · exact s_bad (v := -2) h (by unfold f_X7_curse; rw [row7_n hx]; rfl) (by unfold f_X8_curse; rw [row8_n hx]; rfl)
