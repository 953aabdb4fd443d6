/-! rule, month, undo -/
theorem UN_g {ub uw now ub2 uw2 now2 : Nat → Int32} {B u u2 j j2 : Nat} (h : UN ub uw now B u j) (hB8 : B ≤ 8) (e1 : ub2 j2 = ub j) (e2 : uw2 j2 = uw j) (hM0 : snM now2 u2 j2 = snM now u j) (hM1 : snM now2 u2 (j2 + 1) = snM now u (j + 1)) (hK0 : ∀ b, b < 8 → snK now2 u2 j2 b = snK now u j b ∧ snN now2 u2 j2 b = snN now u j b) (hK1 : ∀ b, b < 8 → snK now2 u2 (j2 + 1) b = snK now u (j + 1) b ∧ snN now2 u2 (j2 + 1) b = snN now u (j + 1) b) : UN ub2 uw2 now2 B u2 j2 := by
  unfold UN
  rw [e1, e2, hM0, hM1]
  rcases h with ⟨q, a1, a2, a3, a4, a5⟩ | ⟨b0, kd, n, a1, a2, a3, a4, a5, a6, a7, a8, a9⟩
  · refine Or.inl ⟨q, a1, a2, a3, a4, fun b hb => ?_⟩
    rw [(hK0 b hb).1, (hK0 b hb).2, (hK1 b hb).1, (hK1 b hb).2]
    exact a5 b hb
  · refine Or.inr ⟨b0, kd, n, a1, a2, a3, a4, a5, ?_, ?_, a8, fun b hb hne => ?_⟩
    · rw [(hK0 b0 (by omega)).1]; exact a6
    · rw [(hK0 b0 (by omega)).2]; exact a7
    · rw [(hK0 b hb).1, (hK0 b hb).2, (hK1 b hb).1, (hK1 b hb).2]
      exact a9 b hb hne
def kpI (g : Nat → Int32) (b k : Nat) : Nat → Int32 := fun t => if b ≤ t ∧ t < b + 2 * k then g (4 + 4 * ((t - b) / 2) + 2 + (t - b) % 2) else g t
theorem kpI_s (g : Nat → Int32) {b k : Nat} : upd (upd (kpI g b k) (b + 2 * k) (g (4 + 4 * k + 2))) (b + 2 * k + 1) (g (4 + 4 * k + 3)) = kpI g b (k + 1) := by
  funext t
  unfold kpI
  by_cases e : t = b + 2 * k + 1
  · subst e; rw [pk_us, if_pos (by omega)]; exact congrArg g (by omega)
  · rw [pk_un e]
    by_cases e1 : t = b + 2 * k
    · subst e1; rw [pk_us, if_pos (by omega)]; exact congrArg g (by omega)
    · rw [pk_un e1]
      by_cases e2 : b ≤ t ∧ t < b + 2 * k
      · rw [if_pos e2, if_pos (by omega)]
      · rw [if_neg e2, if_neg (by omega)]
theorem kpI_lo (g : Nat → Int32) {b k t : Nat} (h : t < b) : kpI g b k t = g t := by unfold kpI; rw [if_neg (by omega)]
def KPn (g : Nat → Int32) (u : Nat) : Nat → Int32 := upd (upd (kpI g (52 + 17 * u) 8) (52 + 17 * u + 16) (g 1)) 3 (nI (u + 1))
theorem KPn_lo {g : Nat → Int32} {u t : Nat} (h : t < 52 + 17 * u) (h3 : t ≠ 3) : KPn g u t = g t := by
  unfold KPn; rw [pk_un h3, pk_un (by omega), kpI_lo g (by omega)]
theorem KPn_3 {g : Nat → Int32} {u : Nat} : KPn g u 3 = nI (u + 1) := pk_us
theorem KPn_K {g : Nat → Int32} {u k : Nat} (hk : k < 8) : KPn g u (52 + 17 * u + 2 * k) = g (4 + 4 * k + 2) := by
  unfold KPn; rw [pk_un (by omega), pk_un (by omega)]; unfold kpI; rw [if_pos (by omega)]; exact congrArg g (by omega)
theorem KPn_N {g : Nat → Int32} {u k : Nat} (hk : k < 8) : KPn g u (52 + 17 * u + 2 * k + 1) = g (4 + 4 * k + 3) := by
  unfold KPn; rw [pk_un (by omega), pk_un (by omega)]; unfold kpI; rw [if_pos (by omega)]; exact congrArg g (by omega)
theorem KPn_M {g : Nat → Int32} {u : Nat} : KPn g u (52 + 17 * u + 16) = g 1 := by
  unfold KPn; rw [pk_un (by omega), pk_us]
theorem kp_snK {g now : Nat → Int32} {u t b : Nat} (h : ∀ t, 52 ≤ t → t < 188 → now t = KPn g u t) (hu : u < 8) (ht : t ≤ u) (hb : b < 8) : snK now (u + 1) t b = snK g u t b ∧ snN now (u + 1) t b = snN g u t b := by
  unfold snK snN
  have ne : ¬ t = u + 1 := by omega
  rw [if_neg ne, if_neg ne, h _ (by omega) (by omega), h _ (by omega) (by omega)]
  by_cases e : t = u
  · subst e; rw [if_pos rfl, if_pos rfl, KPn_K hb, KPn_N hb]; exact ⟨rfl, rfl⟩
  · rw [if_neg e, if_neg e, KPn_lo (by omega) (by omega), KPn_lo (by omega) (by omega)]; exact ⟨rfl, rfl⟩
theorem kp_snM {g now : Nat → Int32} {u t : Nat} (h : ∀ t, 52 ≤ t → t < 188 → now t = KPn g u t) (hu : u < 8) (ht : t ≤ u) : snM now (u + 1) t = snM g u t := by
  unfold snM
  have ne : ¬ t = u + 1 := by omega
  rw [if_neg ne, h _ (by omega) (by omega)]
  by_cases e : t = u
  · subst e; rw [if_pos rfl, KPn_M]
  · rw [if_neg e, KPn_lo (by omega) (by omega)]
def shI (g : Nat → Int32) (c : Nat) : Nat → Int32 := fun t => if 52 ≤ t ∧ t < 52 + c then g (t + 17) else g t
theorem shI_s (g : Nat → Int32) {c : Nat} : upd (shI g c) (52 + c) (shI g c (69 + c)) = shI g (c + 1) := by
  funext t
  unfold shI
  by_cases e : t = 52 + c
  · subst e; rw [pk_us, if_pos (show 52 ≤ 52 + c ∧ 52 + c < 52 + (c + 1) by omega), if_neg (by omega)]; exact congrArg g (by omega)
  · rw [pk_un e]
    by_cases e2 : 52 ≤ t ∧ t < 52 + c
    · rw [if_pos e2, if_pos (by omega)]
    · rw [if_neg e2, if_neg (by omega)]
theorem rI_rI (M : Mem) (k : Nat) (f g : Nat → Int32) : rI (rI M k f) k g = rI M k g := by
  refine Prod.ext (funext fun q => ?_) rfl
  show (if q = k then g else if q = k then f else M.1 q) = if q = k then g else M.1 q
  by_cases e : q = k
  · rw [if_pos e, if_pos e]
  · rw [if_neg e, if_neg e, if_neg e]
theorem mI_rI2 {M : Mem} {k i : Nat} {v : Int32} : mI M k i v = rI M k (upd (M.1 k) i v) := rfl
theorem x8_kp1 {M : Mem} {g : Nat → Int32} {u : Nat} (h3 : g 3 = nI u) (hu : u < 8) : ∀ (d k n : Nat), k + d = 8 → d < n → b_X8_keep_66 (nI (52 + 17 * u)) n (nI k) (rI M 64 (kpI g (52 + 17 * u) k)) = some (rI M 64 (KPn g u))
  | _, _, 0, _, hn => absurd hn (Nat.not_lt_zero _)
  | 0, k, n + 1, hk, _ => by
    have hk8 : k = 8 := by omega
    subst hk8
    rw [b_X8_keep_66.eq_2, if_pos (by decide)]
    unfold b_X8_keep_112
    rw [show nI (52 + 17 * u) + (16 : Int32) = nI (52 + 17 * u + 16) from nI_add _ 16, ck_y (by omega) (by decide), cl (by omega)]
    have e1 : (rI M 64 (kpI g (52 + 17 * u) 8)).1 64 1 = g 1 := by rw [rI_eq]; exact kpI_lo g (by omega)
    have e3 : (rI M 64 (upd (kpI g (52 + 17 * u) 8) (52 + 17 * u + 16) (g 1))).1 64 3 = nI u := by rw [rI_eq, pk_un (by omega), kpI_lo g (by omega)]; exact h3
    simp only [e1, mI_rI, e3, nI_1]
    rfl
  | d + 1, k, n + 1, hk, hn => by
    have ih := x8_kp1 (M := M) h3 hu d (k + 1) n (by omega) (by omega)
    have i0 : nI (52 + 17 * u) + (2 : Int32) * nI k = nI (52 + 17 * u + 2 * k) := by
      have e : (2 : Int32) * nI k = nI (2 * k) := pk_mul 2 k
      rw [e, nI_add]
    have g2 : ∀ M : Mem, f_X8_get M (nI k) (2 : Int32) = some (M.1 64 (4 + 4 * k + 2)) := fun M => get8 (M := M) (j := k) (w := 2) (by omega) (by decide)
    have g3 : ∀ M : Mem, f_X8_get M (nI k) (3 : Int32) = some (M.1 64 (4 + 4 * k + 3)) := fun M => get8 (M := M) (j := k) (w := 3) (by omega) (by decide)
    have v2 : (rI M 64 (kpI g (52 + 17 * u) k)).1 64 (4 + 4 * k + 2) = g (4 + 4 * k + 2) := by rw [rI_eq]; exact kpI_lo g (by omega)
    have v3 : (rI M 64 (upd (kpI g (52 + 17 * u) k) (52 + 17 * u + 2 * k) (g (4 + 4 * k + 2)))).1 64 (4 + 4 * k + 3) = g (4 + 4 * k + 3) := by rw [rI_eq, pk_un (by omega)]; exact kpI_lo g (by omega)
    rw [b_X8_keep_66.eq_2, if_neg (fun q => by have := (v_ge 8 8 (by omega)).mp q; omega), g2, v2, Option.bind_some, i0, ck_y (by omega) (by decide), cl (by omega), mI_rI]
    simp only [g3, v3, Option.bind_some, nI_1]
    rw [ck_y (by omega) (by decide), cl (by omega), mI_rI, kpI_s]
    exact ih
theorem kpI_0 (g : Nat → Int32) (b : Nat) : kpI g b 0 = g := by funext t; unfold kpI; rw [if_neg (by omega)]
theorem x8_kp2 {M : Mem} {u : Nat} (h3 : M.1 64 3 = nI u) (hu : u < 8) : b_X8_keep_51 M = some (rI M 64 (KPn (M.1 64) u)) := by
  have hf := fu_big
  have h := x8_kp1 (M := M) (g := M.1 64) h3 hu 8 0 fu (by omega) (by omega)
  rw [kpI_0, rI_self] at h
  unfold b_X8_keep_51
  have e : (17 : Int32) * nI u = nI (17 * u) := pk_mul 17 u
  have e2 : (52 : Int32) + nI (17 * u) = nI (52 + 17 * u) := nI_add 52 _
  rw [h3, e, e2]
  exact h
theorem x8_shift {M : Mem} {g : Nat → Int32} (k51 : Mem → Option Mem) : ∀ (d c n : Nat), c + d = 119 → d < n → b_X8_keep_13 k51 n (nI c) (rI M 64 (shI g c)) = k51 (rI M 64 (upd (shI g 119) 3 7))
  | _, _, 0, _, hn => absurd hn (Nat.not_lt_zero _)
  | 0, c, n + 1, hc, _ => by
    rw [b_X8_keep_13.eq_2, if_pos ((v_ge 119 119 (by omega)).mpr (by omega)), show c = 119 by omega]
    unfold b_X8_keep_43
    rw [mI_rI]
  | d + 1, c, n + 1, hc, hn => by
    have ih := x8_shift (M := M) (g := g) k51 d (c + 1) n (by omega) (by omega)
    have e1 : (69 : Int32) + nI c = nI (69 + c) := nI_add 69 _
    have e2 : (52 : Int32) + nI c = nI (52 + c) := nI_add 52 _
    rw [b_X8_keep_13.eq_2, if_neg (fun q => by have := (v_ge 119 119 (by omega)).mp q; omega), e1, e2, ck_y (by omega) (by decide), ck_y (by omega) (by decide), cl (by omega), cl (by omega), rI_eq, mI_rI, shI_s, nI_1]
    exact ih
theorem shI_0 (g : Nat → Int32) : shI g 0 = g := by funext t; unfold shI; rw [if_neg (by omega)]
/-- what was is kept: the class's two numbers, the reference's rows -/
theorem kp {M : Mem} {B u : Nat} (hB8 : B ≤ 8) (hu : u ≤ 8) (h8 : M.1 1 8 = nI u) (g8 : M.1 64 3 = nI u) (hun : ∀ j, j < u → UN (M.1 12) (M.1 13) (M.1 64) B u j) : ∃ (v : Nat) (UB UW G : Nat → Int32), v < 8 ∧ (∀ t, t < 52 → t ≠ 3 → G t = M.1 64 t) ∧ (∀ j, j < v → UN UB UW G B v j) ∧ (∀ x1 x2, ∃ F, f_X4_remember_1 x1 x2 M = some (rI (rI (rI M 12 (upd UB v x1)) 13 (upd UW v x2)) 1 F) ∧ F 6 = M.1 1 6 ∧ F 7 = M.1 1 7 ∧ F 8 = nI (v + 1)) ∧ (∀ M' : Mem, M'.1 64 = M.1 64 → f_X8_keep M' = some (rI M' 64 (KPn G v))) := by
  have hf := fu_big
  by_cases hu8 : u < 8
  · refine ⟨u, M.1 12, M.1 13, M.1 64, hu8, fun _ _ _ => rfl, hun, fun x1 x2 => ⟨upd (M.1 1) 8 (nI (u + 1)), ?_, rfl, rfl, rfl⟩, fun M' h' => ?_⟩
    · unfold f_X4_remember_1 b_X4_remember_1_45
      have q1 : (mI M 12 u x1).1 1 8 = nI u := h8
      have q2 : (mI (mI M 12 u x1) 13 u x2).1 1 8 = nI u := h8
      have hck : ∀ k : Option Mem, ck (nI u) 8 k = k := ck_y hu8 (by decide)
      have hcl : (nI u).toNatClampNeg = u := cl (by omega)
      have hlt : nI u < (8 : Int32) := (v_lt 8 8 (by omega)).mpr hu8
      simp only [h8, if_pos hlt, hck, hcl, q1, q2, nI_1]
      rfl
    · unfold f_X8_keep
      rw [h', g8, if_neg (fun q => by have := (v_eq 8 8 (by omega)).mp q; omega), x8_kp2 (by rw [h']; exact g8) hu8, h']
  · have e8 : u = 8 := by omega
    subst e8
    have G52 : ∀ t, 52 ≤ t → t < 171 → upd (shI (M.1 64) 119) 3 7 t = M.1 64 (t + 17) := fun t h1 h2 => by rw [pk_un (by omega)]; unfold shI; rw [if_pos (by omega)]
    have Glo : ∀ t, t < 52 → t ≠ 3 → upd (shI (M.1 64) 119) 3 7 t = M.1 64 t := fun t h1 h2 => by rw [pk_un h2]; unfold shI; rw [if_neg (by omega)]
    have sK : ∀ t b, t ≤ 7 → b < 8 → snK (upd (shI (M.1 64) 119) 3 7) 7 t b = snK (M.1 64) 8 (t + 1) b ∧ snN (upd (shI (M.1 64) 119) 3 7) 7 t b = snN (M.1 64) 8 (t + 1) b := by
      intro t b ht hb
      unfold snK snN
      by_cases e : t = 7
      · subst e; rw [if_pos rfl, if_pos rfl, if_pos rfl, if_pos rfl, Glo _ (by omega) (by omega), Glo _ (by omega) (by omega)]; exact ⟨rfl, rfl⟩
      · rw [if_neg e, if_neg e, if_neg (by omega), if_neg (by omega), G52 _ (by omega) (by omega), G52 _ (by omega) (by omega)]
        exact ⟨congrArg _ (by omega), congrArg _ (by omega)⟩
    have sM : ∀ t, t ≤ 7 → snM (upd (shI (M.1 64) 119) 3 7) 7 t = snM (M.1 64) 8 (t + 1) := by
      intro t ht
      unfold snM
      by_cases e : t = 7
      · subst e; rw [if_pos rfl, if_pos rfl, Glo _ (by omega) (by omega)]
      · rw [if_neg e, if_neg (by omega), G52 _ (by omega) (by omega)]
        exact congrArg _ (by omega)
    refine ⟨7, va_cpy (M.1 12) (M.1 12) 1 0 7, va_cpy (M.1 13) (M.1 13) 1 0 7, upd (shI (M.1 64) 119) 3 7, by decide, Glo, fun j hj => ?_, fun x1 x2 => ⟨upd (upd (M.1 1) 8 7) 8 8, ?_, rfl, rfl, rfl⟩, fun M' h' => ?_⟩
    · refine UN_g (hun (j + 1) (by omega)) hB8 ?_ ?_ (sM j (by omega)) (sM (j + 1) (by omega)) (fun b hb => sK j b (by omega) hb) (fun b hb => sK (j + 1) b (by omega) hb)
      · rw [pk_cpy_in (by omega) (by omega)]; exact congrArg _ (by omega)
      · rw [pk_cpy_in (by omega) (by omega)]; exact congrArg _ (by omega)
    · unfold f_X4_remember_1
      rw [h8, if_neg (by decide)]
      unfold b_X4_remember_1_45
      show some (mI (mI (mI (mI (rI (rI M 12 (va_cpy (M.1 12) (M.1 12) 1 0 7)) 13 (va_cpy (M.1 13) (M.1 13) 1 0 7)) 1 8 7) 12 7 x1) 13 7 x2) 1 8 8) = _
      refine congrArg some ?_
      refine Prod.ext (funext fun q => ?_) rfl
      by_cases q1 : q = 1
      · subst q1; rfl
      by_cases q2 : q = 12
      · subst q2; rfl
      by_cases q3 : q = 13
      · subst q3; rfl
      unfold mI
      rw [rI_ne q1, rI_ne q3, rI_ne q2, rI_ne q1, rI_ne q3, rI_ne q2, rI_ne q1, rI_ne q3, rI_ne q2]
    · unfold f_X8_keep
      rw [h', g8, if_pos (by decide)]
      have hs := x8_shift (M := M') (g := M'.1 64) (fun M_ => b_X8_keep_51 M_) 119 0 fu (by omega) (by omega)
      rw [shI_0, rI_self] at hs
      refine hs.trans ?_
      rw [x8_kp2 (u := 7) (by rw [rI_eq]; rfl) (by decide), rI_rI, rI_eq, h']

theorem r16 (a b : Nat) : ((16 : Int32) * nI a) + nI b = nI (16 * a + b) := by
  have e : (16 : Int32) * nI a = nI (16 * a) := pk_mul 16 a
  rw [e, nI_add]
theorem e_rule {M : Mem} (h : Inv M) (x y z : Int32) : Same (f_X7_rule x y z) (f_X8_rule x y z) M := by
  obtain ⟨⟨B, m, N, u, a1, a2, a3, a4, a5, a6, a7, a8, a9⟩, h2, h3, h4, h5, h6⟩ := id h
  have hB := (show (mB7 M).1 64 0 = nI B from a2.2)
  have hB8 := a1.1
  rcases arg x B with ⟨a, ha, ha2, rfl⟩ | hx
  · rcases arg y 6 with ⟨c, hc, hc2, rfl⟩ | hy
    · have k3 : f_X7_isBelow (nI c) (6 : Int32) = 1 := bel_y hc rfl (by decide)
      have m3 : f_X8_in (nI c).toInt64 (0 : Int64) (5 : Int64) = 1 := in_y hc hc2 (by decide)
      rcases arg z 16 with ⟨d, hd, hd2, rfl⟩ | hz
      · have k4 : f_X7_isBelow (nI d) (16 : Int32) = 1 := bel_y hd rfl (by decide)
        have m4 : f_X8_in (nI d).toInt64 (0 : Int64) (15 : Int64) = 1 := in_y hd hd2 (by decide)
        have k5 : f_X7_isRule (nI c) (nI d) = 1 := by unfold f_X7_isRule; rw [k3, z10, k4, z10]
        obtain ⟨p1, p2, kd, n, q1, q2, q3, q4, b1, c1, b2, c2, b3, c3, b4, c4⟩ := a6 a ha
        obtain ⟨v, UB, UW, G, hv, hG, hU, hr7, hk8⟩ := kp a1.1 a1.2.2.2 a5.1 a5.2 a9
        obtain ⟨F, f1, f2, f3, f4⟩ := hr7 (nI a) (nI (16 * kd + n))
        have now_lo : ∀ t, t < 52 → t ≠ 3 → t ≠ 4 + 4 * a + 2 → t ≠ 4 + 4 * a + 3 → upd (upd (KPn G v) (4 + 4 * a + 2) (nI c)) (4 + 4 * a + 3) (nI d) t = M.1 64 t := fun t t1 t2 t3 t4 => by
          rw [pk_un t4, pk_un t3, KPn_lo (by omega) t2, hG t t1 t2]
        have now_hi : ∀ t, 52 ≤ t → t < 188 → upd (upd (KPn G v) (4 + 4 * a + 2) (nI c)) (4 + 4 * a + 3) (nI d) t = KPn G v t := fun t t1 t2 => by
          rw [pk_un (by omega), pk_un (by omega)]
        refine ⟨nI (16 * kd + n), mI (mI (rI (rI (rI M 12 (upd UB v (nI a))) 13 (upd UW v (nI (16 * kd + n)))) 1 F) 4 a (nI c)) 5 a (nI d), rI (mI (mI (rI (rI (rI M 12 (upd UB v (nI a))) 13 (upd UW v (nI (16 * kd + n)))) 1 F) 4 a (nI c)) 5 a (nI d)) 64 (upd (upd (KPn G v) (4 + 4 * a + 2) (nI c)) (4 + 4 * a + 3) (nI d)), ?_, ?_, ⟨B, m, N, v + 1, ⟨a1.1, a1.2.1, a1.2.2.1, by omega⟩, ⟨f2.trans a2.1, (now_lo 0 (by omega) (by omega) (by omega) (by omega)).trans a2.2⟩, ⟨f3.trans a3.1, (now_lo 1 (by omega) (by omega) (by omega) (by omega)).trans a3.2⟩, ⟨a4.1, (now_lo 2 (by omega) (by omega) (by omega) (by omega)).trans a4.2⟩, ⟨f4, ?_⟩, ?_, a7, ?_, ?_⟩, h2, h3, h4, h5, h6⟩
        · unfold f_X7_rule f_X4_retell_1
          rw [br7_y a2.1 ha a1.1, z10, k5, z10, ck_y (by omega) (by decide), ck_y (by omega) (by decide), cl ha2, b3, b4, r16, f1, Option.bind_some, ck_y (by omega) (by decide), ck_y (by omega) (by decide), Option.bind_some]
        · generalize hA : mI (mI (rI (rI (rI M 12 (upd UB v (nI a))) 13 (upd UW v (nI (16 * kd + n)))) 1 F) 4 a (nI c)) 5 a (nI d) = A
          have e64 : A.1 64 = M.1 64 := by rw [← hA]; rfl
          have g2 : f_X8_get A (nI a) (2 : Int32) = some (nI kd) := (get8 (M := A) (j := a) (w := 2) (by omega) (by decide)).trans (by rw [e64, c3])
          have g3 : f_X8_get A (nI a) (3 : Int32) = some (nI n) := (get8 (M := A) (j := a) (w := 3) (by omega) (by decide)).trans (by rw [e64, c4])
          have q2' : ((4 : Int32) + ((4 : Int32) * nI a)) + (2 : Int32) = nI (4 + 4 * a + 2) := ix4 a 2
          have q3' : ((4 : Int32) + ((4 : Int32) * nI a)) + (3 : Int32) = nI (4 + 4 * a + 3) := ix4 a 3
          unfold f_X8_rule
          rw [br8_y (M := A) (by rw [e64]; exact a2.2) ha a1.1, z10, m3, z10, m4, z10, g2, Option.bind_some, g3, Option.bind_some, hk8 A e64, Option.bind_some, q2', q3', ck_y (by omega) (by decide), ck_y (by omega) (by decide), cl (by omega), cl (by omega), mI_rI, mI_rI, r16]
        · show upd (upd (KPn G v) (4 + 4 * a + 2) (nI c)) (4 + 4 * a + 3) (nI d) 3 = nI (v + 1)
          exact (pk_un (by omega)).trans ((pk_un (by omega)).trans KPn_3)
        · intro k hk
          by_cases e : k = a
          · subst e
            refine ⟨p1, p2, c, d, q1, q2, hc, hd, b1, (now_lo _ (by omega) (by omega) (by omega) (by omega)).trans c1, b2, (now_lo _ (by omega) (by omega) (by omega) (by omega)).trans c2, pk_us (f := M.1 4), ?_, pk_us (f := M.1 5), ?_⟩
            · show upd (upd (KPn G v) (4 + 4 * k + 2) (nI c)) (4 + 4 * k + 3) (nI d) (4 + 4 * k + 2) = _
              rw [pk_un (by omega), pk_us]
            · exact pk_us (f := upd (KPn G v) (4 + 4 * k + 2) (nI c))
          · exact BR_c (a6 k hk) rfl rfl (pk_un (f := M.1 4) e) (pk_un (f := M.1 5) e) (fun i i1 i2 => now_lo i (by omega) (by omega) (by omega) (by omega))
        · intro k hk
          exact NT_c (a8 k hk) rfl rfl rfl rfl (fun i i1 i2 => now_lo i (by have := a1.2.2.1; omega) (by omega) (by omega) (by omega)) (fun _ _ _ => rfl)
        · intro j hj
          show UN (upd UB v (nI a)) (upd UW v (nI (16 * kd + n))) (upd (upd (KPn G v) (4 + 4 * a + 2) (nI c)) (4 + 4 * a + 3) (nI d)) B (v + 1) j
          by_cases e : j = v
          · subst e
            refine Or.inr ⟨a, kd, n, ha, q3, q4, pk_us (f := UB), pk_us (f := UW), ?_, ?_, ?_, fun b hb hne => ?_⟩
            · rw [(kp_snK now_hi hv (Nat.le_refl _) (by omega)).1]; unfold snK; rw [if_pos rfl, hG _ (by omega) (by omega)]; exact c3
            · rw [(kp_snK now_hi hv (Nat.le_refl _) (by omega)).2]; unfold snN; rw [if_pos rfl, hG _ (by omega) (by omega)]; exact c4
            · rw [kp_snM now_hi hv (Nat.le_refl _)]; unfold snM; rw [if_pos rfl, if_pos rfl]
              exact (hG 1 (by omega) (by omega)).trans (now_lo 1 (by omega) (by omega) (by omega) (by omega)).symm
            · rw [(kp_snK now_hi hv (Nat.le_refl _) hb).1, (kp_snK now_hi hv (Nat.le_refl _) hb).2]; unfold snK snN; rw [if_pos rfl, if_pos rfl, if_pos rfl, if_pos rfl]
              exact ⟨(hG _ (by omega) (by omega)).trans (now_lo _ (by omega) (by omega) (by omega) (by omega)).symm, (hG _ (by omega) (by omega)).trans (now_lo _ (by omega) (by omega) (by omega) (by omega)).symm⟩
          · exact UN_g (hU j (by omega)) a1.1 (pk_un (f := UB) e) (pk_un (f := UW) e) (kp_snM now_hi hv (by omega)) (kp_snM now_hi hv (by omega)) (fun b hb => kp_snK now_hi hv (by omega) hb) (fun b hb => kp_snK now_hi hv (by omega) hb)
      · exact s_bad (v := -2) h (by unfold f_X7_rule f_X7_isRule; rw [br7_y a2.1 ha a1.1, z10, k3, z10, bel_n (v := 16) hz rfl (by decide)]; rfl) (by unfold f_X8_rule; rw [br8_y hB ha a1.1, z10, m3, z10, in_n hz (by decide)]; rfl)
    · exact s_bad (v := -2) h (by unfold f_X7_rule f_X7_isRule; rw [br7_y a2.1 ha a1.1, z10, bel_n (v := 6) hy rfl (by decide)]; rfl) (by unfold f_X8_rule; rw [br8_y hB ha a1.1, z10, in_n hy (by decide)]; rfl)
  · exact s_bad (v := -2) h (by unfold f_X7_rule; rw [br7_n a2.1 hx a1.1]; rfl) (by unfold f_X8_rule; rw [br8_n hB hx a1.1]; rfl)
theorem md12 : ∀ m, m < 12 → ∀ x, x < 12 → (nI m + nI x) - (nI m + nI x) / (12 : Int32) * (12 : Int32) = nI ((m + x) % 12) := by decide +kernel
theorem e_month {M : Mem} (h : Inv M) (x : Int32) : Same (f_X7_month x) (f_X8_month x) M := by
  obtain ⟨⟨B, m, N, u, a1, a2, a3, a4, a5, a6, a7, a8, a9⟩, h2, h3, h4, h5, h6⟩ := id h
  by_cases hx1 : x < 1
  · refine s_bad (v := -2) h (by unfold f_X7_month; rw [if_pos hx1]; rfl) ?_
    unfold f_X8_month
    have : f_X8_in x.toInt64 (1 : Int64) (11 : Int64) = 0 := by
      unfold f_X8_in
      rw [if_pos ((lg_lt0 _ _).mpr ((fa_lt64 _ _).mpr (by rw [Int32.toInt_toInt64]; have := (fa_lt _ _).mp hx1; rw [show (1 : Int32).toInt = 1 by decide] at this; rw [show (1 : Int64).toInt = 1 by decide]; exact this)))]
    rw [this]; rfl
  · by_cases hx2 : x < 12
    · obtain ⟨a, ha, rfl⟩ : ∃ a, a < 12 ∧ x = nI a := by
        have h0 : ¬ x < 0 := fun q => hx1 ((fa_lt _ _).mpr (by have := (fa_lt _ _).mp q; rw [show (0 : Int32).toInt = 0 by decide] at this; rw [show (1 : Int32).toInt = 1 by decide]; omega))
        obtain ⟨j, hj, rfl⟩ := nI_of h0
        exact ⟨j, (v_lt 12 12 hj).mp hx2, rfl⟩
      have hin : f_X8_in (nI a).toInt64 (1 : Int64) (11 : Int64) = 1 := by
        have t1 : (nI a).toInt64.toInt = (a : Int) := by rw [Int32.toInt_toInt64, nI_toInt (by omega)]
        have t2 : ¬ a < 1 := fun q => hx1 ((v_lt 1 1 (by omega)).mpr q)
        unfold f_X8_in
        rw [if_neg (fun q => by have := (fa_lt64 _ _).mp ((lg_lt0 _ _).mp q); rw [t1, show (1 : Int64).toInt = 1 by decide] at this; omega), if_neg (fun q => by have := (fa_lt64 _ _).mp ((lg_gt0 _ _).mp q); rw [t1, show (11 : Int64).toInt = 11 by decide] at this; omega)]
      obtain ⟨v, UB, UW, G, hv, hG, hU, hr7, hk8⟩ := kp a1.1 a1.2.2.2 a5.1 a5.2 a9
      obtain ⟨F, f1, f2, f3, f4⟩ := hr7 (-1) (nI m)
      have now_lo : ∀ t, t < 52 → t ≠ 3 → t ≠ 1 → upd (KPn G v) 1 (nI ((m + a) % 12)) t = M.1 64 t := fun t t1 t2 t3 => by
        rw [pk_un t3, KPn_lo (by omega) t2, hG t t1 t2]
      have now_hi : ∀ t, 52 ≤ t → t < 188 → upd (KPn G v) 1 (nI ((m + a) % 12)) t = KPn G v t := fun t t1 t2 => pk_un (by omega)
      have hB8 := a1.1
      refine ⟨nI ((m + a) % 12), mI (rI (rI (rI M 12 (upd UB v (-1))) 13 (upd UW v (nI m))) 1 F) 1 7 (nI ((m + a) % 12)), rI (mI (rI (rI (rI M 12 (upd UB v (-1))) 13 (upd UW v (nI m))) 1 F) 1 7 (nI ((m + a) % 12))) 64 (upd (KPn G v) 1 (nI ((m + a) % 12))), ?_, ?_, ⟨B, (m + a) % 12, N, v + 1, ⟨a1.1, by omega, a1.2.2.1, by omega⟩, ⟨f2.trans a2.1, (now_lo 0 (by omega) (by omega) (by omega)).trans a2.2⟩, ⟨rfl, rfl⟩, ⟨a4.1, (now_lo 2 (by omega) (by omega) (by omega)).trans a4.2⟩, ⟨f4, ?_⟩, ?_, a7, ?_, ?_⟩, h2, h3, h4, h5, h6⟩
      · unfold f_X7_month f_X4_letPass_1
        have e : (rI (rI (rI M 12 (upd UB v (-1))) 13 (upd UW v (nI m))) 1 F).1 1 7 = nI m := f3.trans a3.1
        rw [if_neg hx1, if_pos hx2, a3.1, f1, Option.bind_some, e, md12 m a1.2.1 a ha, Option.bind_some]
        rfl
      · generalize hA : mI (rI (rI (rI M 12 (upd UB v (-1))) 13 (upd UW v (nI m))) 1 F) 1 7 (nI ((m + a) % 12)) = A
        have e64 : A.1 64 = M.1 64 := by rw [← hA]; rfl
        unfold f_X8_month
        have e : (rI A 64 (KPn G v)).1 64 1 = nI m := by rw [rI_eq, KPn_lo (by omega) (by omega), hG 1 (by omega) (by omega)]; exact a3.2
        rw [hin, z10, hk8 A e64, Option.bind_some, e, md12 m a1.2.1 a ha, mI_rI]
        rfl
      · exact (pk_un (f := KPn G v) (k := 1) (j := 3) (x := nI ((m + a) % 12)) (by omega)).trans KPn_3
      · intro k hk
        exact BR_c (a6 k hk) rfl rfl rfl rfl (fun i i1 i2 => now_lo i (by omega) (by omega) (by omega))
      · intro k hk
        exact NT_c (a8 k hk) rfl rfl rfl rfl (fun i i1 i2 => now_lo i (by have := a1.2.2.1; omega) (by omega) (by omega)) (fun _ _ _ => rfl)
      · intro j hj
        show UN (upd UB v (-1)) (upd UW v (nI m)) (upd (KPn G v) 1 (nI ((m + a) % 12))) B (v + 1) j
        by_cases e : j = v
        · subst e
          refine Or.inl ⟨m, a1.2.1, pk_us (f := UB), pk_us (f := UW), ?_, fun b hb => ?_⟩
          · rw [kp_snM now_hi hv (Nat.le_refl _)]; unfold snM; rw [if_pos rfl, hG 1 (by omega) (by omega)]; exact a3.2
          · rw [(kp_snK now_hi hv (Nat.le_refl _) hb).1, (kp_snK now_hi hv (Nat.le_refl _) hb).2]; unfold snK snN; rw [if_pos rfl, if_pos rfl, if_pos rfl, if_pos rfl]
            exact ⟨(hG _ (by omega) (by omega)).trans (now_lo _ (by omega) (by omega) (by omega)).symm, (hG _ (by omega) (by omega)).trans (now_lo _ (by omega) (by omega) (by omega)).symm⟩
        · exact UN_g (hU j (by omega)) a1.1 (pk_un (f := UB) e) (pk_un (f := UW) e) (kp_snM now_hi hv (by omega)) (kp_snM now_hi hv (by omega)) (fun b hb => kp_snK now_hi hv (by omega) hb) (fun b hb => kp_snK now_hi hv (by omega) hb)
    · refine s_bad (v := -2) h (by unfold f_X7_month; rw [if_neg hx1, if_neg hx2]; rfl) ?_
      unfold f_X8_month
      have : f_X8_in x.toInt64 (1 : Int64) (11 : Int64) = 0 := by
        have t2 : ¬ x.toInt < 12 := fun q => hx2 ((fa_lt _ _).mpr (by rw [show (12 : Int32).toInt = 12 by decide]; exact q))
        unfold f_X8_in
        split
        · rfl
        · rw [if_pos ((lg_gt0 _ _).mpr ((fa_lt64 _ _).mpr (by rw [Int32.toInt_toInt64, show (11 : Int64).toInt = 11 by decide]; omega)))]
      rw [this]; rfl

def bkI (g : Nat → Int32) (b k : Nat) : Nat → Int32 := fun t => if 4 ≤ t ∧ t < 4 + 4 * k ∧ 2 ≤ t % 4 then g (b + 2 * ((t - 4) / 4) + (t % 4 - 2)) else g t
theorem bkI_s (g : Nat → Int32) {b k : Nat} : upd (upd (bkI g b k) (4 + 4 * k + 2) (g (b + 2 * k))) (4 + 4 * k + 3) (g (b + 2 * k + 1)) = bkI g b (k + 1) := by
  funext t
  unfold bkI
  by_cases e : t = 4 + 4 * k + 3
  · subst e; rw [pk_us, if_pos (by omega)]; exact congrArg g (by omega)
  · rw [pk_un e]
    by_cases e1 : t = 4 + 4 * k + 2
    · subst e1; rw [pk_us, if_pos (by omega)]; exact congrArg g (by omega)
    · rw [pk_un e1]
      by_cases e2 : 4 ≤ t ∧ t < 4 + 4 * k ∧ 2 ≤ t % 4
      · rw [if_pos e2, if_pos (by omega)]
      · rw [if_neg e2, if_neg (by omega)]
theorem bkI_0 (g : Nat → Int32) (b : Nat) : bkI g b 0 = g := by funext t; unfold bkI; rw [if_neg (by omega)]
theorem bkI_hi (g : Nat → Int32) {b k t : Nat} (hk : k ≤ 8) (h : 36 ≤ t) : bkI g b k t = g t := by unfold bkI; rw [if_neg (by omega)]
theorem bkI_lo (g : Nat → Int32) {b k t : Nat} (h : t < 4) : bkI g b k t = g t := by unfold bkI; rw [if_neg (by omega)]
theorem bkI_01 (g : Nat → Int32) {b k t : Nat} (h : t % 4 < 2) : bkI g b k t = g t := by unfold bkI; rw [if_neg (by omega)]
theorem bkI_K (g : Nat → Int32) {b k : Nat} (h : k < 8) : bkI g b 8 (4 + 4 * k + 2) = g (b + 2 * k) := by unfold bkI; rw [if_pos (by omega)]; exact congrArg g (by omega)
theorem bkI_N (g : Nat → Int32) {b k : Nat} (h : k < 8) : bkI g b 8 (4 + 4 * k + 3) = g (b + 2 * k + 1) := by unfold bkI; rw [if_pos (by omega)]; exact congrArg g (by omega)
theorem x8_bk {M : Mem} {g : Nat → Int32} {u : Nat} (hu : u < 8) : ∀ (d k n : Nat), k + d = 8 → d < n → b_X8_undo_39 (nI (52 + 17 * u)) n (nI k) (rI M 64 (bkI g (52 + 17 * u) k)) = some (g (52 + 17 * u + 16), rI M 64 (upd (bkI g (52 + 17 * u) 8) 1 (g (52 + 17 * u + 16))))
  | _, _, 0, _, hn => absurd hn (Nat.not_lt_zero _)
  | 0, k, n + 1, hk, _ => by
    have hk8 : k = 8 := by omega
    subst hk8
    rw [b_X8_undo_39.eq_2, if_pos (by decide)]
    unfold b_X8_undo_97
    have e1 : (rI M 64 (bkI g (52 + 17 * u) 8)).1 64 (52 + 17 * u + 16) = g (52 + 17 * u + 16) := by rw [rI_eq]; exact bkI_hi g (by omega) (by omega)
    rw [show nI (52 + 17 * u) + (16 : Int32) = nI (52 + 17 * u + 16) from nI_add _ 16, ck_y (by omega) (by decide), cl (by omega), e1, mI_rI]
    show some ((rI M 64 _).1 64 1, _) = _
    rw [rI_eq, pk_us]
  | d + 1, k, n + 1, hk, hn => by
    have ih := x8_bk (M := M) (g := g) hu d (k + 1) n (by omega) (by omega)
    have i0 : nI (52 + 17 * u) + (2 : Int32) * nI k = nI (52 + 17 * u + 2 * k) := by
      have e : (2 : Int32) * nI k = nI (2 * k) := pk_mul 2 k
      rw [e, nI_add]
    have q2' : ((4 : Int32) + ((4 : Int32) * nI k)) + (2 : Int32) = nI (4 + 4 * k + 2) := ix4 k 2
    have q3' : ((4 : Int32) + ((4 : Int32) * nI k)) + (3 : Int32) = nI (4 + 4 * k + 3) := ix4 k 3
    have v2 : (rI M 64 (bkI g (52 + 17 * u) k)).1 64 (52 + 17 * u + 2 * k) = g (52 + 17 * u + 2 * k) := by rw [rI_eq]; exact bkI_hi g (by omega) (by omega)
    have v3 : (rI M 64 (upd (bkI g (52 + 17 * u) k) (4 + 4 * k + 2) (g (52 + 17 * u + 2 * k)))).1 64 (52 + 17 * u + 2 * k + 1) = g (52 + 17 * u + 2 * k + 1) := by rw [rI_eq, pk_un (by omega)]; exact bkI_hi g (by omega) (by omega)
    rw [b_X8_undo_39.eq_2, if_neg (fun q => by have := (v_ge 8 8 (by omega)).mp q; omega), i0, q2', q3', nI_1, ck_y (by omega) (by decide), ck_y (by omega) (by decide), ck_y (by omega) (by decide), ck_y (by omega) (by decide), cl (by omega), cl (by omega), cl (by omega), cl (by omega), v2, mI_rI]
    simp only [v3]
    rw [mI_rI, bkI_s, nI_1]
    exact ih
theorem w16 : ∀ kd, kd < 6 → ∀ n, n < 16 → nI (16 * kd + n) / (16 : Int32) = nI kd ∧ nI (16 * kd + n) - nI kd * (16 : Int32) = nI n := by decide +kernel
theorem bk {M : Mem} {v : Nat} (hv : v < 8) (h3 : M.1 64 3 = nI (v + 1)) : ∃ NW : Nat → Int32, (∀ t, t ≠ 1 → t ≠ 3 → (t < 4 ∨ t % 4 < 2 ∨ 36 ≤ t) → NW t = M.1 64 t) ∧ NW 1 = M.1 64 (52 + 17 * v + 16) ∧ NW 3 = nI v ∧ (∀ k, k < 8 → NW (4 + 4 * k + 2) = snK (M.1 64) (v + 1) v k) ∧ (∀ k, k < 8 → NW (4 + 4 * k + 3) = snN (M.1 64) (v + 1) v k) ∧ (∀ t b, t ≤ v → b < 8 → snK NW v t b = snK (M.1 64) (v + 1) t b ∧ snN NW v t b = snN (M.1 64) (v + 1) t b) ∧ (∀ t, t ≤ v → snM NW v t = snM (M.1 64) (v + 1) t) ∧ (∀ A : Mem, A.1 64 = M.1 64 → f_X8_undo A = some (M.1 64 (52 + 17 * v + 16), rI A 64 NW)) := by
  have hf := fu_big
  have lo' : ∀ t, t ≠ 1 → t ≠ 3 → (t < 4 ∨ t % 4 < 2 ∨ 36 ≤ t) → upd (bkI (upd (M.1 64) 3 (nI v)) (52 + 17 * v) 8) 1 (M.1 64 (52 + 17 * v + 16)) t = M.1 64 t := by
    intro t t1 t3 ht
    rw [pk_un t1]
    rcases ht with q | q | q
    · rw [bkI_lo _ q, pk_un t3]
    · rw [bkI_01 _ q, pk_un t3]
    · rw [bkI_hi _ (by omega) q, pk_un t3]
  have now3 : upd (bkI (upd (M.1 64) 3 (nI v)) (52 + 17 * v) 8) 1 (M.1 64 (52 + 17 * v + 16)) 3 = nI v := by
    rw [pk_un (by omega), bkI_lo _ (by omega), pk_us]
  have nK : ∀ k, k < 8 → upd (bkI (upd (M.1 64) 3 (nI v)) (52 + 17 * v) 8) 1 (M.1 64 (52 + 17 * v + 16)) (4 + 4 * k + 2) = snK (M.1 64) (v + 1) v k := fun k hk => by
    rw [pk_un (by omega), bkI_K _ hk, pk_un (by omega)]; unfold snK; rw [if_neg (by omega)]
  have nN : ∀ k, k < 8 → upd (bkI (upd (M.1 64) 3 (nI v)) (52 + 17 * v) 8) 1 (M.1 64 (52 + 17 * v + 16)) (4 + 4 * k + 3) = snN (M.1 64) (v + 1) v k := fun k hk => by
    rw [pk_un (by omega), bkI_N _ hk, pk_un (by omega)]; unfold snN; rw [if_neg (by omega)]
  have sK : ∀ t b, t ≤ v → b < 8 → snK (upd (bkI (upd (M.1 64) 3 (nI v)) (52 + 17 * v) 8) 1 (M.1 64 (52 + 17 * v + 16))) v t b = snK (M.1 64) (v + 1) t b ∧ snN (upd (bkI (upd (M.1 64) 3 (nI v)) (52 + 17 * v) 8) 1 (M.1 64 (52 + 17 * v + 16))) v t b = snN (M.1 64) (v + 1) t b := by
    intro t b ht hb
    by_cases e : t = v
    · subst e
      refine ⟨?_, ?_⟩
      · rw [← nK b hb]; unfold snK; rw [if_pos rfl]
      · rw [← nN b hb]; unfold snN; rw [if_pos rfl]
    · have ne : ¬ t = v + 1 := by omega
      unfold snK snN
      rw [if_neg e, if_neg e, if_neg ne, if_neg ne, lo' _ (by omega) (by omega) (by omega), lo' _ (by omega) (by omega) (by omega)]
      exact ⟨rfl, rfl⟩
  have sM : ∀ t, t ≤ v → snM (upd (bkI (upd (M.1 64) 3 (nI v)) (52 + 17 * v) 8) 1 (M.1 64 (52 + 17 * v + 16))) v t = snM (M.1 64) (v + 1) t := by
    intro t ht
    unfold snM
    have ne : ¬ t = v + 1 := by omega
    rw [if_neg ne]
    by_cases e : t = v
    · subst e; rw [if_pos rfl, pk_us]
    · rw [if_neg e, lo' _ (by omega) (by omega) (by omega)]
  refine ⟨upd (bkI (upd (M.1 64) 3 (nI v)) (52 + 17 * v) 8) 1 (M.1 64 (52 + 17 * v + 16)), lo', pk_us, now3, nK, nN, sK, sM, ?_⟩
  · intro A e64
    have hb := x8_bk (M := A) (g := upd (M.1 64) 3 (nI v)) (u := v) (by omega) 8 0 fu (by omega) (by omega)
    rw [bkI_0, pk_un (by omega)] at hb
    have e : (17 : Int32) * nI v = nI (17 * v) := pk_mul 17 v
    have e2 : (52 : Int32) + nI (17 * v) = nI (52 + 17 * v) := nI_add 52 _
    have e3 : nI (v + 1) - (1 : Int32) = nI v := by rw [← nI_1]; exact Int32.add_sub_cancel _ _
    have e4 : (rI A 64 (upd (M.1 64) 3 (nI v))).1 64 3 = nI v := by rw [rI_eq, pk_us]
    unfold f_X8_undo
    rw [e64, h3, if_neg (fun q => by have := (v_eq 0 0 (by omega)).mp q; omega), e3]
    show b_X8_undo_39 ((52 : Int32) + ((17 : Int32) * ((rI A 64 (upd (A.1 64) 3 (nI v))).1 64 3))) fu (0 : Int32) (rI A 64 (upd (A.1 64) 3 (nI v))) = _
    rw [e64, e4, e, e2]
    exact hb
theorem e_undo {M : Mem} (h : Inv M) : Same f_X7_undo f_X8_undo M := by
  obtain ⟨⟨B, m, N, u, a1, a2, a3, a4, a5, a6, a7, a8, a9⟩, h2, h3, h4, h5, h6⟩ := id h
  have hB8 := a1.1
  have hu8 := a1.2.2.2
  have hf := fu_big
  by_cases hu0 : u = 0
  · subst hu0
    refine s_no (v := -3) h ?_ ?_
    · unfold f_X7_undo; rw [a5.1, if_neg (by decide)]; rfl
    · unfold f_X8_undo
      rw [show (mN7 M).1 64 3 = nI 0 from a5.2, if_pos (by decide)]; rfl
  obtain ⟨v, rfl⟩ : ∃ v, u = v + 1 := ⟨u - 1, by omega⟩
  obtain ⟨NW, lo', now1, now3, nK, nN, sK, sM, r8⟩ := bk (M := M) (v := v) (by omega) a5.2
  have q0 : (mI M 1 8 (nI v)).1 1 8 = nI v := rfl
  have e3 : nI (v + 1) - (1 : Int32) = nI v := by rw [← nI_1]; exact Int32.add_sub_cancel _ _
  have hck : ∀ k : Option Mem, ck (nI v) 8 k = k := ck_y (by omega) (by decide)
  have hcl : (nI v).toNatClampNeg = v := cl (by omega)
  have hpos : (0 : Int32) < nI (v + 1) := (v_gt 0 0 (by omega)).mpr (by omega)
  rcases a9 v (by omega) with ⟨q, b1, b2, b3, b4, b5⟩ | ⟨b0, kd, n, b1, b2, b3, b4, b5, b6, b7, b8, b9⟩
  · have t7 : f_X4_takeBack_1 M = some (mI (mI M 1 8 (nI v)) 1 7 (nI q)) := by
      unfold f_X4_takeBack_1
      have c1 : (mI M 1 8 (nI v)).1 12 v = -1 := b2
      have c2 : (mI M 1 8 (nI v)).1 13 v = nI q := b3
      simp only [a5.1, if_pos hpos, e3, q0, hck, hcl, c1, c2]
      rfl
    have hm : M.1 64 (52 + 17 * v + 16) = nI q := by unfold snM at b4; rw [if_neg (by omega)] at b4; exact b4
    refine ⟨nI q, mI (mI M 1 8 (nI v)) 1 7 (nI q), rI (mI (mI M 1 8 (nI v)) 1 7 (nI q)) 64 NW, ?_, ?_, ⟨B, q, N, v, ⟨a1.1, b1, a1.2.2.1, by omega⟩, ⟨a2.1, (lo' 0 (by omega) (by omega) (by omega)).trans a2.2⟩, ⟨rfl, now1.trans hm⟩, ⟨a4.1, (lo' 2 (by omega) (by omega) (by omega)).trans a4.2⟩, ⟨rfl, now3⟩, ?_, a7, ?_, ?_⟩, h2, h3, h4, h5, h6⟩
    · unfold f_X7_undo; rw [a5.1, if_pos hpos, t7]; rfl
    · rw [r8 (mI (mI M 1 8 (nI v)) 1 7 (nI q)) rfl, hm]
    · intro k hk
      obtain ⟨a, b, kd, n, d1, d2, d3, d4, d5, d6, d7, d8, d9, d10, d11, d12⟩ := a6 k hk
      refine ⟨a, b, kd, n, d1, d2, d3, d4, d5, (lo' _ (by omega) (by omega) (by omega)).trans d6, d7, (lo' _ (by omega) (by omega) (by omega)).trans d8, d9, (nK k (by omega)).trans ?_, d11, (nN k (by omega)).trans ?_⟩
      · rw [(b5 k (by omega)).1]; unfold snK; rw [if_pos rfl]; exact d10
      · rw [(b5 k (by omega)).2]; unfold snN; rw [if_pos rfl]; exact d12
    · intro k hk
      exact NT_c (a8 k hk) rfl rfl rfl rfl (fun i i1 i2 => lo' i (by omega) (by omega) (by omega)) (fun _ _ _ => rfl)
    · intro j hj
      exact UN_g (a9 j (by omega)) a1.1 rfl rfl (sM j (by omega)) (sM (j + 1) (by omega)) (fun b hb => sK j b (by omega) hb) (fun b hb => sK (j + 1) b (by omega) hb)
  · have nb : ¬ nI b0 = (-1 : Int32) := fun q => by
      have := (fa_eq _ _).mp q
      rw [nI_toInt (by omega), show (-1 : Int32).toInt = -1 by decide] at this
      omega
    have t7 : f_X4_takeBack_1 M = some (mI (mI (mI M 1 8 (nI v)) 4 b0 (nI kd)) 5 b0 (nI n)) := by
      unfold f_X4_takeBack_1
      have c1 : (mI M 1 8 (nI v)).1 12 v = nI b0 := b4
      have c2 : (mI M 1 8 (nI v)).1 13 v = nI (16 * kd + n) := b5
      have hck2 : ∀ k : Option Mem, ck (nI b0) 8 k = k := ck_y (by omega) (by decide)
      have hcl2 : (nI b0).toNatClampNeg = b0 := cl (by omega)
      simp only [a5.1, if_pos hpos, e3, q0, hck, hcl, c1, c2, if_neg nb, hck2, hcl2, (w16 kd b2 n b3).1, (w16 kd b2 n b3).2]
    have hm : M.1 64 (52 + 17 * v + 16) = nI m := by
      have b8' := b8
      unfold snM at b8'; rw [if_neg (by omega), if_pos rfl, a3.2] at b8'; exact b8'
    refine ⟨nI m, mI (mI (mI M 1 8 (nI v)) 4 b0 (nI kd)) 5 b0 (nI n), rI (mI (mI (mI M 1 8 (nI v)) 4 b0 (nI kd)) 5 b0 (nI n)) 64 NW, ?_, ?_, ⟨B, m, N, v, ⟨a1.1, a1.2.1, a1.2.2.1, by omega⟩, ⟨a2.1, (lo' 0 (by omega) (by omega) (by omega)).trans a2.2⟩, ⟨a3.1, now1.trans hm⟩, ⟨a4.1, (lo' 2 (by omega) (by omega) (by omega)).trans a4.2⟩, ⟨rfl, now3⟩, ?_, a7, ?_, ?_⟩, h2, h3, h4, h5, h6⟩
    · unfold f_X7_undo; rw [a5.1, if_pos hpos, t7]
      show some (M.1 1 7, _) = _
      rw [a3.1]
    · rw [r8 (mI (mI (mI M 1 8 (nI v)) 4 b0 (nI kd)) 5 b0 (nI n)) rfl, hm]
    · intro k hk
      obtain ⟨a, b, kd', n', d1, d2, d3, d4, d5, d6, d7, d8, d9, d10, d11, d12⟩ := a6 k hk
      by_cases e : k = b0
      · subst e
        exact ⟨a, b, kd, n, d1, d2, b2, b3, d5, (lo' _ (by omega) (by omega) (by omega)).trans d6, d7, (lo' _ (by omega) (by omega) (by omega)).trans d8, pk_us (f := M.1 4), (nK k (by omega)).trans b6, pk_us (f := M.1 5), (nN k (by omega)).trans b7⟩
      · refine ⟨a, b, kd', n', d1, d2, d3, d4, d5, (lo' _ (by omega) (by omega) (by omega)).trans d6, d7, (lo' _ (by omega) (by omega) (by omega)).trans d8, (pk_un (f := M.1 4) e).trans d9, (nK k (by omega)).trans ?_, (pk_un (f := M.1 5) e).trans d11, (nN k (by omega)).trans ?_⟩
        · rw [(b9 k (by omega) e).1]; unfold snK; rw [if_pos rfl]; exact d10
        · rw [(b9 k (by omega) e).2]; unfold snN; rw [if_pos rfl]; exact d12
    · intro k hk
      exact NT_c (a8 k hk) rfl rfl rfl rfl (fun i i1 i2 => lo' i (by omega) (by omega) (by omega)) (fun _ _ _ => rfl)
    · intro j hj
      exact UN_g (a9 j (by omega)) a1.1 rfl rfl (sM j (by omega)) (sM (j + 1) (by omega)) (fun b hb => sK j b (by omega) hb) (fun b hb => sK (j + 1) b (by omega) hb)
