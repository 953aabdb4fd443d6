/-! the reference looks at a token -/
theorem rn_c {f : Int32 → Bool} {tx ty : Nat → Int32} : ∀ (d p : Nat), (∀ k, p ≤ k → k < p + d → tx k = ty k) → rn f tx d p = rn f ty d p
  | 0, _, _ => rfl
  | d + 1, p, h => by
    unfold rn
    rw [h p (by omega) (by omega), rn_c d (p + 1) (fun k h1 h2 => h k (by omega) (by omega))]
theorem x8_L136 {M : Mem} {N s : Nat} {f : Int32 → Bool} {t : Int32} (hN : N ≤ 150) (ht : ∀ c : Int32, (if t = 1 then f_X8_isSmall c else f_X8_isFigure c) = if f c = true then 1 else 0) : ∀ (d p n : Nat) (G : Nat → Int32), G 20 = nI N → G 21 = nI s → G 22 = nI (p - s) → G 23 = t → s ≤ p → p + d = N → d + 1 < n → ∃ G2, b_X8_lookAt_136 n 1 (rI M 63 G) = b_X8_lookAt_215 (rI M 63 G2) ∧ G2 22 = nI (rn f (M.1 77) d p - s) ∧ ∀ k, k ≠ 22 → G2 k = G k
  | _, _, 0, _, _, _, _, _, _, _, hn => absurd hn (Nat.not_lt_zero _)
  | 0, p, n + 1, G, h20, h21, h22, h23, hsp, hp, _ => by
    refine ⟨G, ?_, h22, fun _ _ => rfl⟩
    rw [b_X8_lookAt_136.eq_2, if_neg (by decide)]
    show (if G 20 ≤ G 21 + G 22 then _ else _) = _
    rw [h20, h21, h22, nI_add, if_pos ((nI_leI (by omega) (by omega)).mpr (by omega))]
  | d + 1, p, n + 1, G, h20, h21, h22, h23, hsp, hp, hn => by
    rw [b_X8_lookAt_136.eq_2, if_neg (by decide)]
    have hsum : (rI M 63 G).1 63 21 + (rI M 63 G).1 63 22 = nI p := by
      show G 21 + G 22 = _
      rw [h21, h22, nI_add]; congr 1; omega
    have e20 : (rI M 63 G).1 63 20 = nI N := h20
    have e23 : (rI M 63 G).1 63 23 = t := h23
    have e77 : (rI M 63 G).1 77 p = M.1 77 p := rfl
    rw [hsum, e20, e23, if_neg (fun q => by have := (nI_leI (by omega) (by omega)).mp q; omega), ck_y (by omega) (by decide), cl (by omega), e77]
    have hcomb : ∀ k : Int32 → Mem → Option Mem, (if t = (1 : Int32) then b_X8_lookAt_193 k (f_X8_isSmall (M.1 77 p)) (rI M 63 G) else b_X8_lookAt_193 k (f_X8_isFigure (M.1 77 p)) (rI M 63 G)) = b_X8_lookAt_193 k (if f (M.1 77 p) = true then 1 else 0) (rI M 63 G) := by
      intro k
      rw [← ht (M.1 77 p)]
      split <;> rfl
    rw [hcomb]
    have e22 : (rI M 63 G).1 63 22 = nI (p - s) := h22
    unfold rn b_X8_lookAt_193 b_X8_lookAt_208
    rw [e22]
    by_cases hc : f (M.1 77 p) = true
    · rw [if_pos hc, if_pos hc, if_neg (by decide)]
      obtain ⟨G2, q1, q2, q3⟩ := x8_L136 hN ht d (p + 1) n (upd G 22 (nI (p + 1 - s))) h20 h21 rfl h23 (by omega) (by omega) (by omega)
      refine ⟨G2, ?_, q2, fun k hk => (q3 k hk).trans (pk_un hk)⟩
      rw [← q1]
      show b_X8_lookAt_136 n 1 (mI (rI M 63 G) 63 22 (nI (p - s) + 1)) = _
      rw [mI_rI, nI_1, show p - s + 1 = p + 1 - s by omega]
    · rw [if_neg hc, if_neg hc, if_pos rfl]
      obtain ⟨n1, rfl⟩ : ∃ n1, n = n1 + 1 := ⟨n - 1, by omega⟩
      refine ⟨upd G 22 (nI (p - s)), ?_, pk_us, fun k hk => pk_un hk⟩
      show b_X8_lookAt_136 (n1 + 1) 0 (mI (rI M 63 G) 63 22 (nI (p - s) + 0)) = _
      rw [b_X8_lookAt_136.eq_2, if_pos rfl, mI_rI, Int32.add_zero]
theorem x8_L274 {M : Mem} {G : Nat → Int32} {t : Int32} {L : Nat} (hL : L ≤ 150) (h23 : G 23 = t) (h22 : G 22 = nI L) : b_X8_lookAt_274 (rI M 63 G) = some (rI M 63 (upd G 23 (if t = 2 ∧ ¬ L ≤ 2 then 4 else t))) := by
  unfold b_X8_lookAt_274
  have e23 : (rI M 63 G).1 63 23 = t := h23
  have e22 : (rI M 63 G).1 63 22 = nI L := h22
  rw [e23, e22]
  by_cases h2 : t = 2
  · rw [if_pos h2]
    by_cases hl : L ≤ 2
    · rw [if_pos ((v_le 2 2 (by omega)).mpr hl), if_neg (fun q => q.2 hl)]
      show some (mI (rI M 63 G) 63 23 t) = _; rw [mI_rI]
    · rw [if_neg (fun q => hl ((v_le 2 2 (by omega)).mp q)), if_pos ⟨h2, hl⟩]
      show some (mI (rI M 63 G) 63 23 4) = _; rw [mI_rI]
  · rw [if_neg h2, if_neg (fun q => h2 q.1)]
    show some (mI (rI M 63 G) 63 23 t) = _; rw [mI_rI]
/-- not a number: no value is made -/
theorem x8_L215n {M : Mem} {G : Nat → Int32} {t : Int32} {L : Nat} (hL : L ≤ 150) (h0 : 0 < L) (h23 : G 23 = t) (h2 : ¬ t = 2) (h22 : G 22 = nI L) : b_X8_lookAt_215 (rI M 63 G) = some (rI M 63 (upd G 23 t)) := by
  have hf := fu_big
  obtain ⟨f, hfe⟩ : ∃ f, fu = f + 1 := ⟨fu - 1, by omega⟩
  unfold b_X8_lookAt_215
  have e23 : (rI M 63 G).1 63 23 = t := h23
  have e22 : (rI M 63 G).1 63 22 = nI L := h22
  rw [hfe, b_X8_lookAt_218.eq_2, e22, e23, if_neg (fun q => by have := (v_le 0 0 (by omega)).mp q; omega), if_neg (by decide), if_neg h2, x8_L274 hL h23 h22, if_neg (fun q => h2 q.1)]
theorem x8_L215y {M : Mem} {G : Nat → Int32} {s L N : Nat} {tx : Nat → Int32} (hL : s + L ≤ N) (hN : N ≤ 150) (h0 : 0 < L) (h21 : G 21 = nI s) (h23 : G 23 = 2) (h22 : G 22 = nI L) (h24 : G 24 = 0) (htx : ∀ k, k < N → M.1 77 k = tx k) (hall : ∀ i, s ≤ i → i < s + L → fFi (tx i) = true) : ∃ G2, b_X8_lookAt_215 (rI M 63 G) = some (rI M 63 G2) ∧ G2 23 = (if L ≤ 2 then 2 else 4) ∧ G2 24 = nI (if L = 1 then dg (tx s) else 10 * dg (tx s) + dg (tx (s + 1))) ∧ ∀ k, k ≠ 23 → k ≠ 24 → G2 k = G k := by
  have hf := fu_big
  obtain ⟨f, hfe⟩ : ∃ f, fu = f + 1 + 1 + 1 := ⟨fu - 3, by omega⟩
  unfold b_X8_lookAt_215
  have e21 : (rI M 63 G).1 63 21 = nI s := h21
  have e23 : (rI M 63 G).1 63 23 = 2 := h23
  have e22 : (rI M 63 G).1 63 22 = nI L := h22
  have e24 : (rI M 63 G).1 63 24 = 0 := h24
  obtain ⟨d, hd, hc, hg⟩ := fig_d (hall s (by omega) (by omega))
  have e77 : (rI M 63 G).1 77 s = nI (48 + d) := (htx s (by omega)).trans hc
  have es : nI s + (0 : Int32) = nI s := Int32.add_zero _
  rw [hfe, b_X8_lookAt_218.eq_2, e21, e22, e23, e24, if_neg (fun q => by have := (v_le 0 0 (by omega)).mp q; omega), if_neg (by decide), if_pos rfl, es, ck_y (by omega) (by decide), cl (by omega), e77, val1 d hd, mI_rI]
  have f21 : (rI M 63 (upd G 24 (nI d))).1 63 21 = nI s := h21
  have f23 : (rI M 63 (upd G 24 (nI d))).1 63 23 = 2 := h23
  have f22 : (rI M 63 (upd G 24 (nI d))).1 63 22 = nI L := h22
  have f24 : (rI M 63 (upd G 24 (nI d))).1 63 24 = nI d := rfl
  have z1 : (0 : Int32) + 1 = nI 1 := by decide
  have z2 : nI 1 + (1 : Int32) = nI 2 := by decide
  show ∃ G2, b_X8_lookAt_218 (f + 1 + 1) (0 + 1) (rI M 63 (upd G 24 (nI d))) = _ ∧ _
  rw [z1, b_X8_lookAt_218.eq_2, f22, f23, f21, f24]
  by_cases h1 : L = 1
  · rw [if_pos ((nI_leI (by omega) (by omega)).mpr (by omega)), x8_L274 (G := upd G 24 (nI d)) (L := L) (t := 2) (by omega) h23 h22, if_neg (fun q => q.2 (by omega))]
    refine ⟨_, rfl, ?_, ?_, fun k k1 k2 => (pk_un k1).trans (pk_un k2)⟩
    · rw [pk_us, if_pos (by omega)]
    · rw [pk_un (by omega), pk_us, if_pos h1, hg]
  · obtain ⟨d2, hd2, hc2, hg2⟩ := fig_d (hall (s + 1) (by omega) (by omega))
    have f77 : (rI M 63 (upd G 24 (nI d))).1 77 (s + 1) = nI (48 + d2) := (htx (s + 1) (by omega)).trans hc2
    rw [if_neg (fun q => by have := (nI_leI (by omega) (by omega)).mp q; omega), if_neg (by decide), if_pos rfl, nI_add, ck_y (by omega) (by decide), cl (by omega), f77, val2 d hd d2 hd2, mI_rI]
    show ∃ G2, b_X8_lookAt_218 (f + 1) (nI 1 + 1) (rI M 63 (upd (upd G 24 (nI d)) 24 (nI (10 * d + d2)))) = _ ∧ _
    have g22 : (rI M 63 (upd (upd G 24 (nI d)) 24 (nI (10 * d + d2)))).1 63 22 = nI L := h22
    have hend : b_X8_lookAt_218 (f + 1) (nI 2) (rI M 63 (upd (upd G 24 (nI d)) 24 (nI (10 * d + d2)))) = b_X8_lookAt_274 (rI M 63 (upd (upd G 24 (nI d)) 24 (nI (10 * d + d2)))) := by
      rw [b_X8_lookAt_218.eq_2]
      split
      · rfl
      · rw [if_pos (by decide)]
    rw [z2, hend, x8_L274 (G := upd (upd G 24 (nI d)) 24 (nI (10 * d + d2))) (L := L) (t := 2) (by omega) h23 h22]
    refine ⟨_, rfl, ?_, ?_, fun k k1 k2 => (pk_un k1).trans ((pk_un k2).trans (pk_un k2))⟩
    · rw [pk_us]
      by_cases h2 : L ≤ 2
      · rw [if_neg (fun q => q.2 h2), if_pos h2]
      · rw [if_pos ⟨rfl, h2⟩, if_neg h2]
    · rw [pk_un (by omega), pk_us, if_neg h1, hg, hg2]
theorem rn_all {f : Int32 → Bool} {tx : Nat → Int32} : ∀ (d p i : Nat), p ≤ i → i < rn f tx d p → f (tx i) = true
  | 0, p, i, h1, h2 => by unfold rn at h2; omega
  | d + 1, p, i, h1, h2 => by
    unfold rn at h2
    by_cases hc : f (tx p) = true
    · rw [if_pos hc] at h2
      by_cases e : i = p
      · subst e; exact hc
      · exact rn_all d (p + 1) i (by omega) h2
    · rw [if_neg hc] at h2; omega
theorem x8_43 {M : Mem} {N q : Nat} {tx : Nat → Int32} (hN : N ≤ 150) (hq : q ≤ N) (htx : ∀ k, k < N → M.1 77 k = tx k) {G : Nat → Int32} (h20 : G 20 = nI N) (h21 : G 21 = nI (tSt tx N q)) : ∃ G2, b_X8_lookAt_43 (rI M 63 G) = some (rI M 63 G2) ∧ (∀ k, k < 21 → G2 k = G k) ∧ T8 G2 tx N q := by
  have hf := fu_big
  have hs := tSt_b (tx := tx) hq
  have he := tEn_b (tx := tx) hq
  unfold b_X8_lookAt_43
  show ∃ G2, (if (mI (mI (mI (rI M 63 G) 63 22 0) 63 23 0) 63 24 0).1 63 21 = (mI (mI (mI (rI M 63 G) 63 22 0) 63 23 0) 63 24 0).1 63 20 then some (mI (mI (mI (rI M 63 G) 63 22 0) 63 23 0) 63 24 0) else ck ((mI (mI (mI (rI M 63 G) 63 22 0) 63 23 0) 63 24 0).1 63 21) 150 (if f_X8_isSmall ((mI (mI (mI (rI M 63 G) 63 22 0) 63 23 0) 63 24 0).1 77 ((mI (mI (mI (rI M 63 G) 63 22 0) 63 23 0) 63 24 0).1 63 21).toNatClampNeg) = 0 then (if f_X8_isFigure ((mI (mI (mI (rI M 63 G) 63 22 0) 63 23 0) 63 24 0).1 77 ((mI (mI (mI (rI M 63 G) 63 22 0) 63 23 0) 63 24 0).1 63 21).toNatClampNeg) = 0 then (if (mI (mI (mI (rI M 63 G) 63 22 0) 63 23 0) 63 24 0).1 77 ((mI (mI (mI (rI M 63 G) 63 22 0) 63 23 0) 63 24 0).1 63 21).toNatClampNeg = 59 then b_X8_lookAt_114 3 (mI (mI (mI (rI M 63 G) 63 22 0) 63 23 0) 63 24 0) else b_X8_lookAt_114 4 (mI (mI (mI (rI M 63 G) 63 22 0) 63 23 0) 63 24 0)) else b_X8_lookAt_114 2 (mI (mI (mI (rI M 63 G) 63 22 0) 63 23 0) 63 24 0)) else b_X8_lookAt_114 1 (mI (mI (mI (rI M 63 G) 63 22 0) 63 23 0) 63 24 0))) = _ ∧ _
  rw [mI_rI, mI_rI, mI_rI]
  generalize hH : upd (upd (upd G 22 0) 23 0) 24 0 = H
  have g20 : H 20 = nI N := by rw [← hH, pk_un (by omega), pk_un (by omega), pk_un (by omega)]; exact h20
  have g21 : H 21 = nI (tSt tx N q) := by rw [← hH, pk_un (by omega), pk_un (by omega), pk_un (by omega)]; exact h21
  have g22 : H 22 = 0 := by rw [← hH, pk_un (by omega), pk_un (by omega), pk_us]
  have g23 : H 23 = 0 := by rw [← hH, pk_un (by omega), pk_us]
  have g24 : H 24 = 0 := by rw [← hH, pk_us]
  have glo : ∀ k, k < 21 → H k = G k := fun k hk => by rw [← hH, pk_un (by omega), pk_un (by omega), pk_un (by omega)]
  have e21 : (rI M 63 H).1 63 21 = nI (tSt tx N q) := g21
  have e20 : (rI M 63 H).1 63 20 = nI N := g20
  rw [e21, e20]
  by_cases h1 : N ≤ tSt tx N q
  · rw [if_pos (by congr 1; omega)]
    refine ⟨H, rfl, glo, g21, ?_, ?_, fun k => ?_⟩
    · rw [g22]; unfold tEn; rw [if_pos h1, Nat.sub_self]; rfl
    · rw [g23, tK_0.mpr h1]; rfl
    · rw [tK_0.mpr h1] at k; cases k
  have e77 : (rI M 63 H).1 77 (tSt tx N q) = tx (tSt tx N q) := htx _ (by omega)
  rw [if_neg (fun t => by have := (nI_eq (by omega) (by omega)).mp t; omega), ck_y (by omega) (by decide), cl (by omega), e77, x8_let, x8_fig]
  -- a token of letters or figures goes on
  have run : ∀ (f : Int32 → Bool) (t : Int32), (∀ c : Int32, (if t = 1 then f_X8_isSmall c else f_X8_isFigure c) = if f c = true then 1 else 0) → ¬ (3 : Int32) ≤ t → f (tx (tSt tx N q)) = true → ∃ G2, b_X8_lookAt_114 t (rI M 63 H) = b_X8_lookAt_215 (rI M 63 G2) ∧ G2 22 = nI (rn f tx (N - tSt tx N q) (tSt tx N q) - tSt tx N q) ∧ G2 23 = t ∧ (∀ k, k ≠ 22 → k ≠ 23 → G2 k = H k) := by
    intro f t ht h3 hft
    unfold b_X8_lookAt_114
    show ∃ G2, (if (3 : Int32) ≤ (mI (mI (rI M 63 H) 63 23 t) 63 22 1).1 63 23 then _ else b_X8_lookAt_135 1 (mI (mI (rI M 63 H) 63 23 t) 63 22 1)) = _ ∧ _
    rw [mI_rI, mI_rI]
    have e23 : (rI M 63 (upd (upd H 23 t) 22 1)).1 63 23 = t := rfl
    rw [e23, if_neg h3]
    obtain ⟨G2, q1, q2, q3⟩ := x8_L136 (M := M) (s := tSt tx N q) hN ht (N - (tSt tx N q + 1)) (tSt tx N q + 1) fu (upd (upd H 23 t) 22 1) g20 g21 (by rw [pk_us, show tSt tx N q + 1 - tSt tx N q = 1 by omega]; rfl) rfl (by omega) (by omega) (by omega)
    refine ⟨G2, q1, ?_, (q3 23 (by omega)).trans rfl, fun k k1 k2 => (q3 k k1).trans ((pk_un k1).trans (pk_un k2))⟩
    rw [q2, rn_c (ty := tx) _ _ (fun k h1 h2 => htx k (by omega))]
    congr 2
    rw [show N - tSt tx N q = (N - (tSt tx N q + 1)) + 1 by omega]
    conv => rhs; unfold rn
    rw [if_pos hft]
  have one : ∀ t : Int32, (3 : Int32) ≤ t → ¬ t = 2 → ∃ G2, b_X8_lookAt_114 t (rI M 63 H) = some (rI M 63 G2) ∧ G2 22 = nI 1 ∧ G2 23 = t ∧ (∀ k, k ≠ 22 → k ≠ 23 → G2 k = H k) := by
    intro t h3 h2
    obtain ⟨f, hfe⟩ : ∃ f, fu = f + 1 := ⟨fu - 1, by omega⟩
    unfold b_X8_lookAt_114
    show ∃ G2, (if (3 : Int32) ≤ (mI (mI (rI M 63 H) 63 23 t) 63 22 1).1 63 23 then b_X8_lookAt_135 0 (mI (mI (rI M 63 H) 63 23 t) 63 22 1) else _) = _ ∧ _
    rw [mI_rI, mI_rI]
    have e23 : (rI M 63 (upd (upd H 23 t) 22 1)).1 63 23 = t := rfl
    rw [e23, if_pos h3]
    unfold b_X8_lookAt_135
    rw [hfe, b_X8_lookAt_136.eq_2, if_pos rfl, x8_L215n (L := 1) (by omega) (by omega) (t := t) rfl h2 rfl]
    refine ⟨_, rfl, ?_, ?_, fun k k1 k2 => (pk_un k2).trans ((pk_un k1).trans (pk_un k2))⟩
    · rw [pk_un (by omega), pk_us]; rfl
    · rw [pk_us]
  by_cases h2 : fLe (tx (tSt tx N q)) = true
  · rw [if_pos h2, if_neg (by decide)]
    have hen : tEn tx N q = rn fLe tx (N - tSt tx N q) (tSt tx N q) := by unfold tEn; rw [if_neg h1, if_pos h2]
    have hgt := he.2.2 (by omega)
    obtain ⟨G2, q1, q2, q3, q4⟩ := run fLe 1 (fun c => by rw [if_pos rfl, x8_let]) (by decide) h2
    rw [← hen] at q2
    rw [q1, x8_L215n (L := tEn tx N q - tSt tx N q) (t := 1) (by omega) (by omega) q3 (by decide) q2]
    refine ⟨_, rfl, fun k hk => ?_, ?_, ?_, ?_, fun k => ?_⟩
    · rw [pk_un (by omega), q4 k (by omega) (by omega)]; exact glo k hk
    · rw [pk_un (by omega), q4 21 (by omega) (by omega)]; exact g21
    · rw [pk_un (by omega)]; exact q2
    · rw [pk_us]
      unfold tK
      rw [if_neg h1, if_pos h2]
      split
      · rfl
      · split
        · rfl
        · split <;> rfl
    · exfalso
      unfold tK at k
      rw [if_neg h1, if_pos h2] at k
      split at k
      · cases k
      · split at k
        · cases k
        · split at k <;> cases k
  rw [if_neg h2, if_pos rfl]
  by_cases h3 : fFi (tx (tSt tx N q)) = true
  · rw [if_pos h3, if_neg (by decide)]
    have hen : tEn tx N q = rn fFi tx (N - tSt tx N q) (tSt tx N q) := by unfold tEn; rw [if_neg h1, if_neg h2, if_pos h3]
    have hgt := he.2.2 (by omega)
    obtain ⟨G2, q1, q2, q3, q4⟩ := run fFi 2 (fun c => by rw [if_neg (by decide), x8_fig]) (by decide) h3
    rw [← hen] at q2
    obtain ⟨G3, p1, p2, p3, p4⟩ := x8_L215y (M := M) (G := G2) (s := tSt tx N q) (L := tEn tx N q - tSt tx N q) (N := N) (tx := tx) (by omega) hN (by omega) ((q4 21 (by omega) (by omega)).trans g21) q3 q2 ((q4 24 (by omega) (by omega)).trans g24) htx (fun i i1 i2 => rn_all (f := fFi) (N - tSt tx N q) (tSt tx N q) i i1 (by rw [← hen]; omega))
    rw [q1, p1]
    have tk : tK tx N q = if tEn tx N q - tSt tx N q ≤ 2 then 2 else 7 := by unfold tK; rw [if_neg h1, if_neg h2, if_pos h3]
    refine ⟨G3, rfl, fun k hk => ?_, ?_, ?_, ?_, fun _ => p3⟩
    · rw [p4 k (by omega) (by omega), q4 k (by omega) (by omega)]; exact glo k hk
    · rw [p4 21 (by omega) (by omega), q4 21 (by omega) (by omega)]; exact g21
    · rw [p4 22 (by omega) (by omega)]; exact q2
    · rw [p2, tk]
      split <;> rfl
  rw [if_neg h3, if_pos rfl]
  have hen : tEn tx N q = tSt tx N q + 1 := by unfold tEn; rw [if_neg h1, if_neg h2, if_neg h3]
  have tk : tK tx N q = if tx (tSt tx N q) = 59 then 1 else 7 := by unfold tK; rw [if_neg h1, if_neg h2, if_neg h3]
  have fin : ∀ (t : Int32) (K : Nat), (3 : Int32) ≤ t → ¬ t = 2 → tK tx N q = K → K ≠ 2 → t = c8K K → ∃ G2, b_X8_lookAt_114 t (rI M 63 H) = some (rI M 63 G2) ∧ (∀ k, k < 21 → G2 k = G k) ∧ T8 G2 tx N q := by
    intro t K ht ht2 hK hK2 hc
    obtain ⟨G2, q1, q2, q3, q4⟩ := one t ht ht2
    refine ⟨G2, q1, fun k hk => ?_, ?_, ?_, ?_, fun k => ?_⟩
    · rw [q4 k (by omega) (by omega)]; exact glo k hk
    · rw [q4 21 (by omega) (by omega)]; exact g21
    · rw [q2, hen, show tSt tx N q + 1 - tSt tx N q = 1 by omega]
    · rw [q3, hK, hc]
    · rw [hK] at k; exact absurd k hK2
  by_cases h5 : tx (tSt tx N q) = 59
  · rw [if_pos h5] at tk
    rw [if_pos h5]
    exact fin 3 1 (by decide) (by decide) tk (by decide) rfl
  · rw [if_neg h5] at tk
    rw [if_neg h5]
    exact fin 4 7 (by decide) (by decide) tk (by decide) rfl
theorem x8_l5 {M : Mem} {N q0 : Nat} {tx : Nat → Int32} (hN : N ≤ 150) (hq0 : q0 ≤ N) (htx : ∀ k, k < N → M.1 77 k = tx k) : ∀ (d p n : Nat) (G : Nat → Int32), G 20 = nI N → G 21 = nI p → p + d = N → d < n → rn fBl tx d p = tSt tx N q0 → ∃ G2, b_X8_lookAt_5 n (rI M 63 G) = some (rI M 63 G2) ∧ (∀ k, k < 21 → G2 k = G k) ∧ T8 G2 tx N q0
  | _, _, 0, _, _, _, _, hn, _ => absurd hn (Nat.not_lt_zero _)
  | 0, p, n + 1, G, h0, h3, hp, _, hr => by
    rw [b_X8_lookAt_5.eq_2]
    show ∃ F2, (if G 20 ≤ G 21 then b_X8_lookAt_43 (rI M 63 G) else _) = _ ∧ _
    rw [h0, h3, if_pos ((nI_leI (by omega) (by omega)).mpr (by omega))]
    exact x8_43 hN hq0 htx h0 (by rw [h3, ← hr]; rfl)
  | d + 1, p, n + 1, G, h0, h3, hp, hn, hr => by
    rw [b_X8_lookAt_5.eq_2]
    show ∃ F2, (if G 20 ≤ G 21 then _ else ck (G 21) 150 (if M.1 77 (G 21).toNatClampNeg = 32 then b_X8_lookAt_5 n (mI (rI M 63 G) 63 21 (G 21 + 1)) else b_X8_lookAt_43 (rI M 63 G))) = _ ∧ _
    rw [h0, h3, if_neg (fun q => by have := (nI_leI (by omega) (by omega)).mp q; omega), ck_y (by omega) (by decide), cl (by omega), mI_rI, nI_1, htx p (by omega)]
    unfold rn at hr
    by_cases hc : tx p = 32
    · rw [if_pos (show fBl (tx p) = true by unfold fBl; simp [hc])] at hr
      rw [if_pos hc]
      obtain ⟨G2, e1, e2, e3⟩ := x8_l5 hN hq0 htx d (p + 1) n (upd G 21 (nI (p + 1))) h0 rfl (by omega) (by omega) hr
      exact ⟨G2, e1, fun k hk => (e2 k hk).trans (pk_un (by omega)), e3⟩
    · rw [if_neg (show ¬ fBl (tx p) = true by unfold fBl; simp [hc])] at hr
      rw [if_neg hc]
      exact x8_43 hN hq0 htx h0 (by rw [h3, hr])
theorem x8_look {M : Mem} {N q : Nat} {tx : Nat → Int32} (hN : N ≤ 150) (hq : q ≤ N) (h0 : M.1 63 20 = nI N) (htx : ∀ k, k < N → M.1 77 k = tx k) : ∃ G, f_X8_lookAt (nI q) M = some (rI M 63 G) ∧ (∀ k, k < 21 → G k = M.1 63 k) ∧ T8 G tx N q := by
  have hf := fu_big
  unfold f_X8_lookAt
  obtain ⟨G2, e1, e2, e3⟩ := x8_l5 (M := M) hN hq htx (N - q) q fu (upd (M.1 63) 21 (nI q)) h0 rfl (by omega) (by omega) rfl
  exact ⟨G2, e1, fun k hk => (e2 k hk).trans (pk_un (by omega)), e3⟩
/-! words -/
def wq (a b c d e f : Int32) (k : Nat) : Int32 := if k = 0 then a else if k = 1 then b else if k = 2 then c else if k = 3 then d else if k = 4 then e else f
theorem x8_w26 {M : Mem} {s m N : Nat} {tx : Nat → Int32} {a b c d e f : Int32} (h21 : M.1 63 21 = nI s) (hm : m ≤ 6) (hs : s + m ≤ N) (hN : N ≤ 150) (htx : ∀ k, k < N → M.1 77 k = tx k) : ∀ (j k n : Nat), k + j = m → j + 1 < n → b_X8_isWord_26 M (nI m) a b c d e f n 1 (nI k) = some (if aW (wq a b c d e f) tx s j k = true then 1 else 0)
  | _, _, 0, _, hn => absurd hn (Nat.not_lt_zero _)
  | 0, k, n + 1, hk, _ => by
    rw [b_X8_isWord_26.eq_2, if_pos ((nI_leI (by omega) (by omega)).mpr (by omega))]; rfl
  | j + 1, k, n + 1, hk, hn => by
    have ih := x8_w26 (a := a) (b := b) (c := c) (d := d) (e := e) (f := f) h21 hm hs hN htx j (k + 1) n (by omega) (by omega)
    have cmp : ∀ t0 : Int32, t0 = wq a b c d e f k → b_X8_isWord_103 (fun x8_ x9_ => b_X8_isWord_26 M (nI m) a b c d e f n x8_ x9_) M (nI m) a b c d e f (nI k) t0 (tx (s + k)) = some (if aW (wq a b c d e f) tx s (j + 1) k = true then 1 else 0) := by
      intro t0 ht0
      unfold b_X8_isWord_103 b_X8_isWord_111
      rw [aW_s, ← ht0]
      by_cases hc : tx (s + k) = t0
      · rw [if_pos hc, decide_eq_true hc, Bool.true_and, nI_1]
        exact ih
      · rw [if_neg hc, decide_eq_false hc, Bool.false_and, nI_1]
        obtain ⟨n1, rfl⟩ : ∃ n1, n = n1 + 1 := ⟨n - 1, by omega⟩
        show b_X8_isWord_26 M (nI m) a b c d e f (n1 + 1) 0 (nI (k + 1)) = _
        rw [b_X8_isWord_26.eq_2]
        split
        · rfl
        · rfl
    have e77 : M.1 77 (s + k) = tx (s + k) := htx _ (by omega)
    rw [b_X8_isWord_26.eq_2, if_neg (fun q => by have := (nI_leI (by omega) (by omega)).mp q; omega), if_neg (by decide), h21, nI_add, ck_y (by omega) (by decide), cl (by omega), e77]
    unfold wq at cmp
    by_cases k0 : k = 0
    · rw [if_pos ((v_eq 0 0 (by omega)).mpr k0)]; exact cmp _ (by rw [if_pos k0])
    rw [if_neg (fun q => k0 ((v_eq 0 0 (by omega)).mp q))]
    by_cases k1 : k = 1
    · rw [if_pos ((v_eq 1 1 (by omega)).mpr k1)]; exact cmp _ (by rw [if_neg k0, if_pos k1])
    rw [if_neg (fun q => k1 ((v_eq 1 1 (by omega)).mp q))]
    by_cases k2 : k = 2
    · rw [if_pos ((v_eq 2 2 (by omega)).mpr k2)]; exact cmp _ (by rw [if_neg k0, if_neg k1, if_pos k2])
    rw [if_neg (fun q => k2 ((v_eq 2 2 (by omega)).mp q))]
    by_cases k3 : k = 3
    · rw [if_pos ((v_eq 3 3 (by omega)).mpr k3)]; exact cmp _ (by rw [if_neg k0, if_neg k1, if_neg k2, if_pos k3])
    rw [if_neg (fun q => k3 ((v_eq 3 3 (by omega)).mp q))]
    by_cases k4 : k = 4
    · rw [if_pos ((v_eq 4 4 (by omega)).mpr k4)]; exact cmp _ (by rw [if_neg k0, if_neg k1, if_neg k2, if_neg k3, if_pos k4])
    rw [if_neg (fun q => k4 ((v_eq 4 4 (by omega)).mp q))]
    exact cmp _ (by rw [if_neg k0, if_neg k1, if_neg k2, if_neg k3, if_neg k4])
theorem aW_c {w v tx : Nat → Int32} {s : Nat} : ∀ (d k : Nat), (∀ i, i < k + d → w i = v i) → aW w tx s d k = aW v tx s d k
  | 0, _, _ => rfl
  | d + 1, k, h => by rw [aW_s, aW_s, h k (by omega), aW_c d (k + 1) (fun i hi => h i (by omega))]
theorem tK_w {tx : Nat → Int32} {n q : Nat} : c8K (tK tx n q) = 1 ↔ (¬ n ≤ tSt tx n q ∧ fLe (tx (tSt tx n q)) = true) := by
  unfold tK
  by_cases h1 : n ≤ tSt tx n q
  · rw [if_pos h1]; exact ⟨fun q => absurd q (by decide), fun q => absurd h1 q.1⟩
  · rw [if_neg h1]
    by_cases h2 : fLe (tx (tSt tx n q)) = true
    · rw [if_pos h2]
      refine ⟨fun _ => ⟨h1, h2⟩, fun _ => ?_⟩
      repeat' split
      all_goals rfl
    · rw [if_neg h2]
      refine ⟨fun k => ?_, fun k => absurd k.2 h2⟩
      exfalso
      revert k
      repeat' split
      all_goals decide
theorem x8_word {M : Mem} {N q m : Nat} {tx : Nat → Int32} {a b c d e f : Int32} {w : Nat → Int32} (hN : N ≤ 150) (hq : q ≤ N) (ht : T8 (M.1 63) tx N q) (htx : ∀ k, k < N → M.1 77 k = tx k) (hm : m ≤ 6) (hm0 : 0 < m) (hw : ∀ i, i < m → wq a b c d e f i = w i) : f_X8_isWord M (nI m) a b c d e f = some (if c8K (tK tx N q) = 1 ∧ isW w m tx (tSt tx N q) (tEn tx N q) = true then 1 else 0) := by
  have hf := fu_big
  have hs := tSt_b (tx := tx) hq
  have he := tEn_b (tx := tx) hq
  obtain ⟨t21, t22, t23, -⟩ := ht
  have zero : b_X8_isWord_21 M (nI m) a b c d e f 0 = some 0 := by
    obtain ⟨g, hfe⟩ : ∃ g, fu = g + 1 := ⟨fu - 1, by omega⟩
    unfold b_X8_isWord_21
    rw [hfe, b_X8_isWord_26.eq_2]
    split
    · rfl
    · rfl
  unfold f_X8_isWord isW
  rw [t23, t22, zero]
  by_cases h1 : c8K (tK tx N q) = 1
  · rw [if_pos h1]
    by_cases h2 : tEn tx N q - tSt tx N q = m
    · rw [if_pos (by rw [h2])]
      have := x8_w26 (M := M) (a := a) (b := b) (c := c) (d := d) (e := e) (f := f) (m := m) t21 hm (show tSt tx N q + m ≤ N by omega) hN htx m 0 fu (by omega) (by omega)
      refine this.trans ?_
      rw [decide_eq_true h2, Bool.true_and, aW_c m 0 (fun i hi => hw i (by omega))]
      simp [h1]
    · rw [if_neg (fun k => h2 ((nI_eq (by omega) (by omega)).mp k)), decide_eq_false h2, Bool.false_and]
      simp
  · rw [if_neg h1, if_neg (fun k => h1 k.1)]
theorem isW_len {w tx : Nat → Int32} {m s e : Nat} (h : isW w m tx s e = true) : e - s = m := by
  unfold isW at h
  simp only [Bool.and_eq_true, decide_eq_true_eq] at h
  exact h.1
theorem tK_word {tx : Nat → Int32} {n q : Nat} : (c8K (tK tx n q) = 1 ∧ isW wRi 5 tx (tSt tx n q) (tEn tx n q) = true ↔ tK tx n q = 3) ∧ (c8K (tK tx n q) = 1 ∧ isW wBr 6 tx (tSt tx n q) (tEn tx n q) = true ↔ tK tx n q = 4) ∧ (c8K (tK tx n q) = 1 ∧ isW wRo 3 tx (tSt tx n q) (tEn tx n q) = true ↔ tK tx n q = 5) := by
  rw [tK_w]
  unfold tK
  by_cases h1 : n ≤ tSt tx n q
  · rw [if_pos h1]; simp [h1]
  · rw [if_neg h1]
    by_cases h2 : fLe (tx (tSt tx n q)) = true
    · rw [if_pos h2]
      by_cases w0 : isW wRi 5 tx (tSt tx n q) (tEn tx n q) = true
      · have := isW_len w0
        have w1 : ¬ isW wBr 6 tx (tSt tx n q) (tEn tx n q) = true := fun k => by have := isW_len k; omega
        have w2 : ¬ isW wRo 3 tx (tSt tx n q) (tEn tx n q) = true := fun k => by have := isW_len k; omega
        rw [if_pos w0]; simp [h1, h2, w0, w1, w2]
      · by_cases w1 : isW wBr 6 tx (tSt tx n q) (tEn tx n q) = true
        · have := isW_len w1
          have w2 : ¬ isW wRo 3 tx (tSt tx n q) (tEn tx n q) = true := fun k => by have := isW_len k; omega
          rw [if_neg w0, if_pos w1]; simp [h1, h2, w0, w1, w2]
        · rw [if_neg w0, if_neg w1]
          by_cases w2 : isW wRo 3 tx (tSt tx n q) (tEn tx n q) = true
          · rw [if_pos w2]; simp [h1, h2, w0, w1, w2]
          · rw [if_neg w2]; simp [h1, h2, w0, w1, w2]
    · rw [if_neg h2]
      have hne : ∀ K : Nat, K = (if fFi (tx (tSt tx n q)) = true then if tEn tx n q - tSt tx n q ≤ 2 then 2 else 7 else if tx (tSt tx n q) = 59 then 1 else 7) → ¬ K = 3 ∧ ¬ K = 4 ∧ ¬ K = 5 := by
        intro K hK
        rw [hK]
        repeat' split
        all_goals decide
      obtain ⟨a, b, c⟩ := hne _ rfl
      exact ⟨⟨fun k => absurd k.1.2 h2, fun k => absurd k a⟩, ⟨fun k => absurd k.1.2 h2, fun k => absurd k b⟩, ⟨fun k => absurd k.1.2 h2, fun k => absurd k c⟩⟩
