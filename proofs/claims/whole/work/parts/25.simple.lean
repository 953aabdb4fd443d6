/-! the simple calls -/
theorem BR_c {fr to ki nu now fr2 to2 ki2 nu2 now2 : Nat → Int32} {k : Nat} (h : BR fr to ki nu now k) (h1 : fr2 k = fr k) (h2 : to2 k = to k) (h3 : ki2 k = ki k) (h4 : nu2 k = nu k) (h5 : ∀ i, 4 + 4 * k ≤ i → i < 8 + 4 * k → now2 i = now i) : BR fr2 to2 ki2 nu2 now2 k := by
  unfold BR
  rw [h1, h2, h3, h4, h5 _ (by omega) (by omega), h5 _ (by omega) (by omega), h5 _ (by omega) (by omega), h5 _ (by omega) (by omega)]
  exact h
theorem NT_c {bo mo now bo2 mo2 now2 : Nat → Int32} {ah be nam ah2 be2 nam2 : Nat → Int64} {k : Nat} (h : NT bo mo now ah be nam k) (h1 : bo2 k = bo k) (h2 : mo2 k = mo k) (h3 : ah2 k = ah k) (h4 : be2 k = be k) (h5 : ∀ i, 36 + 2 * k ≤ i → i < 38 + 2 * k → now2 i = now i) (h6 : ∀ i, 4 + 2 * k ≤ i → i < 6 + 2 * k → nam2 i = nam i) : NT bo2 mo2 now2 ah2 be2 nam2 k := by
  unfold NT
  rw [h1, h2, h3, h4, h5 _ (by omega) (by omega), h5 _ (by omega) (by omega), h6 _ (by omega) (by omega), h6 _ (by omega) (by omega)]
  exact h
theorem snK_c {now now2 : Nat → Int32} {u t b : Nat} (hb : b < 8) (ht : t ≤ u) (hu : u ≤ 8) (h4 : ∀ i, 4 ≤ i → i < 36 → now2 i = now i) (h52 : ∀ i, 52 ≤ i → i < 188 → now2 i = now i) : snK now2 u t b = snK now u t b ∧ snN now2 u t b = snN now u t b := by
  unfold snK snN
  by_cases e : t = u
  · rw [if_pos e, if_pos e, if_pos e, if_pos e, h4 _ (by omega) (by omega), h4 _ (by omega) (by omega)]
    exact ⟨rfl, rfl⟩
  · rw [if_neg e, if_neg e, if_neg e, if_neg e, h52 _ (by omega) (by omega), h52 _ (by omega) (by omega)]
    exact ⟨rfl, rfl⟩
theorem snM_c {now now2 : Nat → Int32} {u t : Nat} (ht : t ≤ u) (hu : u ≤ 8) (h1 : now2 1 = now 1) (h52 : ∀ i, 52 ≤ i → i < 188 → now2 i = now i) : snM now2 u t = snM now u t := by
  unfold snM
  by_cases e : t = u
  · rw [if_pos e, if_pos e, h1]
  · rw [if_neg e, if_neg e, h52 _ (by omega) (by omega)]
theorem UN_c {ub uw now ub2 uw2 now2 : Nat → Int32} {B B2 u j : Nat} (h : UN ub uw now B u j) (hj : j < u) (hu : u ≤ 8) (hB2 : B ≤ B2) (hB : B ≤ 8) (e1 : ub2 j = ub j) (e2 : uw2 j = uw j) (h1 : now2 1 = now 1) (h4 : ∀ i, 4 ≤ i → i < 36 → now2 i = now i) (h52 : ∀ i, 52 ≤ i → i < 188 → now2 i = now i) : UN ub2 uw2 now2 B2 u j := by
  have hM := fun t (ht : t ≤ u) => snM_c (now := now) (now2 := now2) ht hu h1 h52
  have hK := fun t b (ht : t ≤ u) (hb : b < 8) => snK_c (now := now) (now2 := now2) hb ht hu h4 h52
  unfold UN
  rw [e1, e2, hM j (by omega), hM (j + 1) (by omega)]
  rcases h with ⟨q, a1, a2, a3, a4, a5⟩ | ⟨b0, kd, n, a1, a2, a3, a4, a5, a6, a7, a8, a9⟩
  · refine Or.inl ⟨q, a1, a2, a3, a4, fun b hb => ?_⟩
    rw [(hK j b (by omega) hb).1, (hK j b (by omega) hb).2, (hK (j + 1) b (by omega) hb).1, (hK (j + 1) b (by omega) hb).2]
    exact a5 b hb
  · refine Or.inr ⟨b0, kd, n, by omega, a2, a3, a4, a5, ?_, ?_, a8, fun b hb hne => ?_⟩
    · rw [(hK j b0 (by omega) (by omega)).1]; exact a6
    · rw [(hK j b0 (by omega) (by omega)).2]; exact a7
    · rw [(hK j b (by omega) hb).1, (hK j b (by omega) hb).2, (hK (j + 1) b (by omega) hb).1, (hK (j + 1) b (by omega) hb).2]
      exact a9 b hb hne
theorem uL_s {f : Nat → Int64} {k : Nat} {x : Int64} : vp_updL f k x k = x := pk_uLs
/-- a row of the four is told anew -/
theorem RV_row {B m N u : Nat} {ob fr to ki nu : Nat → Int32} {ro : Nat → Int64} {no bo mo : Nat → Int32} {ah be : Nat → Int64} {ub uw now : Nat → Int32} {nam : Nat → Int64} (h : RVn B m N u ob fr to ki nu ro no bo mo ah be ub uw now nam) {r : Nat} (hr : r < 4) {x y : Int64} (hxy : nr x y) : RVn B m N u ob fr to ki nu (vp_updL ro r x) no bo mo ah be ub uw now (vp_updL nam r y) := by
  obtain ⟨h1, h2, h3, h4, h5, h6, h7, h8, h9⟩ := h
  refine ⟨h1, h2, h3, h4, h5, h6, fun q hq => ?_, fun k hk => ?_, h9⟩
  · by_cases e : q = r
    · subst e; rw [pk_uLs, pk_uLs]; exact hxy
    · rw [pk_uLn e, pk_uLn e]; exact h7 q hq
  · exact NT_c (h8 k hk) rfl rfl rfl rfl (fun _ _ _ => rfl) (fun i _ _ => pk_uLn (by omega))
theorem e_clear {M : Mem} (h : Inv M) : Same f_X7_clear f_X8_clear M := by
  obtain ⟨h1, ⟨n, hn, ha, hc, hd⟩, h3, h4, h5, h6⟩ := h
  refine ⟨M.1 55 0, mI M 55 0 0, mI (mI M 55 0 0) 63 20 0, rfl, ?_, h1, ⟨0, by decide, rfl, rfl, fun k hk => absurd hk (by omega)⟩, h3, h4, h5, h6⟩
  show some (M.1 63 20, _) = some (M.1 55 0, _)
  rw [ha, hc]
theorem e_forget {M : Mem} (h : Inv M) : Same f_X7_forget f_X8_forget M := by
  obtain ⟨⟨B, m, N, u, a1, a2, a3, a4, a5, a6, a7, a8, a9⟩, h2, h3, h4, h5, h6⟩ := h
  refine ⟨M.1 7 4, mI M 7 4 0, mI (mI M 7 4 0) 64 2 0, rfl, ?_, ⟨B, m, 0, u, ⟨a1.1, a1.2.1, by decide, a1.2.2.2⟩, a2, a3, ⟨rfl, rfl⟩, a5, ?_, a7, fun k hk => absurd hk (by omega), ?_⟩, h2, h3, h4, h5, h6⟩
  · show some (M.1 64 2, _) = some (M.1 7 4, _)
    rw [a4.1, a4.2]
  · intro k hk
    exact BR_c (a6 k hk) rfl rfl rfl rfl (fun i h1 h2 => pk_un (f := M.1 64) (by omega))
  · intro j hj
    exact UN_c (a9 j hj) hj a1.2.2.2 (Nat.le_refl _) a1.1 rfl rfl rfl (fun i h1 h2 => pk_un (f := M.1 64) (by omega)) (fun i h1 h2 => pk_un (f := M.1 64) (by omega))
theorem e_part {M : Mem} (h : Inv M) (x : Int32) : Same (f_X7_part x) (f_X8_part x) M := by
  obtain ⟨h1, h2, h3, h4, h5, h6⟩ := id h
  unfold f_X7_part f_X8_part
  by_cases e0 : x = 0
  · subst e0
    exact ⟨M.2 60 0, M, M, rfl, by rw [h5.1]; rfl, h⟩
  by_cases e1 : x = 1
  · subst e1
    exact ⟨M.2 60 1, M, M, rfl, by rw [h5.2]; rfl, h⟩
  exact s_bad (v := (-2 : Int32).toInt64) h (by rw [if_neg e0, if_neg e1]; rfl) (by first | (rw [if_neg e0, if_neg e1]; rfl))
theorem e_status {M : Mem} (h : Inv M) (x : Int32) : Same (f_X7_status x) (f_X8_status x) M := by
  obtain ⟨h1, h2, h3, h4, h5, h6, h7, h8⟩ := id h
  unfold f_X7_status f_X8_status
  rcases arg x 3 with ⟨j, hj, hj2, rfl⟩ | hx
  · have hin : f_X8_in (nI j).toInt64 (0 : Int64) (2 : Int64) = 1 := in_y hj hj2 (by decide)
    rcases (show j = 0 ∨ j = 1 ∨ j = 2 by omega) with rfl | rfl | rfl
    · exact ⟨M.1 0 9, M, M, rfl, by rw [hin, h6]; rfl, h⟩
    · exact ⟨M.1 0 10, M, M, rfl, by rw [hin, h7]; rfl, h⟩
    · exact ⟨M.1 0 11, M, M, rfl, by rw [hin, h8]; rfl, h⟩
  · have n0 : ¬ x = 0 := fun e => by subst e; rcases hx with q | q <;> revert q <;> decide
    have n1 : ¬ x = 1 := fun e => by subst e; rcases hx with q | q <;> revert q <;> decide
    have n2 : ¬ x = 2 := fun e => by subst e; rcases hx with q | q <;> revert q <;> decide
    exact s_bad (v := -1) h (by rw [if_neg n0, if_neg n1, if_neg n2]; rfl) (by rw [in_n hx (by decide)]; rfl)
