/-! more of the simple calls -/
theorem br7_y {M : Mem} {B j : Nat} (hB : M.1 1 6 = nI B) (hj : j < B) (h8 : B ≤ 8) : f_X7_isBridge M (nI j) = 1 := by
  unfold f_X7_isBridge; exact bel_y hj hB (by omega)
theorem br7_n {M : Mem} {B : Nat} {x : Int32} (hB : M.1 1 6 = nI B) (hx : OUT x B) (h8 : B ≤ 8) : f_X7_isBridge M x = 0 := by
  unfold f_X7_isBridge; exact bel_n hx hB (by omega)
theorem br8_y {M : Mem} {B j : Nat} (hB : M.1 64 0 = nI B) (hj : j < B) (h8 : B ≤ 8) : f_X8_isBridge M (nI j) = 1 := by
  unfold f_X8_isBridge f_X8_bridges; rw [hB]; exact in_y hj (by omega) (w_m1 h8)
theorem br8_n {M : Mem} {B : Nat} {x : Int32} (hB : M.1 64 0 = nI B) (hx : OUT x B) (h8 : B ≤ 8) : f_X8_isBridge M x = 0 := by
  unfold f_X8_isBridge f_X8_bridges; rw [hB]; exact in_n hx (w_m1 h8)
theorem row7_y {j : Nat} (hj : j < 4) : f_X7_isRow (nI j) = 1 := bel_y hj rfl (by decide)
theorem row7_n {x : Int32} (hx : OUT x 4) : f_X7_isRow x = 0 := bel_n hx rfl (by decide)
theorem row8_y {j : Nat} (hj : j < 4) : f_X8_isRow (nI j) = 1 := in_y hj (by omega) (by decide)
theorem row8_n {x : Int32} (hx : OUT x 4) : f_X8_isRow x = 0 := in_n hx (by decide)
theorem pl8_y {j : Nat} (hj : j < 6) : f_X8_isPlace (nI j) = 1 := in_y hj (by omega) (by decide)
theorem pl8_n {x : Int32} (hx : OUT x 6) : f_X8_isPlace x = 0 := in_n hx (by decide)
theorem out_ne {x : Int32} {n : Nat} (hx : OUT x n) {j : Nat} (hj : j < n) (hj2 : j < 2 ^ 31) : ¬ x = nI j := fun e => by
  subst e
  rcases hx with q | q <;> rw [nI_toInt hj2] at q <;> omega
theorem e_count {M : Mem} (h : Inv M) (x : Int32) : Same (f_X7_count x) (f_X8_count x) M := by
  obtain ⟨⟨B, m, N, u, a1, a2, a3, a4, a5, a6, a7, a8, a9⟩, ⟨n, hn, ha, hc, hd⟩, h3, h4, h5, h6⟩ := id h
  rcases arg x 5 with ⟨j, hj, hj2, rfl⟩ | hx
  · have hin : f_X8_in (nI j).toInt64 (0 : Int64) (4 : Int64) = 1 := in_y hj hj2 (by decide)
    rcases (show j = 0 ∨ j = 1 ∨ j = 2 ∨ j = 3 ∨ j = 4 by omega) with rfl | rfl | rfl | rfl | rfl
    · exact ⟨nI B, M, M, by rw [← a2.1]; rfl, by unfold f_X8_count; rw [hin, ← a2.2]; rfl, h⟩
    · exact ⟨nI m, M, M, by rw [← a3.1]; rfl, by unfold f_X8_count; rw [hin, ← a3.2]; rfl, h⟩
    · exact ⟨nI N, M, M, by rw [← a4.1]; rfl, by unfold f_X8_count; rw [hin, ← a4.2]; rfl, h⟩
    · exact ⟨nI u, M, M, by rw [← a5.1]; rfl, by unfold f_X8_count; rw [hin, ← a5.2]; rfl, h⟩
    · exact ⟨nI n, M, M, by rw [← ha]; rfl, by unfold f_X8_count; rw [hin, ← hc]; rfl, h⟩
  · have n0 : ¬ x = 0 := out_ne hx (j := 0) (by decide) (by decide)
    have n1 : ¬ x = 1 := out_ne hx (j := 1) (by decide) (by decide)
    have n2 : ¬ x = 2 := out_ne hx (j := 2) (by decide) (by decide)
    have n3 : ¬ x = 3 := out_ne hx (j := 3) (by decide) (by decide)
    have n4 : ¬ x = 4 := out_ne hx (j := 4) (by decide) (by decide)
    exact s_bad (v := -2) h (by (first | unfold f_X7_count | unfold f_X8_count); rw [if_neg n0, if_neg n1, if_neg n2, if_neg n3, if_neg n4]; rfl) (by (first | unfold f_X7_count | unfold f_X8_count); rw [in_n hx (by decide)]; rfl)
theorem ix4 (j w : Nat) : ((4 : Int32) + ((4 : Int32) * nI j)) + nI w = nI (4 + 4 * j + w) := by
  have e : (4 : Int32) * nI j = nI (4 * j) := pk_mul 4 j
  have e2 : (4 : Int32) + nI (4 * j) = nI (4 + 4 * j) := nI_add 4 _
  rw [e, e2, nI_add]
theorem get8 {M : Mem} {j w : Nat} (hj : j < 8) (hw : w < 4) : f_X8_get M (nI j) (nI w) = some (M.1 64 (4 + 4 * j + w)) := by
  unfold f_X8_get
  rw [ix4, ck_y (by omega) (by decide), cl (by omega)]
theorem e_of {M : Mem} (h : Inv M) (x y : Int32) : Same (f_X7_of x y) (f_X8_of x y) M := by
  obtain ⟨⟨B, m, N, u, a1, a2, a3, a4, a5, a6, a7, a8, a9⟩, -⟩ := id h
  rcases arg x B with ⟨j, hj, hj2, rfl⟩ | hx
  · rcases arg y 4 with ⟨w, hw, hw2, rfl⟩ | hy
    · have hin : f_X8_in (nI w).toInt64 (0 : Int64) (3 : Int64) = 1 := in_y hw hw2 (by decide)
      obtain ⟨a, b, kd, n, -, -, -, -, b1, c1, b2, c2, b3, c3, b4, c4⟩ := a6 j hj
      have hg := get8 (M := M) (j := j) (w := w) (by omega) hw
      rcases (show w = 0 ∨ w = 1 ∨ w = 2 ∨ w = 3 by omega) with rfl | rfl | rfl | rfl
      · refine ⟨nI a, M, M, ?_, ?_, h⟩
        · (first | unfold f_X7_of | unfold f_X8_of); rw [br7_y a2.1 hj a1.1, z10, if_pos (by decide), ck_y (by omega) (by decide), cl hj2, b1]
        · (first | unfold f_X7_of | unfold f_X8_of); rw [br8_y a2.2 hj a1.1, z10, hin, z10, hg, Nat.add_zero, c1]; rfl
      · refine ⟨nI b, M, M, ?_, ?_, h⟩
        · (first | unfold f_X7_of | unfold f_X8_of); rw [br7_y a2.1 hj a1.1, z10, if_neg (by decide), if_pos (by decide), ck_y (by omega) (by decide), cl hj2, b2]
        · (first | unfold f_X7_of | unfold f_X8_of); rw [br8_y a2.2 hj a1.1, z10, hin, z10, hg, c2]; rfl
      · refine ⟨nI kd, M, M, ?_, ?_, h⟩
        · (first | unfold f_X7_of | unfold f_X8_of); rw [br7_y a2.1 hj a1.1, z10, if_neg (by decide), if_neg (by decide), if_pos (by decide), ck_y (by omega) (by decide), cl hj2, b3]
        · (first | unfold f_X7_of | unfold f_X8_of); rw [br8_y a2.2 hj a1.1, z10, hin, z10, hg, c3]; rfl
      · refine ⟨nI n, M, M, ?_, ?_, h⟩
        · (first | unfold f_X7_of | unfold f_X8_of); rw [br7_y a2.1 hj a1.1, z10, if_neg (by decide), if_neg (by decide), if_neg (by decide), if_pos (by decide), ck_y (by omega) (by decide), cl hj2, b4]
        · (first | unfold f_X7_of | unfold f_X8_of); rw [br8_y a2.2 hj a1.1, z10, hin, z10, hg, c4]; rfl
    · have n0 : ¬ y = 0 := out_ne hy (j := 0) (by decide) (by decide)
      have n1 : ¬ y = 1 := out_ne hy (j := 1) (by decide) (by decide)
      have n2 : ¬ y = 2 := out_ne hy (j := 2) (by decide) (by decide)
      have n3 : ¬ y = 3 := out_ne hy (j := 3) (by decide) (by decide)
      exact s_bad (v := -2) h (by (first | unfold f_X7_of | unfold f_X8_of); rw [br7_y a2.1 hj a1.1, z10, if_neg n0, if_neg n1, if_neg n2, if_neg n3]; rfl) (by (first | unfold f_X7_of | unfold f_X8_of); rw [br8_y (show (mB7 M).1 64 0 = nI B from a2.2) hj a1.1, z10, in_n hy (by decide)]; rfl)
  · exact s_bad (v := -2) h (by (first | unfold f_X7_of | unfold f_X8_of); rw [br7_n a2.1 hx a1.1]; rfl) (by (first | unfold f_X7_of | unfold f_X8_of); rw [br8_n (show (mB7 M).1 64 0 = nI B from a2.2) hx a1.1]; rfl)
theorem told_eq {l : List Nat} (h : okN l) {x : Int32} (hx : -1 ≤ x) : f_X7_lengthOrSyllable (eC l) x = f_X8_told (eM l) x := by
  have hl := h.1
  unfold f_X7_lengthOrSyllable f_X8_told
  rw [x1_len h, x8_many h]
  by_cases e : x = -1
  · rw [if_pos e, if_pos e]
  rw [if_neg e, if_neg e]
  by_cases e2 : nI l.length ≤ x
  · rw [if_pos e2, if_pos e2]
  rw [if_neg e2, if_neg e2]
  have h0 : ¬ x < 0 := fun q => by
    rw [fa_lt] at q; rw [fa_le] at hx; rw [fa_eq] at e
    have a : (0 : Int32).toInt = 0 := by decide
    have b : (-1 : Int32).toInt = -1 := by decide
    omega
  obtain ⟨i, hi, rfl⟩ := nI_of h0
  have : i < l.length := by
    rcases Nat.lt_or_ge i l.length with q | q
    · exact q
    · exact absurd ((nI_leI (by omega) hi).mpr q) e2
  rw [x1_syl h (by omega), x8_syl h (by omega)]
theorem m1_le {x : Int32} : ¬ (-1 : Int32) ≤ x ↔ x < -1 := by
  rw [fa_le, fa_lt]; omega
theorem e_at {M : Mem} (h : Inv M) (x y : Int32) : Same (f_X7_at x y) (f_X8_at x y) M := by
  obtain ⟨⟨B, m, N, u, a1, a2, a3, a4, a5, a6, a7, a8, a9⟩, -⟩ := id h
  rcases arg x 4 with ⟨j, hj, hj2, rfl⟩ | hx
  · by_cases hy : (-1 : Int32) ≤ y
    · obtain ⟨l, hl, e1, e2⟩ := a7 j hj
      refine ⟨f_X8_told (eM l) y, M, M, ?_, ?_, h⟩
      · (first | unfold f_X7_at | unfold f_X8_at); rw [row7_y hj, z10, if_pos hy, ck_y hj (by decide), cl hj2, e1, told_eq hl hy]
      · (first | unfold f_X7_at | unfold f_X8_at); rw [row8_y hj, z10, if_neg (fun q => (m1_le.mpr q) hy), ck_y (by omega) (by decide), cl hj2, e2]
    · exact s_bad (v := -10) h (by (first | unfold f_X7_at | unfold f_X8_at); rw [row7_y hj, z10, if_neg hy]; rfl) (by (first | unfold f_X7_at | unfold f_X8_at); rw [row8_y hj, z10, if_pos (m1_le.mp hy)]; rfl)
  · exact s_bad (v := -10) h (by (first | unfold f_X7_at | unfold f_X8_at); rw [row7_n hx]; rfl) (by (first | unfold f_X7_at | unfold f_X8_at); rw [row8_n hx]; rfl)
theorem e_hush {M : Mem} (h : Inv M) (x : Int32) : Same (f_X7_hush x) (f_X8_hush x) M := by
  obtain ⟨⟨B, m, N, u, hr⟩, h2, h3, h4, h5, h6⟩ := id h
  have a7 := hr.2.2.2.2.2.2.1
  rcases arg x 4 with ⟨j, hj, hj2, rfl⟩ | hx
  · obtain ⟨l, hl, e1, e2⟩ := a7 j hj
    refine ⟨nI l.length, mL M 6 j 0, mL (mL M 6 j 0) 66 j 0, ?_, ?_, ⟨B, m, N, u, RV_row hr hj nr0⟩, h2, h3, h4, h5, h6⟩
    · (first | unfold f_X7_hush | unfold f_X8_hush); rw [row7_y hj, z10, ck_y hj (by decide), ck_y hj (by decide), cl hj2, e1, x1_len hl]
    · (first | unfold f_X7_hush | unfold f_X8_hush); rw [row8_y hj, z10, ck_y (by omega) (by decide), ck_y (by omega) (by decide), cl hj2]
      show some (f_X8_many (M.2 66 j), _) = _
      rw [e2, x8_many hl]
  · exact s_bad (v := -2) h (by (first | unfold f_X7_hush | unfold f_X8_hush); rw [row7_n hx]; rfl) (by (first | unfold f_X7_hush | unfold f_X8_hush); rw [row8_n hx]; rfl)
theorem e_say {M : Mem} (h : Inv M) (x y : Int32) : Same (f_X7_say x y) (f_X8_say x y) M := by
  obtain ⟨⟨B, m, N, u, hr⟩, h2, h3, h4, h5, h6⟩ := id h
  have a7 := hr.2.2.2.2.2.2.1
  rcases arg x 4 with ⟨j, hj, hj2, rfl⟩ | hx
  · rcases arg y 16 with ⟨s, hs, hs2, rfl⟩ | hy
    · have b7 : f_X7_isBelow (nI s) (16 : Int32) = 1 := bel_y hs rfl (by decide)
      have b8 : f_X8_in (nI s).toInt64 (0 : Int64) (15 : Int64) = 1 := in_y hs hs2 (by decide)
      obtain ⟨l, hl, e1, e2⟩ := a7 j hj
      have hl12 := hl.1
      by_cases hc : l.length < 12
      · have hp := hl.push hc hs
        refine ⟨nI (l ++ [s]).length, mL M 6 j (eC (l ++ [s])), mL (mL M 6 j (eC (l ++ [s]))) 66 j (eM (l ++ [s])), ?_, ?_, ⟨B, m, N, u, RV_row hr hj ⟨_, hp, rfl, rfl⟩⟩, h2, h3, h4, h5, h6⟩
        · (first | unfold f_X7_say | unfold f_X8_say); rw [row7_y hj, z10, b7, z10, ck_y hj (by decide), cl hj2, e1, x1_len hl, if_pos ((v_lt 12 12 (by omega)).mpr hc), ck_y hj (by decide), x1_longer hl hc hs, ck_y hj (by decide)]
          simp only [mL_at, pk_uLs]
          rw [x1_len hp]
        · (first | unfold f_X7_say | unfold f_X8_say); rw [row8_y hj, z10, b8, z10, ck_y (by omega) (by decide), cl hj2]
          show (if f_X8_many (M.2 66 j) = (12 : Int32) then _ else _) = _
          rw [e2, x8_many hl, if_neg (fun q => by have := (v_eq 12 12 (by omega)).mp q; omega), ck_y (by omega) (by decide), ck_y (by omega) (by decide)]
          have e3 : (mL M 6 j (eC (l ++ [s]))).2 66 j = eM l := e2
          rw [e3, x8_behind hl hc hs, ck_y (by omega) (by decide)]
          simp only [mL_at, pk_uLs]
          rw [x8_many hp]
      · refine s_full (v := -4) h ?_ ?_
        · (first | unfold f_X7_say | unfold f_X8_say); rw [row7_y hj, z10, b7, z10, ck_y hj (by decide), cl hj2, e1, x1_len hl, if_neg (fun q => hc ((v_lt 12 12 (by omega)).mp q))]; rfl
        · (first | unfold f_X7_say | unfold f_X8_say); rw [row8_y hj, z10, b8, z10, ck_y (by omega) (by decide), cl hj2]
          show (if f_X8_many (M.2 66 j) = (12 : Int32) then _ else _) = _
          rw [e2, x8_many hl, if_pos ((v_eq 12 12 (by omega)).mpr (by omega))]; rfl
    · exact s_bad (v := -2) h (by (first | unfold f_X7_say | unfold f_X8_say); rw [row7_y hj, z10, bel_n (v := 16) hy rfl (by decide)]; rfl) (by (first | unfold f_X7_say | unfold f_X8_say); rw [row8_y hj, z10, in_n hy (by decide)]; rfl)
  · exact s_bad (v := -2) h (by (first | unfold f_X7_say | unfold f_X8_say); rw [row7_n hx]; rfl) (by (first | unfold f_X7_say | unfold f_X8_say); rw [row8_n hx]; rfl)
theorem e_type {M : Mem} (h : Inv M) (x : Int32) : Same (f_X7_type x) (f_X8_type x) M := by
  obtain ⟨h1, ⟨n, hn, ha, hc, hd⟩, h3, h4, h5, h6⟩ := id h
  rcases arg x 128 with ⟨j, hj, hj2, rfl⟩ | hx
  · have b7 : f_X7_isBelow (nI j) (128 : Int32) = 1 := bel_y hj rfl (by decide)
    have b8 : f_X8_in (nI j).toInt64 (0 : Int64) (127 : Int64) = 1 := in_y hj hj2 (by decide)
    by_cases hc2 : n < 150
    · have e7 : f_X3_put (nI j) M = some (mI (mI M 56 n (nI j)) 55 0 (nI (n + 1))) := by
        unfold f_X3_put
        rw [ha, if_neg (fun q => by have := (v_ge 150 150 (by omega)).mp q; omega), ck_y hc2 (by decide), cl (by omega)]
        show some (mI (mI M 56 n (nI j)) 55 0 (M.1 55 0 + 1)) = _
        rw [ha, nI_1]
      refine ⟨nI (n + 1), mI (mI M 56 n (nI j)) 55 0 (nI (n + 1)), mI (mI (mI (mI M 56 n (nI j)) 55 0 (nI (n + 1))) 77 n (nI j)) 63 20 (nI (n + 1)), ?_, ?_, h1, ⟨n + 1, by omega, rfl, rfl, fun k hk => ?_⟩, h3, h4, h5, h6⟩
      · (first | unfold f_X7_type | unfold f_X8_type); rw [b7, z10, ha, if_pos ((v_lt 150 150 (by omega)).mpr hc2), e7]; rfl
      · (first | unfold f_X7_type | unfold f_X8_type); rw [b8, z10]
        show (if M.1 63 20 = (150 : Int32) then _ else ck (M.1 63 20) 150 _) = _
        rw [hc, if_neg (fun q => by have := (v_eq 150 150 (by omega)).mp q; omega), ck_y hc2 (by decide)]
        have e3 : (mI (mI M 56 n (nI j)) 55 0 (nI (n + 1))).1 63 20 = nI n := hc
        rw [e3, cl (by omega)]
        show some (M.1 63 20 + 1, mI (mI (mI (mI M 56 n (nI j)) 55 0 (nI (n + 1))) 77 n (nI j)) 63 20 (M.1 63 20 + 1)) = _
        rw [hc, nI_1]
      · show upd (M.1 56) n (nI j) k = upd (M.1 77) n (nI j) k
        by_cases e : k = n
        · subst e; rw [pk_us, pk_us]
        · rw [pk_un e, pk_un e]; exact hd k (by omega)
    · have e150 : n = 150 := by omega
      refine s_full (v := -4) h ?_ ?_
      · (first | unfold f_X7_type | unfold f_X8_type); rw [b7, z10, ha, if_neg (fun q => hc2 ((v_lt 150 150 (by omega)).mp q))]; rfl
      · (first | unfold f_X7_type | unfold f_X8_type); rw [b8, z10]
        show (if M.1 63 20 = (150 : Int32) then _ else _) = _
        rw [hc, if_pos ((v_eq 150 150 (by omega)).mpr e150)]; rfl
  · exact s_bad (v := -2) h (by (first | unfold f_X7_type | unfold f_X8_type); rw [bel_n (v := 128) hx rfl (by decide)]; rfl) (by (first | unfold f_X7_type | unfold f_X8_type); rw [in_n hx (by decide)]; rfl)
