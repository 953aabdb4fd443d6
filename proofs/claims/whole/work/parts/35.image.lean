/-! image, from -/
theorem RV_cp {ob fr to ki nu : Nat → Int32} {ro : Nat → Int64} {no bo mo : Nat → Int32} {ah be : Nat → Int64} {ub uw now : Nat → Int32} {nam : Nat → Int64} {ob2 fr2 to2 ki2 nu2 : Nat → Int32} {ro2 : Nat → Int64} {no2 bo2 mo2 : Nat → Int32} {ah2 be2 : Nat → Int64} {ub2 uw2 now2 : Nat → Int32} {nam2 : Nat → Int64} (h : RV ob fr to ki nu ro no bo mo ah be ub uw now nam)
  (o6 : ob2 6 = ob 6) (o7 : ob2 7 = ob 7) (o8 : ob2 8 = ob 8) (n4 : no2 4 = no 4) (e1 : ∀ k, k < 8 → fr2 k = fr k) (e2 : ∀ k, k < 8 → to2 k = to k) (e3 : ∀ k, k < 8 → ki2 k = ki k) (e4 : ∀ k, k < 8 → nu2 k = nu k) (e5 : ∀ k, k < 4 → ro2 k = ro k) (e6 : ∀ k, k < 8 → bo2 k = bo k) (e7 : ∀ k, k < 8 → mo2 k = mo k) (e8 : ∀ k, k < 8 → ah2 k = ah k) (e9 : ∀ k, k < 8 → be2 k = be k) (e10 : ∀ k, k < 8 → ub2 k = ub k) (e11 : ∀ k, k < 8 → uw2 k = uw k) (en : ∀ t, t < 188 → now2 t = now t) (em : ∀ t, t < 20 → nam2 t = nam t) : RV ob2 fr2 to2 ki2 nu2 ro2 no2 bo2 mo2 ah2 be2 ub2 uw2 now2 nam2 := by
  obtain ⟨B, m, N, u, a1, a2, a3, a4, a5, a6, a7, a8, a9⟩ := h
  have hB := a1.1
  have hN := a1.2.2.1
  have hu := a1.2.2.2
  refine ⟨B, m, N, u, a1, ⟨o6.trans a2.1, (en 0 (by omega)).trans a2.2⟩, ⟨o7.trans a3.1, (en 1 (by omega)).trans a3.2⟩, ⟨n4.trans a4.1, (en 2 (by omega)).trans a4.2⟩, ⟨o8.trans a5.1, (en 3 (by omega)).trans a5.2⟩, fun k hk => ?_, fun r hr => ?_, fun k hk => ?_, fun j hj => ?_⟩
  · exact BR_c (a6 k hk) (e1 k (by omega)) (e2 k (by omega)) (e3 k (by omega)) (e4 k (by omega)) (fun i i1 i2 => en i (by omega))
  · rw [e5 r hr, em r (by omega)]; exact a7 r hr
  · exact NT_c (a8 k hk) (e6 k (by omega)) (e7 k (by omega)) (e8 k (by omega)) (e9 k (by omega)) (fun i i1 i2 => en i (by omega)) (fun i i1 i2 => em i (by omega))
  · exact UN_c (a9 j hj) hj hu (Nat.le_refl _) hB (e10 j (by omega)) (e11 j (by omega)) (en 1 (by omega)) (fun i i1 i2 => en i (by omega)) (fun i i1 i2 => en i (by omega))
theorem cy_s (f g : Nat → Int32) (sp dp c : Nat) : upd (va_cpy f g sp dp c) (dp + c) (f (sp + c)) = va_cpy f g sp dp (c + 1) := by
  funext t
  by_cases e : t = dp + c
  · subst e; rw [pk_us, pk_cpy_in (by omega) (by omega)]; exact congrArg f (by omega)
  · rw [pk_un e]
    by_cases e2 : dp ≤ t ∧ t < dp + c
    · rw [pk_cpy_in (by omega) (by omega), pk_cpy_in (by omega) (by omega)]
    · rw [pk_cpy_out (by omega), pk_cpy_out (by omega)]
theorem cyL_s (f g : Nat → Int64) (sp dp c : Nat) : vp_updL (va_cpy f g sp dp c) (dp + c) (f (sp + c)) = va_cpy f g sp dp (c + 1) := by
  funext t
  by_cases e : t = dp + c
  · subst e; rw [pk_uLs, pk_cpy_in (by omega) (by omega)]; exact congrArg f (by omega)
  · rw [pk_uLn e]
    by_cases e2 : dp ≤ t ∧ t < dp + c
    · rw [pk_cpy_in (by omega) (by omega), pk_cpy_in (by omega) (by omega)]
    · rw [pk_cpy_out (by omega), pk_cpy_out (by omega)]
theorem cy_0 {α : Type} (f g : Nat → α) (sp dp : Nat) : va_cpy f g sp dp 0 = g := by funext t; rw [pk_cpy_out (by omega)]
theorem x8_im2 {M : Mem} {i : Nat} (hi : i < 2) (g : Nat → Int64) : ∀ (d c n : Nat), c + d = 20 → d < n → b_X8_image_52 (nI i) n (nI c) (rL M 67 (va_cpy (M.2 66) g 0 (20 * i) c)) = some (1, mI (rL M 67 (va_cpy (M.2 66) g 0 (20 * i) 20)) 68 i 1)
  | _, _, 0, _, hn => absurd hn (Nat.not_lt_zero _)
  | 0, c, n + 1, hc, _ => by
    rw [b_X8_image_52.eq_2, if_pos ((v_ge 20 20 (by omega)).mpr (by omega)), ck_y hi (by decide), cl (by omega), show c = 20 by omega]
    rfl
  | d + 1, c, n + 1, hc, hn => by
    have ih := x8_im2 (M := M) hi g d (c + 1) n (by omega) (by omega)
    have e : (20 : Int32) * nI i = nI (20 * i) := pk_mul 20 i
    have e66 : (rL M 67 (va_cpy (M.2 66) g 0 (20 * i) c)).2 66 c = M.2 66 (0 + c) := by rw [Nat.zero_add]; rfl
    rw [b_X8_image_52.eq_2, if_neg (fun q => by have := (v_ge 20 20 (by omega)).mp q; omega), e, nI_add, ck_y (by omega) (by decide), ck_y (by omega) (by decide), cl (by omega), cl (by omega), e66, mL_rL, cyL_s, nI_1]
    exact ih
theorem x8_im1 {M : Mem} {i : Nat} (hi : i < 2) (g : Nat → Int32) : ∀ (d c n : Nat), c + d = 188 → d < n → b_X8_image_19 (nI i) n (nI c) (rI M 65 (va_cpy (M.1 64) g 0 (188 * i) c)) = b_X8_image_50 (nI i) (rI M 65 (va_cpy (M.1 64) g 0 (188 * i) 188))
  | _, _, 0, _, hn => absurd hn (Nat.not_lt_zero _)
  | 0, c, n + 1, hc, _ => by
    rw [b_X8_image_19.eq_2, if_pos ((v_ge 188 188 (by omega)).mpr (by omega)), show c = 188 by omega]
  | d + 1, c, n + 1, hc, hn => by
    have ih := x8_im1 (M := M) hi g d (c + 1) n (by omega) (by omega)
    have e : (188 : Int32) * nI i = nI (188 * i) := pk_mul 188 i
    have e66 : (rI M 65 (va_cpy (M.1 64) g 0 (188 * i) c)).1 64 c = M.1 64 (0 + c) := by rw [Nat.zero_add]; rfl
    rw [b_X8_image_19.eq_2, if_neg (fun q => by have := (v_ge 188 188 (by omega)).mp q; omega), e, nI_add, ck_y (by omega) (by decide), ck_y (by omega) (by decide), cl (by omega), cl (by omega), e66, mI_rI, cy_s, nI_1]
    exact ih
theorem x8_im {M : Mem} {i : Nat} (hi : i < 2) : f_X8_image (nI i) M = some (1, mI (rL (rI M 65 (va_cpy (M.1 64) (M.1 65) 0 (188 * i) 188)) 67 (va_cpy (M.2 66) (M.2 67) 0 (20 * i) 20)) 68 i 1) := by
  have hf := fu_big
  have m1 : f_X8_in (nI i).toInt64 (0 : Int64) (1 : Int64) = 1 := in_y hi (by omega) (by decide)
  have h1 := x8_im1 (M := M) hi (M.1 65) 188 0 fu (by omega) (by omega)
  rw [cy_0, rI_self] at h1
  have h2 := x8_im2 (M := rI M 65 (va_cpy (M.1 64) (M.1 65) 0 (188 * i) 188)) hi (M.2 67) 20 0 fu (by omega) (by omega)
  have e67 : rL (rI M 65 (va_cpy (M.1 64) (M.1 65) 0 (188 * i) 188)) 67 (M.2 67) = rI M 65 (va_cpy (M.1 64) (M.1 65) 0 (188 * i) 188) := rL_self (rI M 65 _) 67
  rw [cy_0, e67] at h2
  unfold f_X8_image
  rw [m1, z10]
  exact h1.trans h2
theorem x8_fr2 {M : Mem} {i : Nat} (hi : i < 2) (g : Nat → Int64) : ∀ (d c n : Nat), c + d = 20 → d < n → b_X8_from_66 (nI i) n (nI c) (rL M 66 (va_cpy (M.2 67) g (20 * i) 0 c)) = some (1, rL M 66 (va_cpy (M.2 67) g (20 * i) 0 20))
  | _, _, 0, _, hn => absurd hn (Nat.not_lt_zero _)
  | 0, c, n + 1, hc, _ => by
    rw [b_X8_from_66.eq_2, if_pos ((v_ge 20 20 (by omega)).mpr (by omega)), show c = 20 by omega]
  | d + 1, c, n + 1, hc, hn => by
    have ih := x8_fr2 (M := M) hi g d (c + 1) n (by omega) (by omega)
    have e : (20 : Int32) * nI i = nI (20 * i) := pk_mul 20 i
    have e66 : (rL M 66 (va_cpy (M.2 67) g (20 * i) 0 c)).2 67 (20 * i + c) = M.2 67 (20 * i + c) := rfl
    have s := cyL_s (M.2 67) g (20 * i) 0 c
    rw [Nat.zero_add] at s
    rw [b_X8_from_66.eq_2, if_neg (fun q => by have := (v_ge 20 20 (by omega)).mp q; omega), e, nI_add, ck_y (by omega) (by decide), ck_y (by omega) (by decide), cl (by omega), cl (by omega), e66, mL_rL, s, nI_1]
    exact ih
theorem x8_fr1 {M : Mem} {i : Nat} (hi : i < 2) (g : Nat → Int32) : ∀ (d c n : Nat), c + d = 188 → d < n → b_X8_from_33 (nI i) n (nI c) (rI M 64 (va_cpy (M.1 65) g (188 * i) 0 c)) = b_X8_from_64 (nI i) (rI M 64 (va_cpy (M.1 65) g (188 * i) 0 188))
  | _, _, 0, _, hn => absurd hn (Nat.not_lt_zero _)
  | 0, c, n + 1, hc, _ => by
    rw [b_X8_from_33.eq_2, if_pos ((v_ge 188 188 (by omega)).mpr (by omega)), show c = 188 by omega]
  | d + 1, c, n + 1, hc, hn => by
    have ih := x8_fr1 (M := M) hi g d (c + 1) n (by omega) (by omega)
    have e : (188 : Int32) * nI i = nI (188 * i) := pk_mul 188 i
    have e66 : (rI M 64 (va_cpy (M.1 65) g (188 * i) 0 c)).1 65 (188 * i + c) = M.1 65 (188 * i + c) := rfl
    have s := cy_s (M.1 65) g (188 * i) 0 c
    rw [Nat.zero_add] at s
    rw [b_X8_from_33.eq_2, if_neg (fun q => by have := (v_ge 188 188 (by omega)).mp q; omega), e, nI_add, ck_y (by omega) (by decide), ck_y (by omega) (by decide), cl (by omega), cl (by omega), e66, mI_rI, s, nI_1]
    exact ih
theorem x8_fr {M : Mem} {i : Nat} (hi : i < 2) (hk : ¬ M.1 68 i = 0) : f_X8_from (nI i) M = some (1, rL (rI M 64 (va_cpy (M.1 65) (M.1 64) (188 * i) 0 188)) 66 (va_cpy (M.2 67) (M.2 66) (20 * i) 0 20)) := by
  have hf := fu_big
  have m1 : f_X8_in (nI i).toInt64 (0 : Int64) (1 : Int64) = 1 := in_y hi (by omega) (by decide)
  have h1 := x8_fr1 (M := M) hi (M.1 64) 188 0 fu (by omega) (by omega)
  rw [cy_0, rI_self] at h1
  have h2 := x8_fr2 (M := rI M 64 (va_cpy (M.1 65) (M.1 64) (188 * i) 0 188)) hi (M.2 66) 20 0 fu (by omega) (by omega)
  have e67 : rL (rI M 64 (va_cpy (M.1 65) (M.1 64) (188 * i) 0 188)) 66 (M.2 66) = rI M 64 (va_cpy (M.1 65) (M.1 64) (188 * i) 0 188) := rL_self (rI M 64 _) 66
  rw [cy_0, e67] at h2
  unfold f_X8_from
  rw [m1, z10, ck_y hi (by decide), cl (by omega), if_neg hk]
  exact h1.trans h2
theorem c8 {f g : Nat → Int32} {k n : Nat} (h : k < n) : va_cpy f g 0 0 n k = f k := by rw [pk_cpy_in (by omega) (by omega)]; exact congrArg f (by omega)
theorem c8L {f g : Nat → Int64} {k n : Nat} (h : k < n) : va_cpy f g 0 0 n k = f k := by rw [pk_cpy_in (by omega) (by omega)]; exact congrArg f (by omega)
def cp_27_1 (M : Mem) : Mem :=
  let M1 := rI M 28 (va_cpy (M.1 2) (M.1 28) 0 0 8)
  let M2 := rI M1 29 (va_cpy (M1.1 3) (M1.1 29) 0 0 8)
  let M3 := rI M2 30 (va_cpy (M2.1 4) (M2.1 30) 0 0 8)
  let M4 := rI M3 31 (va_cpy (M3.1 5) (M3.1 31) 0 0 8)
  let M5 := rL M4 32 (va_cpy (M4.2 6) (M4.2 32) 0 0 4)
  let M6 := rI M5 34 (va_cpy (M5.1 8) (M5.1 34) 0 0 8)
  let M7 := rI M6 35 (va_cpy (M6.1 9) (M6.1 35) 0 0 8)
  let M8 := rL M7 36 (va_cpy (M7.2 10) (M7.2 36) 0 0 8)
  let M9 := rL M8 37 (va_cpy (M8.2 11) (M8.2 37) 0 0 8)
  let M10 := mI M9 33 4 (M9.1 7 4)
  let M11 := mI M10 27 6 (M10.1 1 6)
  let M12 := mI M11 27 7 (M11.1 1 7)
  let M13 := mI M12 27 8 (M12.1 1 8)
  let M14 := rI M13 38 (va_cpy (M13.1 12) (M13.1 38) 0 0 8)
  let M15 := rI M14 39 (va_cpy (M14.1 13) (M14.1 39) 0 0 8)
  M15
theorem cp_27_1_e (M : Mem) : f_X4_copyOf_27_1 M = some (cp_27_1 M) := rfl
def cp_40_1 (M : Mem) : Mem :=
  let M1 := rI M 41 (va_cpy (M.1 2) (M.1 41) 0 0 8)
  let M2 := rI M1 42 (va_cpy (M1.1 3) (M1.1 42) 0 0 8)
  let M3 := rI M2 43 (va_cpy (M2.1 4) (M2.1 43) 0 0 8)
  let M4 := rI M3 44 (va_cpy (M3.1 5) (M3.1 44) 0 0 8)
  let M5 := rL M4 45 (va_cpy (M4.2 6) (M4.2 45) 0 0 4)
  let M6 := rI M5 47 (va_cpy (M5.1 8) (M5.1 47) 0 0 8)
  let M7 := rI M6 48 (va_cpy (M6.1 9) (M6.1 48) 0 0 8)
  let M8 := rL M7 49 (va_cpy (M7.2 10) (M7.2 49) 0 0 8)
  let M9 := rL M8 50 (va_cpy (M8.2 11) (M8.2 50) 0 0 8)
  let M10 := mI M9 46 4 (M9.1 7 4)
  let M11 := mI M10 40 6 (M10.1 1 6)
  let M12 := mI M11 40 7 (M11.1 1 7)
  let M13 := mI M12 40 8 (M12.1 1 8)
  let M14 := rI M13 51 (va_cpy (M13.1 12) (M13.1 51) 0 0 8)
  let M15 := rI M14 52 (va_cpy (M14.1 13) (M14.1 52) 0 0 8)
  M15
theorem cp_40_1_e (M : Mem) : f_X4_copyOf_40_1 M = some (cp_40_1 M) := rfl
def cp_1_27 (M : Mem) : Mem :=
  let M1 := rI M 2 (va_cpy (M.1 28) (M.1 2) 0 0 8)
  let M2 := rI M1 3 (va_cpy (M1.1 29) (M1.1 3) 0 0 8)
  let M3 := rI M2 4 (va_cpy (M2.1 30) (M2.1 4) 0 0 8)
  let M4 := rI M3 5 (va_cpy (M3.1 31) (M3.1 5) 0 0 8)
  let M5 := rL M4 6 (va_cpy (M4.2 32) (M4.2 6) 0 0 4)
  let M6 := rI M5 8 (va_cpy (M5.1 34) (M5.1 8) 0 0 8)
  let M7 := rI M6 9 (va_cpy (M6.1 35) (M6.1 9) 0 0 8)
  let M8 := rL M7 10 (va_cpy (M7.2 36) (M7.2 10) 0 0 8)
  let M9 := rL M8 11 (va_cpy (M8.2 37) (M8.2 11) 0 0 8)
  let M10 := mI M9 7 4 (M9.1 33 4)
  let M11 := mI M10 1 6 (M10.1 27 6)
  let M12 := mI M11 1 7 (M11.1 27 7)
  let M13 := mI M12 1 8 (M12.1 27 8)
  let M14 := rI M13 12 (va_cpy (M13.1 38) (M13.1 12) 0 0 8)
  let M15 := rI M14 13 (va_cpy (M14.1 39) (M14.1 13) 0 0 8)
  M15
theorem cp_1_27_e (M : Mem) : f_X4_copyOf_1_27 M = some (cp_1_27 M) := rfl
def cp_1_40 (M : Mem) : Mem :=
  let M1 := rI M 2 (va_cpy (M.1 41) (M.1 2) 0 0 8)
  let M2 := rI M1 3 (va_cpy (M1.1 42) (M1.1 3) 0 0 8)
  let M3 := rI M2 4 (va_cpy (M2.1 43) (M2.1 4) 0 0 8)
  let M4 := rI M3 5 (va_cpy (M3.1 44) (M3.1 5) 0 0 8)
  let M5 := rL M4 6 (va_cpy (M4.2 45) (M4.2 6) 0 0 4)
  let M6 := rI M5 8 (va_cpy (M5.1 47) (M5.1 8) 0 0 8)
  let M7 := rI M6 9 (va_cpy (M6.1 48) (M6.1 9) 0 0 8)
  let M8 := rL M7 10 (va_cpy (M7.2 49) (M7.2 10) 0 0 8)
  let M9 := rL M8 11 (va_cpy (M8.2 50) (M8.2 11) 0 0 8)
  let M10 := mI M9 7 4 (M9.1 46 4)
  let M11 := mI M10 1 6 (M10.1 40 6)
  let M12 := mI M11 1 7 (M11.1 40 7)
  let M13 := mI M12 1 8 (M12.1 40 8)
  let M14 := rI M13 12 (va_cpy (M13.1 51) (M13.1 12) 0 0 8)
  let M15 := rI M14 13 (va_cpy (M14.1 52) (M14.1 13) 0 0 8)
  M15
theorem cp_1_40_e (M : Mem) : f_X4_copyOf_1_40 M = some (cp_1_40 M) := rfl
def cp_1_14 (M : Mem) : Mem :=
  let M1 := rI M 2 (va_cpy (M.1 15) (M.1 2) 0 0 8)
  let M2 := rI M1 3 (va_cpy (M1.1 16) (M1.1 3) 0 0 8)
  let M3 := rI M2 4 (va_cpy (M2.1 17) (M2.1 4) 0 0 8)
  let M4 := rI M3 5 (va_cpy (M3.1 18) (M3.1 5) 0 0 8)
  let M5 := rL M4 6 (va_cpy (M4.2 19) (M4.2 6) 0 0 4)
  let M6 := rI M5 8 (va_cpy (M5.1 21) (M5.1 8) 0 0 8)
  let M7 := rI M6 9 (va_cpy (M6.1 22) (M6.1 9) 0 0 8)
  let M8 := rL M7 10 (va_cpy (M7.2 23) (M7.2 10) 0 0 8)
  let M9 := rL M8 11 (va_cpy (M8.2 24) (M8.2 11) 0 0 8)
  let M10 := mI M9 7 4 (M9.1 20 4)
  let M11 := mI M10 1 6 (M10.1 14 6)
  let M12 := mI M11 1 7 (M11.1 14 7)
  let M13 := mI M12 1 8 (M12.1 14 8)
  let M14 := rI M13 12 (va_cpy (M13.1 25) (M13.1 12) 0 0 8)
  let M15 := rI M14 13 (va_cpy (M14.1 26) (M14.1 13) 0 0 8)
  M15
theorem cp_1_14_e (M : Mem) : f_X4_copyOf_1_14 M = some (cp_1_14 M) := rfl
theorem cp_27_1_rv {M : Mem} {now : Nat → Int32} {nam : Nat → Int64} (h : RV (M.1 1) (M.1 2) (M.1 3) (M.1 4) (M.1 5) (M.2 6) (M.1 7) (M.1 8) (M.1 9) (M.2 10) (M.2 11) (M.1 12) (M.1 13) now nam) {now2 : Nat → Int32} {nam2 : Nat → Int64} (en : ∀ t, t < 188 → now2 t = now t) (em : ∀ t, t < 20 → nam2 t = nam t) : RV ((cp_27_1 M).1 27) ((cp_27_1 M).1 28) ((cp_27_1 M).1 29) ((cp_27_1 M).1 30) ((cp_27_1 M).1 31) ((cp_27_1 M).2 32) ((cp_27_1 M).1 33) ((cp_27_1 M).1 34) ((cp_27_1 M).1 35) ((cp_27_1 M).2 36) ((cp_27_1 M).2 37) ((cp_27_1 M).1 38) ((cp_27_1 M).1 39) now2 nam2 :=
  RV_cp h rfl rfl rfl rfl (fun _ hk => c8 hk) (fun _ hk => c8 hk) (fun _ hk => c8 hk) (fun _ hk => c8 hk) (fun _ hk => c8L hk) (fun _ hk => c8 hk) (fun _ hk => c8 hk) (fun _ hk => c8L hk) (fun _ hk => c8L hk) (fun _ hk => c8 hk) (fun _ hk => c8 hk) en em
theorem cp_40_1_rv {M : Mem} {now : Nat → Int32} {nam : Nat → Int64} (h : RV (M.1 1) (M.1 2) (M.1 3) (M.1 4) (M.1 5) (M.2 6) (M.1 7) (M.1 8) (M.1 9) (M.2 10) (M.2 11) (M.1 12) (M.1 13) now nam) {now2 : Nat → Int32} {nam2 : Nat → Int64} (en : ∀ t, t < 188 → now2 t = now t) (em : ∀ t, t < 20 → nam2 t = nam t) : RV ((cp_40_1 M).1 40) ((cp_40_1 M).1 41) ((cp_40_1 M).1 42) ((cp_40_1 M).1 43) ((cp_40_1 M).1 44) ((cp_40_1 M).2 45) ((cp_40_1 M).1 46) ((cp_40_1 M).1 47) ((cp_40_1 M).1 48) ((cp_40_1 M).2 49) ((cp_40_1 M).2 50) ((cp_40_1 M).1 51) ((cp_40_1 M).1 52) now2 nam2 :=
  RV_cp h rfl rfl rfl rfl (fun _ hk => c8 hk) (fun _ hk => c8 hk) (fun _ hk => c8 hk) (fun _ hk => c8 hk) (fun _ hk => c8L hk) (fun _ hk => c8 hk) (fun _ hk => c8 hk) (fun _ hk => c8L hk) (fun _ hk => c8L hk) (fun _ hk => c8 hk) (fun _ hk => c8 hk) en em
theorem cp_1_27_rv {M : Mem} {now : Nat → Int32} {nam : Nat → Int64} (h : RV (M.1 27) (M.1 28) (M.1 29) (M.1 30) (M.1 31) (M.2 32) (M.1 33) (M.1 34) (M.1 35) (M.2 36) (M.2 37) (M.1 38) (M.1 39) now nam) {now2 : Nat → Int32} {nam2 : Nat → Int64} (en : ∀ t, t < 188 → now2 t = now t) (em : ∀ t, t < 20 → nam2 t = nam t) : RV ((cp_1_27 M).1 1) ((cp_1_27 M).1 2) ((cp_1_27 M).1 3) ((cp_1_27 M).1 4) ((cp_1_27 M).1 5) ((cp_1_27 M).2 6) ((cp_1_27 M).1 7) ((cp_1_27 M).1 8) ((cp_1_27 M).1 9) ((cp_1_27 M).2 10) ((cp_1_27 M).2 11) ((cp_1_27 M).1 12) ((cp_1_27 M).1 13) now2 nam2 :=
  RV_cp h rfl rfl rfl rfl (fun _ hk => c8 hk) (fun _ hk => c8 hk) (fun _ hk => c8 hk) (fun _ hk => c8 hk) (fun _ hk => c8L hk) (fun _ hk => c8 hk) (fun _ hk => c8 hk) (fun _ hk => c8L hk) (fun _ hk => c8L hk) (fun _ hk => c8 hk) (fun _ hk => c8 hk) en em
theorem cp_1_40_rv {M : Mem} {now : Nat → Int32} {nam : Nat → Int64} (h : RV (M.1 40) (M.1 41) (M.1 42) (M.1 43) (M.1 44) (M.2 45) (M.1 46) (M.1 47) (M.1 48) (M.2 49) (M.2 50) (M.1 51) (M.1 52) now nam) {now2 : Nat → Int32} {nam2 : Nat → Int64} (en : ∀ t, t < 188 → now2 t = now t) (em : ∀ t, t < 20 → nam2 t = nam t) : RV ((cp_1_40 M).1 1) ((cp_1_40 M).1 2) ((cp_1_40 M).1 3) ((cp_1_40 M).1 4) ((cp_1_40 M).1 5) ((cp_1_40 M).2 6) ((cp_1_40 M).1 7) ((cp_1_40 M).1 8) ((cp_1_40 M).1 9) ((cp_1_40 M).2 10) ((cp_1_40 M).2 11) ((cp_1_40 M).1 12) ((cp_1_40 M).1 13) now2 nam2 :=
  RV_cp h rfl rfl rfl rfl (fun _ hk => c8 hk) (fun _ hk => c8 hk) (fun _ hk => c8 hk) (fun _ hk => c8 hk) (fun _ hk => c8L hk) (fun _ hk => c8 hk) (fun _ hk => c8 hk) (fun _ hk => c8L hk) (fun _ hk => c8L hk) (fun _ hk => c8 hk) (fun _ hk => c8 hk) en em
theorem cp_1_14_rv {M : Mem} {now : Nat → Int32} {nam : Nat → Int64} (h : RV (M.1 14) (M.1 15) (M.1 16) (M.1 17) (M.1 18) (M.2 19) (M.1 20) (M.1 21) (M.1 22) (M.2 23) (M.2 24) (M.1 25) (M.1 26) now nam) {now2 : Nat → Int32} {nam2 : Nat → Int64} (en : ∀ t, t < 188 → now2 t = now t) (em : ∀ t, t < 20 → nam2 t = nam t) : RV ((cp_1_14 M).1 1) ((cp_1_14 M).1 2) ((cp_1_14 M).1 3) ((cp_1_14 M).1 4) ((cp_1_14 M).1 5) ((cp_1_14 M).2 6) ((cp_1_14 M).1 7) ((cp_1_14 M).1 8) ((cp_1_14 M).1 9) ((cp_1_14 M).2 10) ((cp_1_14 M).2 11) ((cp_1_14 M).1 12) ((cp_1_14 M).1 13) now2 nam2 :=
  RV_cp h rfl rfl rfl rfl (fun _ hk => c8 hk) (fun _ hk => c8 hk) (fun _ hk => c8 hk) (fun _ hk => c8 hk) (fun _ hk => c8L hk) (fun _ hk => c8 hk) (fun _ hk => c8 hk) (fun _ hk => c8L hk) (fun _ hk => c8L hk) (fun _ hk => c8 hk) (fun _ hk => c8 hk) en em
theorem e_image {M : Mem} (h : Inv M) (x : Int32) : Same (f_X7_image x) (f_X8_image x) M := by
  obtain ⟨h1, h2, h3, h4, h5, h6⟩ := id h
  rcases arg x 2 with ⟨i, hi, hi2, rfl⟩ | hx
  · have k1 : f_X7_isBelow (nI i) (2 : Int32) = 1 := bel_y hi rfl (by decide)
    rcases (show i = 0 ∨ i = 1 by omega) with rfl | rfl
    · refine ⟨1, mI (cp_27_1 M) 54 0 1, _, ?_, x8_im (M := mI (cp_27_1 M) 54 0 1) (i := 0) (by decide), h1, h2, Or.inr ⟨rfl, rfl, ?_⟩, ?_, h5, h6⟩
      · unfold f_X7_image; rw [k1, z10, ck_y (by decide) (by decide), if_pos (by decide), cp_27_1_e]; rfl
      · exact cp_27_1_rv h1 (fun t ht => c8 ht) (fun t ht => c8L ht)
      · rcases h4 with ⟨q1, q2⟩ | ⟨q1, q2, q3⟩
        · exact Or.inl ⟨q1, q2⟩
        · refine Or.inr ⟨q1, q2, ?_⟩
          exact RV_cp q3 rfl rfl rfl rfl (fun _ _ => rfl) (fun _ _ => rfl) (fun _ _ => rfl) (fun _ _ => rfl) (fun _ _ => rfl) (fun _ _ => rfl) (fun _ _ => rfl) (fun _ _ => rfl) (fun _ _ => rfl) (fun _ _ => rfl) (fun _ _ => rfl) (fun t ht => pk_cpy_out (f := M.1 64) (g := M.1 65) (j := 188 + t) (by omega)) (fun t ht => pk_cpy_out (f := M.2 66) (g := M.2 67) (j := 20 + t) (by omega))
    · refine ⟨1, mI (cp_40_1 M) 54 1 1, _, ?_, x8_im (M := mI (cp_40_1 M) 54 1 1) (i := 1) (by decide), h1, h2, ?_, Or.inr ⟨rfl, rfl, ?_⟩, h5, h6⟩
      · unfold f_X7_image; rw [k1, z10, ck_y (by decide) (by decide), if_neg (by decide), cp_40_1_e]; rfl
      · rcases h3 with ⟨q1, q2⟩ | ⟨q1, q2, q3⟩
        · exact Or.inl ⟨q1, q2⟩
        · refine Or.inr ⟨q1, q2, ?_⟩
          exact RV_cp q3 rfl rfl rfl rfl (fun _ _ => rfl) (fun _ _ => rfl) (fun _ _ => rfl) (fun _ _ => rfl) (fun _ _ => rfl) (fun _ _ => rfl) (fun _ _ => rfl) (fun _ _ => rfl) (fun _ _ => rfl) (fun _ _ => rfl) (fun _ _ => rfl) (fun t ht => pk_cpy_out (f := M.1 64) (g := M.1 65) (j := t) (by omega)) (fun t ht => pk_cpy_out (f := M.2 66) (g := M.2 67) (j := t) (by omega))
      · refine cp_40_1_rv h1 (fun t ht => ?_) (fun t ht => ?_)
        · exact (pk_cpy_in (f := M.1 64) (g := M.1 65) (j := 188 + t) (by omega) (by omega)).trans (congrArg _ (by omega))
        · exact (pk_cpy_in (f := M.2 66) (g := M.2 67) (j := 20 + t) (by omega) (by omega)).trans (congrArg _ (by omega))
  · exact s_bad (v := -2) h (by unfold f_X7_image; rw [bel_n (v := 2) hx rfl (by decide)]; rfl) (by unfold f_X8_image; rw [in_n hx (by decide)]; rfl)
theorem e_from {M : Mem} (h : Inv M) (x : Int32) : Same (f_X7_from x) (f_X8_from x) M := by
  obtain ⟨h1, h2, h3, h4, h5, h6⟩ := id h
  rcases arg x 2 with ⟨i, hi, hi2, rfl⟩ | hx
  · have k1 : f_X7_isBelow (nI i) (2 : Int32) = 1 := bel_y hi rfl (by decide)
    have m1 : f_X8_in (nI i).toInt64 (0 : Int64) (1 : Int64) = 1 := in_y hi (by omega) (by decide)
    have hno : M.1 54 i = 0 → M.1 68 i = 0 → Same (f_X7_from (nI i)) (f_X8_from (nI i)) M := by
      intro q1 q2
      refine s_no (v := -3) h ?_ ?_
      · unfold f_X7_from; rw [k1, z10, ck_y hi (by decide), cl hi2, q1, z00]; rfl
      · unfold f_X8_from; rw [m1, z10, ck_y hi (by decide), cl hi2, show (mN7 M).1 68 i = 0 from q2, z00]; rfl
    rcases (show i = 0 ∨ i = 1 by omega) with rfl | rfl
    · rcases id h3 with ⟨q1, q2⟩ | ⟨q1, q2, q3⟩
      · exact hno q1 q2
      · refine ⟨1, cp_1_27 M, _, ?_, x8_fr (M := cp_1_27 M) (i := 0) (by decide) (by rw [show (cp_1_27 M).1 68 0 = M.1 68 0 from rfl, q2]; decide), ?_, h2, h3, h4, h5, h6⟩
        · unfold f_X7_from; rw [k1, z10, ck_y hi (by decide), cl hi2, q1, z10, ck_y hi (by decide), if_pos (by decide), cp_1_27_e]; rfl
        · exact cp_1_27_rv q3 (fun t ht => c8 ht) (fun t ht => c8L ht)
    · rcases id h4 with ⟨q1, q2⟩ | ⟨q1, q2, q3⟩
      · exact hno q1 q2
      · refine ⟨1, cp_1_40 M, _, ?_, x8_fr (M := cp_1_40 M) (i := 1) (by decide) (by rw [show (cp_1_40 M).1 68 1 = M.1 68 1 from rfl, q2]; decide), ?_, h2, h3, h4, h5, h6⟩
        · unfold f_X7_from; rw [k1, z10, ck_y hi (by decide), cl hi2, q1, z10, ck_y hi (by decide), if_neg (by decide), cp_1_40_e]; rfl
        · exact cp_1_40_rv q3 (fun t ht => (pk_cpy_in (f := M.1 65) (g := M.1 64) (j := t) (by omega) (by omega)).trans (congrArg _ (by omega))) (fun t ht => (pk_cpy_in (f := M.2 67) (g := M.2 66) (j := t) (by omega) (by omega)).trans (congrArg _ (by omega)))
  · exact s_bad (v := -2) h (by unfold f_X7_from; rw [bel_n (v := 2) hx rfl (by decide)]; rfl) (by unfold f_X8_from; rw [in_n hx (by decide)]; rfl)
