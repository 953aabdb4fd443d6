/-! a bridge, a row, the river's first item -/
theorem DRx_55 {M7 M8 : Mem} {B m x : Nat} (F : Nat → Int32) (h : DRx M7 M8 B m x) : DRx (rI M7 55 F) M8 B m x := h
theorem DRx_63 {M7 M8 : Mem} {B m x : Nat} (G : Nat → Int32) (h : DRx M7 M8 B m x) : DRx M7 (rI M8 63 G) B m x := h
theorem DRx_80 {M7 M8 : Mem} {B m x k : Nat} (v : Int32) (h : DRx M7 M8 B m x) : DRx M7 (mI M8 80 k v) B m x := h
theorem build14 {M : Mem} {a b c d B : Nat} (hB : B < 8) (h6 : M.1 14 6 = nI B) : f_X4_build_14 (nI a) (nI b) (nI c) (nI d) M = some (nI B, mI (mI (mI (mI (mI (mI M 15 B (nI a)) 16 B (nI b)) 17 B (nI c)) 18 B (nI d)) 14 6 (nI (B + 1))) 14 8 0) := by
  have hck : ∀ k : Option (Int32 × Mem), ck (nI B) 8 k = k := ck_y hB (by decide)
  have hcl : (nI B).toNatClampNeg = B := cl (by omega)
  have hlt : nI B < (8 : Int32) := (v_lt 8 8 (by omega)).mpr hB
  have q4 : (mI (mI (mI (mI M 15 B (nI a)) 16 B (nI b)) 17 B (nI c)) 18 B (nI d)).1 14 6 = nI B := h6
  unfold f_X4_build_14
  simp only [h6, if_pos hlt, hck, hcl, q4, nI_1]
theorem lay78 {A : Mem} {a b c d B : Nat} (hB : B < 8) (b0 : A.1 78 0 = nI B) : f_X8_layBridge_78 (nI a) (nI b) (nI c) (nI d) A = some (mI (mI (mI (mI (mI A 78 (4 + 4 * B + 0) (nI a)) 78 (4 + 4 * B + 1) (nI b)) 78 (4 + 4 * B + 2) (nI c)) 78 (4 + 4 * B + 3) (nI d)) 78 0 (nI (B + 1))) := by
  unfold f_X8_layBridge_78
  have t1 : (mI A 78 (4 + 4 * B + 0) (nI a)).1 78 0 = nI B := by rw [mI_at, pk_un (by omega)]; exact b0
  have t2 : (mI (mI A 78 (4 + 4 * B + 0) (nI a)) 78 (4 + 4 * B + 1) (nI b)).1 78 0 = nI B := by rw [mI_at, pk_un (by omega)]; exact t1
  have t3 : (mI (mI (mI A 78 (4 + 4 * B + 0) (nI a)) 78 (4 + 4 * B + 1) (nI b)) 78 (4 + 4 * B + 2) (nI c)).1 78 0 = nI B := by rw [mI_at, pk_un (by omega)]; exact t2
  have t4 : (mI (mI (mI (mI A 78 (4 + 4 * B + 0) (nI a)) 78 (4 + 4 * B + 1) (nI b)) 78 (4 + 4 * B + 2) (nI c)) 78 (4 + 4 * B + 3) (nI d)).1 78 0 = nI B := by rw [mI_at, pk_un (by omega)]; exact t3
  have u0 : ∀ k : Option Mem, ck (nI (4 + 4 * B + 0)) 52 k = k := ck_y (by omega) (by decide)
  have u1 : ∀ k : Option Mem, ck (nI (4 + 4 * B + 1)) 52 k = k := ck_y (by omega) (by decide)
  have u2 : ∀ k : Option Mem, ck (nI (4 + 4 * B + 2)) 52 k = k := ck_y (by omega) (by decide)
  have u3 : ∀ k : Option Mem, ck (nI (4 + 4 * B + 3)) 52 k = k := ck_y (by omega) (by decide)
  have w0 : (nI (4 + 4 * B + 0)).toNatClampNeg = 4 + 4 * B + 0 := cl (by omega)
  have w1 : (nI (4 + 4 * B + 1)).toNatClampNeg = 4 + 4 * B + 1 := cl (by omega)
  have w2 : (nI (4 + 4 * B + 2)).toNatClampNeg = 4 + 4 * B + 2 := cl (by omega)
  have w3 : (nI (4 + 4 * B + 3)).toNatClampNeg = 4 + 4 * B + 3 := cl (by omega)
  have q0' : ((4 : Int32) + ((4 : Int32) * nI B)) + (0 : Int32) = nI (4 + 4 * B + 0) := ix4 B 0
  have q1' : ((4 : Int32) + ((4 : Int32) * nI B)) + (1 : Int32) = nI (4 + 4 * B + 1) := ix4 B 1
  have q2' : ((4 : Int32) + ((4 : Int32) * nI B)) + (2 : Int32) = nI (4 + 4 * B + 2) := ix4 B 2
  have q3' : ((4 : Int32) + ((4 : Int32) * nI B)) + (3 : Int32) = nI (4 + 4 * B + 3) := ix4 B 3
  simp only [b0, q0', q1', q2', q3', u0, u1, u2, u3, w0, w1, w2, w3, t4, nI_1]
theorem DR_build {P7 P8 : Mem} {B m a b c d : Nat} (h : DRx P7 P8 B m 9) (hB : B < 8) (ha : a < 6) (hb : b < 6) (hc : c < 6) (hd : d < 16) : DR (mI (mI (mI (mI (mI (mI P7 15 B (nI a)) 16 B (nI b)) 17 B (nI c)) 18 B (nI d)) 14 6 (nI (B + 1))) 14 8 0) (mI (mI (mI (mI (mI P8 78 (4 + 4 * B + 0) (nI a)) 78 (4 + 4 * B + 1) (nI b)) 78 (4 + 4 * B + 2) (nI c)) 78 (4 + 4 * B + 3) (nI d)) 78 0 (nI (B + 1))) := by
  obtain ⟨h1, h2, h3, h4, h5, h6, h7⟩ := h
  have F : ∀ i, i ≠ 0 → i < 4 → upd (upd (upd (upd (upd (P8.1 78) (4 + 4 * B + 0) (nI a)) (4 + 4 * B + 1) (nI b)) (4 + 4 * B + 2) (nI c)) (4 + 4 * B + 3) (nI d)) 0 (nI (B + 1)) i = P8.1 78 i := fun i e1 e3 => by rw [pk_un e1, pk_un (by omega), pk_un (by omega), pk_un (by omega), pk_un (by omega)]
  refine ⟨B + 1, m, ⟨by omega, h1.2⟩, ⟨rfl, rfl⟩, ⟨h3.1, (F 1 (by omega) (by omega)).trans h3.2⟩, ⟨h4.1, (F 2 (by omega) (by omega)).trans h4.2⟩, ⟨rfl, (F 3 (by omega) (by omega)).trans h5.2⟩, ?_, h7⟩
  intro k hk
  by_cases e : k = B
  · subst e
    refine ⟨a, b, c, d, ha, hb, hc, hd, pk_us (f := P7.1 15), ?_, pk_us (f := P7.1 16), ?_, pk_us (f := P7.1 17), ?_, pk_us (f := P7.1 18), ?_⟩
    · show upd (upd (upd (upd (upd (P8.1 78) (4 + 4 * k + 0) (nI a)) (4 + 4 * k + 1) (nI b)) (4 + 4 * k + 2) (nI c)) (4 + 4 * k + 3) (nI d)) 0 (nI (k + 1)) (4 + 4 * k) = _
      rw [pk_un (by omega), pk_un (by omega), pk_un (by omega), pk_un (by omega)]; exact pk_us (f := P8.1 78)
    · show upd (upd (upd (upd (upd (P8.1 78) (4 + 4 * k + 0) (nI a)) (4 + 4 * k + 1) (nI b)) (4 + 4 * k + 2) (nI c)) (4 + 4 * k + 3) (nI d)) 0 (nI (k + 1)) (4 + 4 * k + 1) = _
      rw [pk_un (by omega), pk_un (by omega), pk_un (by omega), pk_us]
    · show upd (upd (upd (upd (upd (P8.1 78) (4 + 4 * k + 0) (nI a)) (4 + 4 * k + 1) (nI b)) (4 + 4 * k + 2) (nI c)) (4 + 4 * k + 3) (nI d)) 0 (nI (k + 1)) (4 + 4 * k + 2) = _
      rw [pk_un (by omega), pk_un (by omega), pk_us]
    · show upd (upd (upd (upd (upd (P8.1 78) (4 + 4 * k + 0) (nI a)) (4 + 4 * k + 1) (nI b)) (4 + 4 * k + 2) (nI c)) (4 + 4 * k + 3) (nI d)) 0 (nI (k + 1)) (4 + 4 * k + 3) = _
      rw [pk_un (by omega), pk_us]
  · exact BR_c (h6 k (by omega)) (pk_un (f := P7.1 15) e) (pk_un (f := P7.1 16) e) (pk_un (f := P7.1 17) e) (pk_un (f := P7.1 18) e) (fun i i1 i2 => by show upd (upd (upd (upd (upd (P8.1 78) _ _) _ _) _ _) _ _) 0 _ i = _; rw [pk_un (by omega), pk_un (by omega), pk_un (by omega), pk_un (by omega), pk_un (by omega)])
theorem K7_bd {P7 : Mem} {B : Nat} {a b c d e : Int32} : K7 (mI (mI (mI (mI (mI (mI P7 15 B a) 16 B b) 17 B c) 18 B d) 14 6 e) 14 8 0) P7 :=
  K7_t (K7_d (by omega) _) (K7_t (K7_d (by omega) _) (K7_t (K7_d (by omega) _) (K7_t (K7_d (by omega) _) (K7_t (K7_d (by omega) _) (K7_d (by omega) _)))))
theorem K8_ly {P8 : Mem} {i j k l : Nat} {a b c d e : Int32} : K8 (mI (mI (mI (mI (mI P8 78 i a) 78 j b) 78 k c) 78 l d) 78 0 e) P8 :=
  K8_t (K8_78 _ _) (K8_t (K8_78 _ _) (K8_t (K8_78 _ _) (K8_t (K8_78 _ _) (K8_78 _ _))))
theorem it_b4 {M7 M8 P R : Mem} {tx : Nat → Int32} {N q q0 B m a b c : Nat} (hN : N ≤ 150) (hq : q ≤ N) (hqq : q0 + 1 ≤ q) (hB : B < 8) (ha : a < 6) (hb : b < 6) (hc : c < 6) (s : S7 P tx N q) (t : S8 R tx N q) (hD : DRx P R B m 9) (kP : K7 P M7) (kR : K8 R M8) (r0 : R.1 80 0 = nI a) (r1 : R.1 80 1 = nI b) (r2 : R.1 80 2 = nI c) : IT ((f_X3_takeNumber 16 (-1) P).bind fun r5 => b_X3_readBridge_14_75 (nI a) (nI b) (nI c) r5.1 r5.2) ((f_X8_takes 3 0 15 R).bind fun r5 => if r5.1 = 0 then some (0, r5.2) else (f_X8_layBridge_78 (r5.2.1 80 0) (r5.2.1 80 1) (r5.2.1 80 2) (r5.2.1 80 3) r5.2).bind fun r6 => some (1, r6)) M7 M8 tx N q0 := by
  by_cases c4 : tK tx N q = 2 ∧ tV tx N q < 16
  · have v4 := tV_lt hq c4.1
    have q4q := tK_lt hq (show ¬ tK tx N q = 0 by omega)
    have hq5 := (tEn_b (tx := tx) hq).2.1
    obtain ⟨F5, e5, s5⟩ := num7_y (u := -1) 16 16 hN hq s c4.1 c4.2 (nm1 v4)
    obtain ⟨G5, g5, t5⟩ := takes8_y 3 3 16 15 hN hq t c4.1 c4.2
    have y1 : (rI (mI R 80 3 (nI (tV tx N q))) 63 G5).1 80 0 = nI a := r0
    have y2 : (rI (mI R 80 3 (nI (tV tx N q))) 63 G5).1 80 1 = nI b := r1
    have y3 : (rI (mI R 80 3 (nI (tV tx N q))) 63 G5).1 80 2 = nI c := r2
    have y4 : (rI (mI R 80 3 (nI (tV tx N q))) 63 G5).1 80 3 = nI (tV tx N q) := rfl
    have kP5 : K7 (rI P 55 F5) M7 := K7_t (K7_55 _ _) kP
    have kR5 : K8 (rI (mI R 80 3 (nI (tV tx N q))) 63 G5) M8 := K8_t (K8_63 _ _) (K8_t (K8_80 _ _) kR)
    have hD5 : DRx (rI P 55 F5) (rI (mI R 80 3 (nI (tV tx N q))) 63 G5) B m 9 := hD
    rw [e5, g5, Option.bind_some, Option.bind_some]
    dsimp only
    rw [if_neg (show ¬ (1 : Int32) = 0 by decide), y1, y2, y3, y4, lay78 hB hD5.2.1.2, Option.bind_some]
    refine IT_stop (q := tEn tx N q) hN hq5 (by omega) (P7 := mI (mI (mI (mI (mI (mI (rI P 55 F5) 15 B (nI a)) 16 B (nI b)) 17 B (nI c)) 18 B (nI (tV tx N q))) 14 6 (nI (B + 1))) 14 8 0) ?_ ?_ (DR_build hD5 hB ha hb hc c4.2) (K7_t K7_bd kP5) (K8_t K8_ly kR5) ?_ rfl
    · exact s5
    · exact t5
    · unfold b_X3_readBridge_14_75
      rw [if_neg (nm1 v4), build14 hB hD5.2.1.1, Option.bind_some]
  · rw [num7_n 16 16 hq s (Or.inl c4), takes8_n 16 15 hq t c4, Option.bind_some, Option.bind_some]
    exact Or.inl ⟨P, R, rfl, Or.inl rfl, FA_of hN hq s t, kP, kR, s.1, t.1⟩
theorem it_b3 {M7 M8 P R : Mem} {tx : Nat → Int32} {N q q0 B m a b : Nat} (hN : N ≤ 150) (hq : q ≤ N) (hqq : q0 + 1 ≤ q) (hB : B < 8) (ha : a < 6) (hb : b < 6) (s : S7 P tx N q) (t : S8 R tx N q) (hD : DRx P R B m 9) (kP : K7 P M7) (kR : K8 R M8) (r0 : R.1 80 0 = nI a) (r1 : R.1 80 1 = nI b) : IT ((f_X3_takeNumber 6 (-1) P).bind fun r4 => b_X3_readBridge_14_56 (nI a) (nI b) r4.1 r4.2) ((f_X8_takes 2 0 5 R).bind fun r4 => if r4.1 = 0 then some (0, r4.2) else (f_X8_takes 3 0 15 r4.2).bind fun r5 => if r5.1 = 0 then some (0, r5.2) else (f_X8_layBridge_78 (r5.2.1 80 0) (r5.2.1 80 1) (r5.2.1 80 2) (r5.2.1 80 3) r5.2).bind fun r6 => some (1, r6)) M7 M8 tx N q0 := by
  by_cases c4 : tK tx N q = 2 ∧ tV tx N q < 6
  · have v4 := tV_lt hq c4.1
    have q4q := tK_lt hq (show ¬ tK tx N q = 0 by omega)
    have hq5 := (tEn_b (tx := tx) hq).2.1
    obtain ⟨F5, e5, s5⟩ := num7_y (u := -1) 6 6 hN hq s c4.1 c4.2 (nm1 v4)
    obtain ⟨G5, g5, t5⟩ := takes8_y 2 2 6 5 hN hq t c4.1 c4.2
    have hD5 : DRx (rI P 55 F5) (rI (mI R 80 2 (nI (tV tx N q))) 63 G5) B m 9 := hD
    have ih := it_b4 (M7 := M7) (M8 := M8) (q0 := q0) (B := B) (m := m) (a := a) (b := b) (c := tV tx N q) hN hq5 (by omega) hB ha hb c4.2 s5 t5 hD5 (K7_t (K7_55 _ _) kP) (K8_t (K8_63 _ _) (K8_t (K8_80 _ _) kR)) r0 r1 rfl
    rw [e5, g5, Option.bind_some, Option.bind_some]
    dsimp only
    unfold b_X3_readBridge_14_56
    rw [if_neg (show ¬ (1 : Int32) = 0 by decide), if_neg (nm1 v4)]
    exact ih
  · rw [num7_n 6 6 hq s (Or.inl c4), takes8_n 6 5 hq t c4, Option.bind_some, Option.bind_some]
    exact Or.inl ⟨P, R, rfl, Or.inl rfl, FA_of hN hq s t, kP, kR, s.1, t.1⟩
theorem it_b2 {M7 M8 P R : Mem} {tx : Nat → Int32} {N q q0 B m a : Nat} (hN : N ≤ 150) (hq : q ≤ N) (hqq : q0 + 1 ≤ q) (hB : B < 8) (ha : a < 6) (s : S7 P tx N q) (t : S8 R tx N q) (hD : DRx P R B m 9) (kP : K7 P M7) (kR : K8 R M8) (r0 : R.1 80 0 = nI a) : IT ((f_X3_takeNumber 6 (nI a) P).bind fun r3 => b_X3_readBridge_14_39 (nI a) r3.1 r3.2) (if R.1 63 23 = 2 then (if R.1 63 24 = R.1 80 0 then some (0, R) else b_X8_takesBridge_48 R) else b_X8_takesBridge_48 R) M7 M8 tx N q0 := by
  rw [r0, t.2.2.2.2.1]
  by_cases c4 : tK tx N q = 2 ∧ tV tx N q < 6 ∧ ¬ tV tx N q = a
  · have v4 := tV_lt hq c4.1
    have q4q := tK_lt hq (show ¬ tK tx N q = 0 by omega)
    have hq5 := (tEn_b (tx := tx) hq).2.1
    have hne : ¬ nI (tV tx N q) = nI a := fun k => c4.2.2 ((nI_eq (by omega) (by omega)).mp k)
    rw [if_pos ((c8_2 _).mpr c4.1), t.2.2.2.2.2 c4.1, if_neg hne]
    obtain ⟨F5, e5, s5⟩ := num7_y (u := nI a) 6 6 hN hq s c4.1 c4.2.1 hne
    obtain ⟨G5, g5, t5⟩ := takes8_y 1 1 6 5 hN hq t c4.1 c4.2.1
    have hD5 : DRx (rI P 55 F5) (rI (mI R 80 1 (nI (tV tx N q))) 63 G5) B m 9 := hD
    have ih := it_b3 (M7 := M7) (M8 := M8) (q0 := q0) (B := B) (m := m) (a := a) (b := tV tx N q) hN hq5 (by omega) hB ha c4.2.1 s5 t5 hD5 (K7_t (K7_55 _ _) kP) (K8_t (K8_63 _ _) (K8_t (K8_80 _ _) kR)) r0 rfl
    unfold b_X8_takesBridge_48
    rw [e5, g5, Option.bind_some, Option.bind_some]
    dsimp only
    unfold b_X3_readBridge_14_39
    rw [if_neg (show ¬ (1 : Int32) = 0 by decide), if_neg (nm1 v4)]
    exact ih
  · have f7 : f_X3_takeNumber 6 (nI a) P = some (-1, P) := by
      refine num7_n 6 6 hq s ?_
      by_cases k : tK tx N q = 2 ∧ tV tx N q < 6
      · exact Or.inr ⟨k.1, by rw [show tV tx N q = a by omega]⟩
      · exact Or.inl k
    rw [f7, Option.bind_some]
    refine Or.inl ⟨P, R, rfl, Or.inl ?_, FA_of hN hq s t, kP, kR, s.1, t.1⟩
    by_cases k : tK tx N q = 2 ∧ tV tx N q < 6
    · rw [if_pos ((c8_2 _).mpr k.1), t.2.2.2.2.2 k.1, if_pos (by rw [show tV tx N q = a by omega])]
    · have f8 : b_X8_takesBridge_48 R = some (0, R) := by
        unfold b_X8_takesBridge_48
        rw [takes8_n 6 5 hq t k]; rfl
      split
      · split
        · rfl
        · exact f8
      · exact f8
theorem it_bridge {M7 M8 : Mem} {tx : Nat → Int32} {N q : Nat} (hN : N ≤ 150) (hq : q ≤ N) (h7 : S7 M7 tx N q) (h8 : S8 M8 tx N q) (hd : DR M7 M8) (hK : tK tx N q = 4) : IT (f_X3_readBridge_14 M7) (f_X8_takesBridge M8) M7 M8 tx N q := by
  obtain ⟨B, m, hD⟩ := hd
  have hB8 := hD.1.1
  have h6 := hD.2.1.1
  have h0 := hD.2.1.2
  unfold f_X3_readBridge_14 f_X8_takesBridge
  rw [h6, h0]
  by_cases hB : B < 8
  · rw [if_pos ((v_lt 8 8 (by omega)).mpr hB), if_neg (fun k => by have := (v_eq 8 8 (by omega)).mp k; omega)]
    have q0 := tK_lt hq (show ¬ tK tx N q = 0 by omega)
    have hq1 := (tEn_b (tx := tx) hq).2.1
    obtain ⟨F1, e1, s1⟩ := step7 hN hq h7
    obtain ⟨G1, g1, t1⟩ := go8 hN hq h8
    have kP1 : K7 (rI M7 55 F1) M7 := K7_55 _ _
    have kR1 : K8 (rI M8 63 G1) M8 := K8_63 _ _
    have hD1 : DRx (rI M7 55 F1) (rI M8 63 G1) B m 9 := hD
    rw [e1, g1, Option.bind_some, Option.bind_some]
    by_cases c1 : tK tx N (tEn tx N q) = 2 ∧ tV tx N (tEn tx N q) < 6
    · have v1 := tV_lt hq1 c1.1
      have q1q := tK_lt hq1 (show ¬ tK tx N (tEn tx N q) = 0 by omega)
      have hq2 := (tEn_b (tx := tx) hq1).2.1
      obtain ⟨F2, e2, s2⟩ := num7_y (u := -1) 6 6 hN hq1 s1 c1.1 c1.2 (nm1 v1)
      obtain ⟨G2, g2, t2⟩ := takes8_y 0 0 6 5 hN hq1 t1 c1.1 c1.2
      have ih := it_b2 (M7 := M7) (M8 := M8) (q0 := q) (B := B) (m := m) (a := tV tx N (tEn tx N q)) hN hq2 (by omega) hB c1.2 s2 t2 hD1 (K7_t (K7_55 _ _) kP1) (K8_t (K8_63 _ _) (K8_t (K8_80 _ _) kR1)) rfl
      rw [e2, g2, Option.bind_some, Option.bind_some]
      dsimp only
      rw [if_neg (nm1 v1), if_neg (show ¬ (1 : Int32) = 0 by decide)]
      exact ih
    · rw [num7_n 6 6 hq1 s1 (Or.inl c1), takes8_n 6 5 hq1 t1 c1, Option.bind_some, Option.bind_some]
      exact Or.inl ⟨_, _, rfl, Or.inl rfl, FA_of hN hq1 s1 t1, kP1, kR1, s1.1, t1.1⟩
  · rw [if_neg (fun k => hB ((v_lt 8 8 (by omega)).mp k)), if_pos ((v_eq 8 8 (by omega)).mpr (by omega))]
    exact Or.inl ⟨M7, M8, rfl, Or.inl rfl, FA_of hN hq h7 h8, K7_r _, K8_r _, h7.1, h8.1⟩
/-! a row -/
theorem it_rowL {M7 M8 : Mem} {tx : Nat → Int32} {N q0 r B m : Nat} (hN : N ≤ 150) (hr : r < 4) : ∀ (d i q n n2 : Nat) (l : List Nat) (P7 P8 : Mem), i + d = 12 → d < n → d + 1 < n2 → q0 + 1 ≤ q → q ≤ N → okN l → l.length = i → S7 P7 tx N q → S8 P8 tx N q → DRx P7 P8 B m r → P8.2 79 r = eM l → K7 P7 M7 → K8 P8 M8 → IT (b_X3_readRow_14_23 (nI r) n (eC l) (nI i) P7) (b_X8_takesRow_30 (nI r) n2 P8) M7 M8 tx N q0
  | _, _, _, 0, _, _, _, _, _, hn, _, _, _, _, _, _, _, _, _, _, _ => absurd hn (Nat.not_lt_zero _)
  | _, _, _, _, 0, _, _, _, _, _, hn, _, _, _, _, _, _, _, _, _, _ => absurd hn (by omega)
  | d, i, q, n + 1, n2 + 1, l, P7, P8, hi, hn, hn2, hqq, hq, hl, hli, s7, s8, hD, h79, k7, k8 => by
    -- the row is laid
    have fin : ∀ R7 R8, R7 = (f_X3_takeStop (mL P7 19 r (eC l))).bind (fun r => ckB r.1 (some (r.1, r.2))) → R8 = some (1, P8) → IT R7 R8 M7 M8 tx N q0 := by
      intro R7 R8 e7 e8
      refine IT_stop (P7 := mL P7 19 r (eC l)) (P8 := P8) hN hq hqq s7 s8 ⟨B, m, ?_⟩ (K7_t (K7_dL (by omega) _) k7) k8 e7 e8
      obtain ⟨h1, h2, h3, h4, h5, h6, h7⟩ := hD
      refine ⟨h1, h2, h3, h4, h5, h6, fun x hx _ => ?_⟩
      by_cases e : x = r
      · subst e
        exact ⟨l, hl, pk_uLs (f := P7.2 19), h79⟩
      · show nr (vp_updL (P7.2 19) r (eC l) x) _
        rw [pk_uLn e]; exact h7 x hx e
    rw [b_X3_readRow_14_23.eq_2, b_X8_takesRow_30.eq_2, s8.2.2.2.2.1, s7.2.2.2.2.1]
    by_cases hK : tK tx N q = 2
    · rw [if_pos ((c8_2 _).mpr hK)]
      have ckr : ∀ k : Option (Int32 × Mem), ck (nI r) 4 k = k := ck_y hr (by decide)
      simp only [ckr]
      rw [cl (by omega), h79, x8_many hl]
      by_cases hd : d = 0
      · -- a thirteenth
        rw [if_pos ((v_ge 12 12 (by omega)).mpr (by omega)), if_pos ((v_eq 12 12 (by omega)).mpr (by omega))]
        have st : f_X3_takeStop (mL P7 19 r (eC l)) = some (0, mL P7 19 r (eC l)) := stop7_n (M := mL P7 19 r (eC l)) s7 (by omega)
        refine Or.inl ⟨mL P7 19 r (eC l), P8, ?_, Or.inl rfl, FA_of (M7 := mL P7 19 r (eC l)) hN hq s7 s8, K7_t (K7_dL (by omega) _) k7, k8, s7.1, s8.1⟩
        show (f_X3_takeStop (mL P7 19 r (eC l))).bind _ = _
        rw [st]; rfl
      · obtain ⟨d', rfl⟩ : ∃ d', d = d' + 1 := ⟨d - 1, by omega⟩
        rw [if_neg (fun k => by have := (v_ge 12 12 (by omega)).mp k; omega), if_neg (show ¬ nI l.length = (12 : Int32) from fun k => by have := (v_eq 12 12 (by omega)).mp k; omega), if_pos ((c7_eq _ 2 2 (by omega)).mpr hK)]
        by_cases c : tV tx N q < 16
        · have v := tV_lt hq hK
          have qq := tK_lt hq (show ¬ tK tx N q = 0 by omega)
          have hq2 := (tEn_b (tx := tx) hq).2.1
          obtain ⟨F2, e2, s2⟩ := num7_y (u := -1) 16 16 hN hq s7 hK c (nm1 v)
          obtain ⟨G2, g2, t2⟩ := takes8_y 1 1 16 15 hN hq s8 hK c
          rw [e2, g2, Option.bind_some, Option.bind_some]
          dsimp only
          rw [if_neg (nm1 v), if_neg (show ¬ (1 : Int32) = 0 by decide)]
          have w1 : (rI (mI P8 80 1 (nI (tV tx N q))) 63 G2).1 80 1 = nI (tV tx N q) := rfl
          have w2 : (rI (mI P8 80 1 (nI (tV tx N q))) 63 G2).2 79 r = eM l := h79
          rw [w1, w2, x1_longer hl (by omega) c, x8_behind hl (by omega) c, nI_1]
          refine it_rowL (B := B) (m := m) hN hr d' (i + 1) (tEn tx N q) n n2 (l ++ [tV tx N q]) (rI P7 55 F2) (mL (rI (mI P8 80 1 (nI (tV tx N q))) 63 G2) 79 r (eM (l ++ [tV tx N q]))) (by omega) (by omega) (by omega) (by omega) hq2 (hl.push (by omega) c) (by simp [hli]) s2 t2 ?_ (pk_uLs (f := P8.2 79)) (K7_t (K7_55 _ _) k7) (K8_t (K8_79 _ _) (K8_t (K8_63 _ _) (K8_t (K8_80 _ _) k8)))
          obtain ⟨h1, h2, h3, h4, h5, h6, h7⟩ := hD
          refine ⟨h1, h2, h3, h4, h5, h6, fun x hx hne => ?_⟩
          show nr (P7.2 19 x) (vp_updL (P8.2 79) r _ x)
          rw [pk_uLn hne]; exact h7 x hx hne
        · rw [num7_n 16 16 hq s7 (Or.inl (fun k => c k.2)), takes8_n 16 15 hq s8 (fun k => c k.2), Option.bind_some, Option.bind_some]
          exact Or.inl ⟨P7, P8, rfl, Or.inl rfl, FA_of hN hq s7 s8, k7, k8, s7.1, s8.1⟩
    · rw [if_neg (fun k => hK ((c8_2 _).mp k))]
      by_cases hd : d = 0
      · rw [if_pos ((v_ge 12 12 (by omega)).mpr (by omega)), ck_y hr (by decide), cl (by omega)]
        exact fin _ _ rfl rfl
      · rw [if_neg (fun k => by have := (v_ge 12 12 (by omega)).mp k; omega), if_neg (fun k => hK ((c7_eq _ 2 2 (by omega)).mp k)), ck_y hr (by decide), cl (by omega)]
        exact fin _ _ rfl rfl
theorem it_row {M7 M8 : Mem} {tx : Nat → Int32} {N q : Nat} (hN : N ≤ 150) (hq : q ≤ N) (h7 : S7 M7 tx N q) (h8 : S8 M8 tx N q) (hd : DR M7 M8) (hK : tK tx N q = 5) : IT (f_X3_readRow_14 M7) (f_X8_takesRow M8) M7 M8 tx N q := by
  have hf := fu_big
  obtain ⟨B, m, hD⟩ := hd
  unfold f_X3_readRow_14 f_X8_takesRow
  have q0 := tK_lt hq (show ¬ tK tx N q = 0 by omega)
  have hq1 := (tEn_b (tx := tx) hq).2.1
  obtain ⟨F1, e1, s1⟩ := step7 hN hq h7
  obtain ⟨G1, g1, t1⟩ := go8 hN hq h8
  rw [e1, g1, Option.bind_some, Option.bind_some]
  have kP1 : K7 (rI M7 55 F1) M7 := K7_55 _ _
  have kR1 : K8 (rI M8 63 G1) M8 := K8_63 _ _
  have hD1 : DRx (rI M7 55 F1) (rI M8 63 G1) B m 9 := hD
  by_cases c1 : tK tx N (tEn tx N q) = 2 ∧ tV tx N (tEn tx N q) < 4
  rotate_left
  · rw [num7_n 4 4 hq1 s1 (Or.inl c1), takes8_n 4 3 hq1 t1 c1, Option.bind_some, Option.bind_some]
    exact Or.inl ⟨_, _, rfl, Or.inl rfl, FA_of hN hq1 s1 t1, kP1, kR1, s1.1, t1.1⟩
  have v1 := tV_lt hq1 c1.1
  have q1q := tK_lt hq1 (show ¬ tK tx N (tEn tx N q) = 0 by omega)
  have hq2 := (tEn_b (tx := tx) hq1).2.1
  obtain ⟨F2, e2, s2⟩ := num7_y (u := -1) 4 4 hN hq1 s1 c1.1 c1.2 (nm1 v1)
  obtain ⟨G2, g2, t2⟩ := takes8_y 0 0 4 3 hN hq1 t1 c1.1 c1.2
  rw [e2, g2, Option.bind_some, Option.bind_some]
  dsimp only
  rw [if_neg (nm1 v1), if_neg (show ¬ (1 : Int32) = 0 by decide)]
  have r80 : (rI (mI (rI M8 63 G1) 80 0 (nI (tV tx N (tEn tx N q)))) 63 G2).1 80 0 = nI (tV tx N (tEn tx N q)) := rfl
  rw [r80, ck_y c1.2 (by decide), cl (by omega)]
  refine it_rowL (B := B) (m := m) hN c1.2 12 0 (tEn tx N (tEn tx N q)) fu fu [] _ _ (by omega) (by omega) (by omega) (by omega) hq2 okN.nil rfl s2 t2 ?_ (pk_uLs (f := M8.2 79)) (K7_t (K7_55 _ _) kP1) (K8_t (K8_79 _ _) (K8_t (K8_63 _ _) (K8_t (K8_80 _ _) kR1)))
  obtain ⟨h1, h2, h3, h4, h5, h6, h7⟩ := hD1
  refine ⟨h1, h2, h3, h4, h5, h6, fun x hx hne => ?_⟩
  show nr (M7.2 19 x) (vp_updL (M8.2 79) _ 0 x)
  rw [pk_uLn hne]; exact h7 x hx (by omega)
