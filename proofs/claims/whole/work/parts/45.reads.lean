/-! all items -/
/-- the whole reading: both at the same fault, or both at the end with the same river -/
def RD (r7 r8 : Option (Int32 × Mem)) (M7 M8 : Mem) (N : Nat) : Prop :=
  (∃ N7 N8 s, r7 = some (-1, N7) ∧ r8 = some ((-10 : Int32) - nI s, N8) ∧ N7.1 55 3 = nI s ∧ K7 N7 M7 ∧ K8 N8 M8 ∧ N7.1 55 0 = nI N ∧ N8.1 63 20 = nI N) ∨
  (∃ N7 N8 i, i ≤ 400 ∧ r7 = some (nI i, N7) ∧ r8 = b_X8_read_66 (nI i) N8 ∧ DR N7 N8 ∧ K7 N7 M7 ∧ K8 N8 M8 ∧ N7.1 55 0 = nI N ∧ N8.1 63 20 = nI N)
theorem RD_k {r7 r8 : Option (Int32 × Mem)} {P7 P8 M7 M8 : Mem} {N : Nat} (h : RD r7 r8 P7 P8 N) (k7 : K7 P7 M7) (k8 : K8 P8 M8) : RD r7 r8 M7 M8 N := by
  rcases h with ⟨N7, N8, s, a, b, c, d, e, f, g⟩ | ⟨N7, N8, i, a, b, c, d, e, f, g⟩
  · exact Or.inl ⟨N7, N8, s, a, b, c, K7_t d k7, K8_t e k8, f, g⟩
  · exact Or.inr ⟨N7, N8, i, a, b, c, d, K7_t e k7, K8_t f k8, g⟩
theorem rd_loop {tx : Nat → Int32} {N : Nat} (hN : N ≤ 150) : ∀ (n : Nat) (n2 q i : Nat) (P7 P8 : Mem), N - q < n → N - q < n2 → q ≤ N → 2 * i ≤ q → S7 P7 tx N q → S8 P8 tx N q → DR P7 P8 → RD (b_X3_readInto_14_23 n (nI (i + 1)) (nI i) P7) (b_X8_read_26 n2 (nI (i + 1)) P8) P7 P8 N
  | 0, _, _, _, _, _, hn, _, _, _, _, _, _ => absurd hn (Nat.not_lt_zero _)
  | _, 0, _, _, _, _, _, hn, _, _, _, _, _ => absurd hn (Nat.not_lt_zero _)
  | n + 1, n2 + 1, q, i, P7, P8, hn, hn2, hq, hi, s7, s8, hD => by
    rw [b_X3_readInto_14_23.eq_2, b_X8_read_26.eq_2, s7.1, s7.2.2.2.2.1, s8.2.2.2.2.1]
    by_cases hK0 : tK tx N q = 0
    · rw [if_pos ((c8_0 _).mpr hK0)]
      refine Or.inr ⟨P7, P8, i + 1, by omega, ?_, rfl, hD, K7_r _, K8_r _, s7.1, s8.1⟩
      by_cases h1 : nI N ≤ nI i
      · rw [if_pos h1]
      · rw [if_neg h1, if_pos ((c7_eq _ 0 0 (by omega)).mpr hK0)]
    have hlt := tK_lt hq hK0
    have hqN := (tEn_b (tx := tx) hq).2.1
    rw [if_neg (fun k => hK0 ((c8_0 _).mp k)), if_neg (fun k => by have := (nI_leI (by omega) (by omega)).mp k; omega), if_neg (fun k => hK0 ((c7_eq _ 0 0 (by omega)).mp k))]
    have wBri := x8_word (M := P8) (m := 6) (a := 98) (b := 114) (c := 105) (d := 100) (e := 103) (f := 101) (w := wBr) hN hq s8.2.2 s8.2.1 (by omega) (by omega) (by decide)
    have wRow := x8_word (M := P8) (m := 3) (a := 114) (b := 111) (c := 119) (d := 0) (e := 0) (f := 0) (w := wRo) hN hq s8.2.2 s8.2.1 (by omega) (by omega) (by decide)
    have wBri' : f_X8_isWord P8 (6 : Int32) (98 : Int32) (114 : Int32) (105 : Int32) (100 : Int32) (103 : Int32) (101 : Int32) = some (if tK tx N q = 4 then 1 else 0) := by
      refine (show f_X8_isWord P8 (6 : Int32) (98 : Int32) (114 : Int32) (105 : Int32) (100 : Int32) (103 : Int32) (101 : Int32) = _ from wBri).trans ?_
      by_cases h : tK tx N q = 4
      · rw [if_pos h, if_pos (tK_word.2.1.mpr h)]
      · rw [if_neg h, if_neg (fun k => h (tK_word.2.1.mp k))]
    have wRow' : f_X8_isWord P8 (3 : Int32) (114 : Int32) (111 : Int32) (119 : Int32) (0 : Int32) (0 : Int32) (0 : Int32) = some (if tK tx N q = 5 then 1 else 0) := by
      refine (show f_X8_isWord P8 (3 : Int32) (114 : Int32) (111 : Int32) (119 : Int32) (0 : Int32) (0 : Int32) (0 : Int32) = _ from wRow).trans ?_
      by_cases h : tK tx N q = 5
      · rw [if_pos h, if_pos (tK_word.2.2.mpr h)]
      · rw [if_neg h, if_neg (fun k => h (tK_word.2.2.mp k))]
    unfold f_X8_takesItem
    rw [wBri', Option.bind_some]
    -- what follows an item
    have fin : ∀ (r7 r8 : Option (Int32 × Mem)) (R7 R8 : Option (Int32 × Mem)), IT r7 r8 P7 P8 tx N q → (∀ N7, r7 = some (0, N7) → R7 = some (-1, N7)) → (∀ N7, r7 = some (1, N7) → R7 = b_X3_readInto_14_23 n (nI (i + 1) + 1) (nI i + 1) N7) → (∀ N8, r8 = some (0, N8) → R8 = some ((-10 : Int32) - N8.1 63 21, N8)) → (∀ N8, r8 = some (1, N8) → R8 = if N8.1 63 23 = 3 then (f_X8_goBehind N8).bind (fun r7 => b_X8_read_26 n2 (nI (i + 1) + 1) r7) else some ((-10 : Int32) - N8.1 63 21, N8)) → RD R7 R8 P7 P8 N := by
      intro r7 r8 R7 R8 hIT a0 a1 b0 b1
      rcases hIT with ⟨N7, N8, e7, e8, ⟨s, hs, f7, f8⟩, k7, k8, z7, z8⟩ | ⟨N7, N8, N9, q', e7, e8, e3, eg, t7, t8, hd, hq1, hq2, k7, k8⟩
      · refine Or.inl ⟨N7, N8, s, a0 N7 e7, ?_, f7, k7, k8, z7, z8⟩
        rcases e8 with e8 | ⟨e8, e9⟩
        · rw [b0 N8 e8, f8]
        · rw [b1 N8 e8, if_neg e9, f8]
      · rw [a1 N7 e7, b1 N8 e8, if_pos e3, eg, Option.bind_some, nI_1, nI_1]
        exact RD_k (rd_loop hN n n2 q' (i + 1) N7 N9 (by omega) (by omega) hq2 (by omega) t7 t8 hd) k7 k8
    by_cases h4 : tK tx N q = 4
    · have h := it_bridge hN hq s7 s8 hD h4
      rw [if_pos ((c7_eq _ 4 4 (by omega)).mpr h4), if_pos h4, if_neg (show ¬ (1 : Int32) = 0 by decide)]
      refine fin _ _ _ _ h (fun N7 e => ?_) (fun N7 e => ?_) (fun N8 e => ?_) (fun N8 e => ?_)
      · rw [e]; rfl
      · rw [e]; rfl
      · rw [e]; rfl
      · rw [e]; rfl
    · rw [if_neg (fun k => h4 ((c7_eq _ 4 4 (by omega)).mp k)), if_neg h4, if_pos rfl, wRow', Option.bind_some]
      by_cases h5 : tK tx N q = 5
      · have h := it_row hN hq s7 s8 hD h5
        rw [if_pos ((c7_eq _ 5 5 (by omega)).mpr h5), if_pos h5, if_neg (show ¬ (1 : Int32) = 0 by decide)]
        refine fin _ _ _ _ h (fun N7 e => ?_) (fun N7 e => ?_) (fun N8 e => ?_) (fun N8 e => ?_)
        · rw [e]; rfl
        · rw [e]; rfl
        · rw [e]; rfl
        · rw [e]; rfl
      · rw [if_neg (fun k => h5 ((c7_eq _ 5 5 (by omega)).mp k)), if_neg h5, if_pos rfl]
        have hst := tSt_b (tx := tx) hq
        refine Or.inl ⟨P7, P8, tSt tx N q, rfl, ?_, s7.2.2.1, K7_r _, K8_r _, s7.1, s8.1⟩
        show some ((-10 : Int32) - P8.1 63 21, P8) = _
        rw [s8.2.2.1]
/-! the first item -/
theorem x7_rest14 {M : Mem} (x : Int32) (g : Nat → Int64) : ∀ (d i n : Nat), i + d = 4 → d < n → b_X4_restart_14_2 x n (nI i) (rL M 19 (zL g i)) = b_X4_restart_14_20 x (rL M 19 (zL g 4))
  | _, _, 0, _, hn => absurd hn (Nat.not_lt_zero _)
  | 0, i, n + 1, hi, _ => by
    rw [b_X4_restart_14_2.eq_2, if_pos ((v_ge 4 4 (by omega)).mpr (by omega)), show i = 4 by omega]
  | d + 1, i, n + 1, hi, hn => by
    have ih := x7_rest14 (M := M) x g d (i + 1) n (by omega) (by omega)
    rw [b_X4_restart_14_2.eq_2, if_neg (fun q => by have := (v_ge 4 4 (by omega)).mp q; omega), ck_y (by omega) (by decide), cl (by omega), mL_rL, zL_s, nI_1]
    exact ih
theorem x8_beg78 {M : Mem} (x : Int32) (g : Nat → Int32) : ∀ (d i n : Nat), i + d = 52 → d < n → b_X8_begin_78_2 x n (nI i) (rI M 78 (zI g i)) = some (mI (rI M 78 (zI g 52)) 78 1 x)
  | _, _, 0, _, hn => absurd hn (Nat.not_lt_zero _)
  | 0, i, n + 1, hi, _ => by
    rw [b_X8_begin_78_2.eq_2, if_pos ((v_ge 52 52 (by omega)).mpr (by omega)), show i = 52 by omega]
  | d + 1, i, n + 1, hi, hn => by
    have ih := x8_beg78 (M := M) x g d (i + 1) n (by omega) (by omega)
    rw [b_X8_begin_78_2.eq_2, if_neg (fun q => by have := (v_ge 52 52 (by omega)).mp q; omega), ck_y (by omega) (by decide), cl (by omega), mI_rI, zI_s, nI_1]
    exact ih
theorem x8_tf53 {M : Mem} (g : Nat → Int64) : ∀ (d i n : Nat), i + d = 4 → d < n → b_X8_takesFirst_53 n (nI i) (rL M 79 (zL g i)) = if M.1 63 23 = 3 then some (1, rL M 79 (zL g 4)) else some (0, rL M 79 (zL g 4))
  | _, _, 0, _, hn => absurd hn (Nat.not_lt_zero _)
  | 0, i, n + 1, hi, _ => by
    rw [b_X8_takesFirst_53.eq_2, if_pos ((v_ge 4 4 (by omega)).mpr (by omega)), show i = 4 by omega]
    rfl
  | d + 1, i, n + 1, hi, hn => by
    have ih := x8_tf53 (M := M) g d (i + 1) n (by omega) (by omega)
    rw [b_X8_takesFirst_53.eq_2, if_neg (fun q => by have := (v_ge 4 4 (by omega)).mp q; omega), ck_y (by omega) (by decide), cl (by omega), mL_rL, zL_s, nI_1]
    exact ih
theorem rest14 {P : Mem} (x : Int32) : f_X4_restart_14 x P = some (mI (mI (mI (mI (rL P 19 (zL (P.2 19) 4)) 20 4 0) 14 6 0) 14 7 x) 14 8 0) := by
  have hf := fu_big
  have r7 := x7_rest14 (M := P) x (P.2 19) 4 0 fu (by omega) (by omega)
  rw [zL_0, rL_self] at r7
  unfold f_X4_restart_14
  exact r7.trans rfl
theorem beg78 {R : Mem} (x : Int32) : f_X8_begin_78 x R = some (mI (rI R 78 (zI (R.1 78) 52)) 78 1 x) := by
  have hf := fu_big
  have r8 := x8_beg78 (M := R) x (R.1 78) 52 0 fu (by omega) (by omega)
  rw [zI_0, rI_self] at r8
  unfold f_X8_begin_78
  exact r8
theorem tf53 {R : Mem} : b_X8_takesFirst_53 fu 0 R = if R.1 63 23 = 3 then some (1, rL R 79 (zL (R.2 79) 4)) else some (0, rL R 79 (zL (R.2 79) 4)) := by
  have hf := fu_big
  have r9 := x8_tf53 (M := R) (R.2 79) 4 0 fu (by omega) (by omega)
  rw [zL_0, rL_self] at r9
  exact r9
theorem DR_new {P R : Mem} {m : Nat} (hm : m < 12) : DR (mI (mI (mI (mI (rL P 19 (zL (P.2 19) 4)) 20 4 0) 14 6 0) 14 7 (nI m)) 14 8 0) (rL (mI (rI R 78 (zI (R.1 78) 52)) 78 1 (nI m)) 79 (zL (R.2 79) 4)) := by
  refine ⟨0, m, ⟨by omega, hm⟩, ⟨rfl, rfl⟩, ⟨rfl, rfl⟩, ⟨rfl, rfl⟩, ⟨rfl, rfl⟩, fun k hk => absurd hk (by omega), fun r hr _ => ?_⟩
  show nr (zL (P.2 19) 4 r) (zL (R.2 79) 4 r)
  unfold zL
  rw [if_pos hr, if_pos hr]
  exact nr0
def ITr (r7 : Option (Int32 × Mem)) (r8 : Option (Int32 × Mem)) (M7 M8 : Mem) (tx : Nat → Int32) (N q : Nat) : Prop :=
  (∃ N7 N8, r7 = some (0, N7) ∧ r8 = some (0, N8) ∧ FA N7 N8 ∧ K7 N7 M7 ∧ K8 N8 M8 ∧ N7.1 55 0 = nI N ∧ N8.1 63 20 = nI N) ∨
  (∃ N7 N8 N9 q', r7 = some (1, N7) ∧ r8 = some (1, N8) ∧ N8.1 63 23 = 3 ∧ f_X8_goBehind N8 = some N9 ∧ S7 N7 tx N q' ∧ S8 N9 tx N q' ∧ DR N7 N9 ∧ q + 2 ≤ q' ∧ q' ≤ N ∧ K7 N7 M7 ∧ K8 N9 M8)
theorem it_river {M7 M8 : Mem} {tx : Nat → Int32} {N : Nat} (hN : N ≤ 150) (h7 : S7 M7 tx N 0) (h8 : S8 M8 tx N 0) : ITr (f_X3_readRiver_14 M7) (f_X8_takesFirst M8) M7 M8 tx N 0 := by
  have hq : 0 ≤ N := Nat.zero_le _
  have wRiv := x8_word (M := M8) (m := 5) (a := 114) (b := 105) (c := 118) (d := 101) (e := 114) (f := 0) (w := wRi) hN hq h8.2.2 h8.2.1 (by omega) (by omega) (by decide)
  have wRiv' : f_X8_isWord M8 (5 : Int32) (114 : Int32) (105 : Int32) (118 : Int32) (101 : Int32) (114 : Int32) (0 : Int32) = some (if tK tx N 0 = 3 then 1 else 0) := by
    refine (show f_X8_isWord M8 (5 : Int32) (114 : Int32) (105 : Int32) (118 : Int32) (101 : Int32) (114 : Int32) (0 : Int32) = _ from wRiv).trans ?_
    by_cases h : tK tx N 0 = 3
    · rw [if_pos h, if_pos (tK_word.1.mpr h)]
    · rw [if_neg h, if_neg (fun k => h (tK_word.1.mp k))]
  unfold f_X3_readRiver_14 f_X8_takesFirst
  rw [wRiv', Option.bind_some, h7.2.2.2.2.1]
  by_cases hK : tK tx N 0 = 3
  · rw [if_pos ((c7_eq _ 3 3 (by omega)).mpr hK), if_pos hK, if_neg (show ¬ (1 : Int32) = 0 by decide)]
    have q0 := tK_lt hq (show ¬ tK tx N 0 = 0 by omega)
    have hq1 := (tEn_b (tx := tx) hq).2.1
    obtain ⟨F1, e1, s1⟩ := step7 hN hq h7
    obtain ⟨G1, g1, t1⟩ := go8 hN hq h8
    rw [e1, g1, Option.bind_some, Option.bind_some]
    have kP1 : K7 (rI M7 55 F1) M7 := K7_55 _ _
    have kR1 : K8 (rI M8 63 G1) M8 := K8_63 _ _
    by_cases c1 : tK tx N (tEn tx N 0) = 2 ∧ tV tx N (tEn tx N 0) < 12
    · have v1 := tV_lt hq1 c1.1
      have q1q := tK_lt hq1 (show ¬ tK tx N (tEn tx N 0) = 0 by omega)
      have hq2 := (tEn_b (tx := tx) hq1).2.1
      obtain ⟨F2, e2, s2⟩ := num7_y (u := -1) 12 12 hN hq1 s1 c1.1 c1.2 (nm1 v1)
      obtain ⟨G2, g2, t2⟩ := takes8_y 0 0 12 11 hN hq1 t1 c1.1 c1.2
      rw [e2, g2, Option.bind_some, Option.bind_some]
      dsimp only
      rw [if_neg (nm1 v1), if_neg (show ¬ (1 : Int32) = 0 by decide)]
      have r80 : (rI (mI (rI M8 63 G1) 80 0 (nI (tV tx N (tEn tx N 0)))) 63 G2).1 80 0 = nI (tV tx N (tEn tx N 0)) := rfl
      rw [r80, rest14, beg78, Option.bind_some, Option.bind_some, tf53]
      have kP2 : K7 (rI (rI M7 55 F1) 55 F2) M7 := K7_t (K7_55 _ _) kP1
      have kR2 : K8 (rI (mI (rI M8 63 G1) 80 0 (nI (tV tx N (tEn tx N 0)))) 63 G2) M8 := K8_t (K8_63 _ _) (K8_t (K8_80 _ _) kR1)
      generalize rI (rI M7 55 F1) 55 F2 = P at s2 kP2 ⊢
      generalize rI (mI (rI M8 63 G1) 80 0 (nI (tV tx N (tEn tx N 0)))) 63 G2 = R at t2 kR2 ⊢
      generalize tEn tx N (tEn tx N 0) = q2 at s2 t2 hq2 q1q ⊢
      generalize tV tx N (tEn tx N 0) = m at c1 ⊢
      have kP3 : K7 (mI (mI (mI (mI (rL P 19 (zL (P.2 19) 4)) 20 4 0) 14 6 0) 14 7 (nI m)) 14 8 0) M7 := K7_t (K7_d (by omega) _) (K7_t (K7_d (by omega) _) (K7_t (K7_d (by omega) _) (K7_t (K7_d (by omega) _) (K7_t (K7_dL (by omega) _) kP2))))
      have kR3 : K8 (rL (mI (rI R 78 (zI (R.1 78) 52)) 78 1 (nI m)) 79 (zL (R.2 79) 4)) M8 := K8_t (K8_79 _ _) (K8_t (K8_78 _ _) (K8_t (K8_78 _ _) kR2))
      have e23 : (mI (rI R 78 (zI (R.1 78) 52)) 78 1 (nI m)).1 63 23 = c8K (tK tx N q2) := t2.2.2.2.2.1
      have e79 : (mI (rI R 78 (zI (R.1 78) 52)) 78 1 (nI m)).2 79 = R.2 79 := rfl
      rw [e23, e79]
      by_cases hS : tK tx N q2 = 1
      · rw [if_pos ((c8_3 _).mpr hS)]
        have h := IT_stop (q := q2) (q0 := 0) (r8 := some ((1 : Int32), rL (mI (rI R 78 (zI (R.1 78) 52)) 78 1 (nI m)) 79 (zL (R.2 79) 4))) hN hq2 (by omega) (P7 := mI (mI (mI (mI (rL P 19 (zL (P.2 19) 4)) 20 4 0) 14 6 0) 14 7 (nI m)) 14 8 0) (P8 := rL (mI (rI R 78 (zI (R.1 78) 52)) 78 1 (nI m)) 79 (zL (R.2 79) 4)) s2 t2 (DR_new c1.2) kP3 kR3 rfl rfl
        rcases h with ⟨N7, N8, e7, e8, -⟩ | h
        · exfalso
          rcases e8 with e8 | ⟨e8, e9⟩
          · cases e8
          · cases e8
            exact e9 (t2.2.2.2.2.1.trans ((c8_3 _).mpr hS))
        · exact Or.inr h
      · rw [if_neg (fun k => hS ((c8_3 _).mp k))]
        refine Or.inl ⟨mI (mI (mI (mI (rL P 19 (zL (P.2 19) 4)) 20 4 0) 14 6 0) 14 7 (nI m)) 14 8 0, rL (mI (rI R 78 (zI (R.1 78) 52)) 78 1 (nI m)) 79 (zL (R.2 79) 4), ?_, rfl, FA_of (M7 := mI (mI (mI (mI (rL P 19 (zL (P.2 19) 4)) 20 4 0) 14 6 0) 14 7 (nI m)) 14 8 0) (M8 := rL (mI (rI R 78 (zI (R.1 78) 52)) 78 1 (nI m)) 79 (zL (R.2 79) 4)) hN hq2 s2 t2, kP3, kR3, s2.1, t2.1⟩
        rw [stop7_n (M := mI (mI (mI (mI (rL P 19 (zL (P.2 19) 4)) 20 4 0) 14 6 0) 14 7 (nI m)) 14 8 0) s2 hS]
        rfl
    · rw [num7_n 12 12 hq1 s1 (Or.inl c1), takes8_n 12 11 hq1 t1 c1, Option.bind_some, Option.bind_some]
      exact Or.inl ⟨_, _, rfl, rfl, FA_of hN hq1 s1 t1, kP1, kR1, s1.1, t1.1⟩
  · rw [if_neg (fun k => hK ((c7_eq _ 3 3 (by omega)).mp k)), if_neg hK, if_pos rfl]
    exact Or.inl ⟨M7, M8, rfl, rfl, FA_of hN hq h7 h8, K7_r _, K8_r _, h7.1, h8.1⟩
theorem rd_first {P R M7 M8 : Mem} {tx : Nat → Int32} {N : Nat} (hN : N ≤ 150) (fv : Nat) (hf : 400 ≤ fv) (s7 : S7 P tx N 0) (s8 : S8 R tx N 0) (k7 : K7 P M7) (k8 : K8 R M8) : RD ((f_X3_readRiver_14 P).bind fun r3 => if r3.1 = 0 then some (-1, r3.2) else b_X3_readInto_14_23 fv 1 0 r3.2) ((f_X8_takesFirst R).bind fun r2 => if r2.1 = 0 then some ((-10 : Int32) - r2.2.1 63 21, r2.2) else (f_X8_goBehind r2.2).bind fun r3 => b_X8_read_26 fv 1 r3) M7 M8 N := by
  rcases it_river hN s7 s8 with ⟨N7, N8, e7, e8, ⟨s, hs, f7, f8⟩, j7, j8, z7, z8⟩ | ⟨N7, N8, N9, q', e7, e8, e3, eg, t7, t8, hd, hq1, hq2, j7, j8⟩
  · refine Or.inl ⟨N7, N8, s, ?_, ?_, f7, K7_t j7 k7, K8_t j8 k8, z7, z8⟩
    · rw [e7, Option.bind_some, if_pos (show ((0 : Int32), N7).1 = 0 from rfl)]
    · rw [e8, Option.bind_some, if_pos (show ((0 : Int32), N8).1 = 0 from rfl)]
      rw [f8]
  · rw [e7, e8, Option.bind_some, Option.bind_some, if_neg (show ¬ ((1 : Int32), N7).1 = 0 from (by decide : ¬ (1 : Int32) = 0)), if_neg (show ¬ ((1 : Int32), N8).1 = 0 from (by decide : ¬ (1 : Int32) = 0))]
    rw [eg, Option.bind_some]
    exact RD_k (rd_loop hN fv fv q' 0 N7 N9 (by omega) (by omega) hq2 (by omega) t7 t8 hd) (K7_t j7 k7) (K8_t j8 k8)
theorem rd_all {M7 M8 : Mem} {tx : Nat → Int32} {N : Nat} (hN : N ≤ 150) (h0 : M7.1 55 0 = nI N) (htx : M7.1 56 = tx) (h20 : M8.1 63 20 = nI N) (h77 : ∀ k, k < N → M8.1 77 k = tx k) : RD (f_X3_readInto_14 M7) (f_X8_read M8) M7 M8 N := by
  have hf := fu_big
  obtain ⟨F, e1, e2, e3⟩ := x3_step (M := mI M7 55 4 0) (q := 0) hN (Nat.zero_le _) h0 rfl
  obtain ⟨G, g1, g2, g3⟩ := x8_look (M := M8) (q := 0) (tx := tx) hN (Nat.zero_le _) h20 h77
  have g1' : f_X8_lookAt (0 : Int32) M8 = some (rI M8 63 G) := g1
  have k7 : K7 (rI (mI M7 55 4 0) 55 F) M7 := K7_t (K7_55 _ _) (K7_55 _ _)
  have k8 : K8 (rI M8 63 G) M8 := K8_63 _ _
  have s7 : S7 (rI (mI M7 55 4 0) 55 F) tx N 0 := ⟨e2, htx, by rw [show (mI M7 55 4 0).1 56 = tx from htx] at e3; exact e3⟩
  have s8 : S8 (rI M8 63 G) tx N 0 := ⟨(g2 20 (by omega)).trans h20, h77, g3⟩
  have h := rd_first hN fu (by omega) s7 s8 k7 k8
  have a7 : f_X3_readInto_14 M7 = (f_X3_readRiver_14 (rI (mI M7 55 4 0) 55 F)).bind fun r3 => if r3.1 = 0 then some (-1, r3.2) else b_X3_readInto_14_23 fu 1 0 r3.2 := by
    unfold f_X3_readInto_14
    dsimp only
    rw [e1, Option.bind_some]
  have a8 : f_X8_read M8 = (f_X8_takesFirst (rI M8 63 G)).bind fun r2 => if r2.1 = 0 then some ((-10 : Int32) - r2.2.1 63 21, r2.2) else (f_X8_goBehind r2.2).bind fun r3 => b_X8_read_26 fu 1 r3 := by
    unfold f_X8_read
    rw [g1', Option.bind_some]
  rw [a7, a8]
  exact h
theorem va4 {g f : Nat → Int64} : ∀ c, vp_updL (va_cpy f g 0 0 c) c (f c) = va_cpy f g 0 0 (c + 1) := fun c => by
  have := cyL_s f g 0 0 c
  rw [Nat.zero_add] at this
  exact this
theorem va52 {g f : Nat → Int32} : ∀ c, upd (va_cpy f g 0 0 c) c (f c) = va_cpy f g 0 0 (c + 1) := fun c => by
  have := cy_s f g 0 0 c
  rw [Nat.zero_add] at this
  exact this
theorem x8_r94 {M : Mem} (x : Int32) (g : Nat → Int64) : ∀ (d i n : Nat), i + d = 4 → d < n → b_X8_read_94 x n (nI i) (rL M 66 (va_cpy (M.2 79) g 0 0 i)) = some (x, rL M 66 (va_cpy (M.2 79) g 0 0 4))
  | _, _, 0, _, hn => absurd hn (Nat.not_lt_zero _)
  | 0, i, n + 1, hi, _ => by
    rw [b_X8_read_94.eq_2, if_pos ((v_ge 4 4 (by omega)).mpr (by omega)), show i = 4 by omega]
  | d + 1, i, n + 1, hi, hn => by
    have ih := x8_r94 (M := M) x g d (i + 1) n (by omega) (by omega)
    have e79 : (rL M 66 (va_cpy (M.2 79) g 0 0 i)).2 79 i = M.2 79 i := rfl
    rw [b_X8_read_94.eq_2, if_neg (fun q => by have := (v_ge 4 4 (by omega)).mp q; omega), ck_y (by omega) (by decide), ck_y (by omega) (by decide), cl (by omega), e79, mL_rL, va4, nI_1]
    exact ih
theorem x8_r68 {M : Mem} (x : Int32) (g : Nat → Int32) : ∀ (d i n : Nat), i + d = 52 → d < n → b_X8_read_68 x n (nI i) (rI M 64 (va_cpy (M.1 78) g 0 0 i)) = b_X8_read_92 x (rI M 64 (va_cpy (M.1 78) g 0 0 52))
  | _, _, 0, _, hn => absurd hn (Nat.not_lt_zero _)
  | 0, i, n + 1, hi, _ => by
    rw [b_X8_read_68.eq_2, if_pos ((v_ge 52 52 (by omega)).mpr (by omega)), show i = 52 by omega]
  | d + 1, i, n + 1, hi, hn => by
    have ih := x8_r68 (M := M) x g d (i + 1) n (by omega) (by omega)
    have e78 : (rI M 64 (va_cpy (M.1 78) g 0 0 i)).1 78 i = M.1 78 i := rfl
    rw [b_X8_read_68.eq_2, if_neg (fun q => by have := (v_ge 52 52 (by omega)).mp q; omega), ck_y (by omega) (by decide), ck_y (by omega) (by decide), cl (by omega), e78, mI_rI, va52, nI_1]
    exact ih
theorem x8_r66 {M : Mem} (x : Int32) : b_X8_read_66 x M = some (x, rL (rI M 64 (va_cpy (M.1 78) (M.1 64) 0 0 52)) 66 (va_cpy (M.2 79) (M.2 66) 0 0 4)) := by
  have hf := fu_big
  have h1 := x8_r68 (M := M) x (M.1 64) 52 0 fu (by omega) (by omega)
  rw [cy_0, rI_self] at h1
  have h2 := x8_r94 (M := rI M 64 (va_cpy (M.1 78) (M.1 64) 0 0 52)) x (M.2 66) 4 0 fu (by omega) (by omega)
  have e66 : rL (rI M 64 (va_cpy (M.1 78) (M.1 64) 0 0 52)) 66 (M.2 66) = rI M 64 (va_cpy (M.1 78) (M.1 64) 0 0 52) := rL_self (rI M 64 _) 66
  rw [cy_0, e66] at h2
  exact h1.trans h2
theorem Inv_p {M N : Mem} (h : Inv M) (hr : RVr N) (hI : ∀ q, (26 < q ∧ q < 55) ∨ q = 0 ∨ q = 56 ∨ q = 65 ∨ q = 68 ∨ q = 69 ∨ q = 77 → N.1 q = M.1 q) (h55 : N.1 55 0 = M.1 55 0) (h63 : N.1 63 20 = M.1 63 20) (hL : ∀ q, 26 < q → q ≠ 66 → q ≠ 79 → N.2 q = M.2 q) : Inv N := by
  have i : ∀ q, 26 < q → q < 55 → N.1 q = M.1 q := fun q h1 h2 => hI q (Or.inl ⟨h1, h2⟩)
  refine ⟨hr, ?_⟩
  have h2 := h.2
  unfold RV0 RV1 TXr at h2 ⊢
  rw [h63, h55, hI 0 (by decide), i 27 (by decide) (by decide), i 28 (by decide) (by decide), i 29 (by decide) (by decide), i 30 (by decide) (by decide), i 31 (by decide) (by decide), i 33 (by decide) (by decide), i 34 (by decide) (by decide), i 35 (by decide) (by decide), i 38 (by decide) (by decide), i 39 (by decide) (by decide), i 40 (by decide) (by decide), i 41 (by decide) (by decide), i 42 (by decide) (by decide), i 43 (by decide) (by decide), i 44 (by decide) (by decide), i 46 (by decide) (by decide), i 47 (by decide) (by decide), i 48 (by decide) (by decide), i 51 (by decide) (by decide), i 52 (by decide) (by decide), i 54 (by decide) (by decide), hI 56 (by decide), hI 65 (by decide), hI 68 (by decide), hI 69 (by decide), hI 77 (by decide), hL 32 (by decide) (by decide) (by decide), hL 36 (by decide) (by decide) (by decide), hL 37 (by decide) (by decide) (by decide), hL 45 (by decide) (by decide) (by decide), hL 49 (by decide) (by decide) (by decide), hL 50 (by decide) (by decide) (by decide), hL 60 (by decide) (by decide) (by decide), hL 63 (by decide) (by decide) (by decide), hL 67 (by decide) (by decide) (by decide)]
  exact h2

theorem rLw1 {M : Mem} {k : Nat} {f : Nat → Int64} {q : Nat} : (rL M k f).1 q = M.1 q := rfl
theorem rIw2 {M : Mem} {k : Nat} {f : Nat → Int32} {q : Nat} : (rI M k f).2 q = M.2 q := rfl
theorem nm400 {v : Nat} (h : v ≤ 400) : ¬ nI v = (-1 : Int32) := fun q => by
  have := (fa_eq _ _).mp q
  rw [nI_toInt (by omega), show (-1 : Int32).toInt = -1 by decide] at this
  omega
theorem DR_rv {P R : Mem} {g : Nat → Int32} {gl : Nat → Int64} (h : DR P R) : RV (P.1 14) (P.1 15) (P.1 16) (P.1 17) (P.1 18) (P.2 19) (P.1 20) (P.1 21) (P.1 22) (P.2 23) (P.2 24) (P.1 25) (P.1 26) (va_cpy (R.1 78) g 0 0 52) (va_cpy (R.2 79) gl 0 0 4) := by
  obtain ⟨B, m, h1, h2, h3, h4, h5, h6, h7⟩ := h
  have hB := h1.1
  refine ⟨B, m, 0, 0, ⟨h1.1, h1.2, by omega, by omega⟩, ⟨h2.1, (c8 (by omega)).trans h2.2⟩, ⟨h3.1, (c8 (by omega)).trans h3.2⟩, ⟨h4.1, (c8 (by omega)).trans h4.2⟩, ⟨h5.1, (c8 (by omega)).trans h5.2⟩, fun k hk => ?_, fun r hr => ?_, fun k hk => absurd hk (by omega), fun k hk => absurd hk (by omega)⟩
  · exact BR_c (h6 k hk) rfl rfl rfl rfl (fun i i1 i2 => c8 (by omega))
  · rw [c8L hr]; exact h7 r hr (by omega)
theorem e_read {M : Mem} (h : Inv M) : Same f_X7_read f_X8_read M := by
  obtain ⟨hr, ⟨N, hN, ha, hc, hd⟩, -⟩ := id h
  rcases rd_all (M7 := M) (M8 := M) (tx := M.1 56) hN ha rfl hc (fun k hk => (hd k hk).symm) with ⟨N7, -, s, a7, -, f3, k7, -, z7, -⟩ | ⟨N7, -, i, hi, a7, -, -, k7, -, z7, -⟩
  · have e63 : N7.1 63 = M.1 63 := k7.1 63 (by decide) (by omega)
    have e77 : N7.1 77 = M.1 77 := k7.1 77 (by decide) (by omega)
    have r7 : f_X7_read M = some ((-10 : Int32) - nI s, N7) := by
      unfold f_X7_read f_X3_faultPlace
      rw [a7, Option.bind_some, if_pos (show ((-1 : Int32), N7).1 = -1 from rfl)]
      rw [f3]
    rcases rd_all (M7 := M) (M8 := N7) (tx := M.1 56) hN ha rfl (by rw [e63]; exact hc) (fun k hk => by rw [e77]; exact (hd k hk).symm) with ⟨N7', N8, s', a7', a8, f3', -, k8, -, z8⟩ | ⟨N7', N8, i', hi', a7', -⟩
    · rw [a7] at a7'
      cases a7'
      rw [f3] at f3'
      rw [← f3'] at a8
      have v7 : ∀ q, q ≠ 55 → (q < 14 ∨ 26 < q) → q ≠ 63 → q ≠ 78 → q ≠ 80 → N8.1 q = M.1 q := fun q q1 q2 q3 q4 q5 => (k8.1 q q3 q4 q5).trans (k7.1 q q1 q2)
      have v8 : ∀ q, (q < 14 ∨ 26 < q) → q ≠ 79 → N8.2 q = M.2 q := fun q q1 q2 => (k8.2 q q2).trans (k7.2 q q1)
      refine ⟨_, N7, N8, r7, a8, Inv_p h ?_ (fun q hq => v7 q (by omega) (by omega) (by omega) (by omega) (by omega)) ?_ (z8.trans hc.symm) (fun q q1 q2 q3 => v8 q (by omega) q3)⟩
      · unfold RVr
        rw [v7 1 (by decide) (by omega) (by decide) (by decide) (by decide), v7 2 (by decide) (by omega) (by decide) (by decide) (by decide), v7 3 (by decide) (by omega) (by decide) (by decide) (by decide), v7 4 (by decide) (by omega) (by decide) (by decide) (by decide), v7 5 (by decide) (by omega) (by decide) (by decide) (by decide), v8 6 (by omega) (by decide), v7 7 (by decide) (by omega) (by decide) (by decide) (by decide), v7 8 (by decide) (by omega) (by decide) (by decide) (by decide), v7 9 (by decide) (by omega) (by decide) (by decide) (by decide), v8 10 (by omega) (by decide), v8 11 (by omega) (by decide), v7 12 (by decide) (by omega) (by decide) (by decide) (by decide), v7 13 (by decide) (by omega) (by decide) (by decide) (by decide), v7 64 (by decide) (by omega) (by decide) (by decide) (by decide), v8 66 (by omega) (by decide)]
        exact hr
      · rw [k8.1 55 (by decide) (by decide) (by decide)]; exact z7.trans ha.symm
    · rw [a7] at a7'
      have := congrArg (fun o => o.map Prod.fst) a7'
      simp only [Option.map_some] at this
      exact absurd (Option.some.inj this).symm (nm400 hi')
  · have e63 : (cp_1_14 N7).1 63 = M.1 63 := k7.1 63 (by decide) (by omega)
    have e77 : (cp_1_14 N7).1 77 = M.1 77 := k7.1 77 (by decide) (by omega)
    have r7 : f_X7_read M = some (nI i, cp_1_14 N7) := by
      unfold f_X7_read
      rw [a7, Option.bind_some, if_neg (show ¬ (nI i, N7).1 = -1 from nm400 hi), cp_1_14_e, Option.bind_some]
    rcases rd_all (M7 := M) (M8 := cp_1_14 N7) (tx := M.1 56) hN ha rfl (by rw [e63]; exact hc) (fun k hk => by rw [e77]; exact (hd k hk).symm) with ⟨N7', N8, s', a7', -⟩ | ⟨N7', N8, i', hi', a7', a8, hD, -, k8, -, z8⟩
    · rw [a7] at a7'
      have := congrArg (fun o => o.map Prod.fst) a7'
      simp only [Option.map_some] at this
      exact absurd (Option.some.inj this) (nm400 hi)
    · rw [a7] at a7'
      have hf := congrArg (fun o => o.map Prod.fst) a7'
      have hs := congrArg (fun o => o.map Prod.snd) a7'
      simp only [Option.map_some] at hf hs
      have hi2 : nI i = nI i' := Option.some.inj hf
      have hN7 : N7 = N7' := Option.some.inj hs
      subst hN7
      rw [← hi2, x8_r66] at a8
      refine ⟨_, cp_1_14 N7, _, r7, a8, Inv_p h ?_ (fun q hq => ?_) ?_ (z8.trans hc.symm) (fun q q1 q2 q3 => ?_)⟩
      · have w7 : ∀ q, q < 14 → N8.1 q = (cp_1_14 N7).1 q := fun q hq => k8.1 q (by omega) (by omega) (by omega)
        have w8 : ∀ q, q < 14 → N8.2 q = (cp_1_14 N7).2 q := fun q hq => k8.2 q (by omega)
        show RV (N8.1 1) (N8.1 2) (N8.1 3) (N8.1 4) (N8.1 5) (N8.2 6) (N8.1 7) (N8.1 8) (N8.1 9) (N8.2 10) (N8.2 11) (N8.1 12) (N8.1 13) (va_cpy (N8.1 78) (N8.1 64) 0 0 52) (va_cpy (N8.2 79) (N8.2 66) 0 0 4)
        have hrv := DR_rv (g := N8.1 64) (gl := N8.2 66) hD
        rw [w7 1 (by decide), w7 2 (by decide), w7 3 (by decide), w7 4 (by decide), w7 5 (by decide), w8 6 (by decide), w7 7 (by decide), w7 8 (by decide), w7 9 (by decide), w8 10 (by decide), w8 11 (by decide), w7 12 (by decide), w7 13 (by decide)]
        exact cp_1_14_rv hrv (fun _ _ => rfl) (fun _ _ => rfl)
      · show (rI N8 64 _).1 q = _
        rw [rI_ne (by omega), k8.1 q (by omega) (by omega) (by omega)]
        have e : (cp_1_14 N7).1 q = N7.1 q := by
          unfold cp_1_14 mI
          simp only [rI_ne (show q ≠ 1 by omega), rI_ne (show q ≠ 2 by omega), rI_ne (show q ≠ 3 by omega), rI_ne (show q ≠ 4 by omega), rI_ne (show q ≠ 5 by omega), rI_ne (show q ≠ 7 by omega), rI_ne (show q ≠ 8 by omega), rI_ne (show q ≠ 9 by omega), rI_ne (show q ≠ 12 by omega), rI_ne (show q ≠ 13 by omega), rLw1]
        rw [e]
        exact k7.1 q (by omega) (by omega)
      · show N8.1 55 0 = _
        rw [k8.1 55 (by decide) (by decide) (by decide)]
        exact z7.trans ha.symm
      · show (rL _ 66 _).2 q = _
        rw [rL_ne q2]
        show N8.2 q = _
        rw [k8.2 q q3]
        have e : (cp_1_14 N7).2 q = N7.2 q := by
          unfold cp_1_14 mI
          simp only [rIw2, rL_ne (show q ≠ 6 by omega), rL_ne (show q ≠ 10 by omega), rL_ne (show q ≠ 11 by omega)]
        rw [e]
        exact k7.2 q (by omega)
