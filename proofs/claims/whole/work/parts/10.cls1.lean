-- X7_isBelow
def f_X7_isBelow (x0 : Int32) (x1 : Int32) : Int32 :=
  if x0 < 0 then ((0 : Int32))
  else (if x1 ≤ x0 then ((0 : Int32))
  else ((1 : Int32)))
set_option maxHeartbeats 4000000 in
set_option maxRecDepth 100000 in
theorem c_X7_isBelow {l : Launch} {x0 : Int32} {x1 : Int32} {M : Mem} {r : Int32} (hf : f_X7_isBelow x0 x1 = r) : Cn l yX7_isBelow cX7_isBelow 2 (some .boolean) 0 0 (fun E => [.int x0, .int x1]) M (some (.int r), M) := by
  unfold f_X7_isBelow at hf
  refine cn_of RX7 (fun E => [some (.int x0), some (.int x1)]) (by decide +kernel) rfl (fun E => Nat.le_of_ble_eq_true rfl) (fun E => rfl) (fun X hr => ?_)
  refine g_iload_n dX7_isBelow_0 rfl ?_
  refine g_if_lt (tgt := 13) dX7_isBelow_1 (by decide) (fun hc => ?_) (fun hc => ?_)
  · have hf := ite_t hc hf
    refine g_iconst (v := 0) dX7_isBelow_13 (by decide) ?_
    exact g_zret_t hr (Or.inl rfl) hf dX7_isBelow_14
  · have hf := ite_f hc hf
    refine g_iload_n dX7_isBelow_4 rfl ?_
    refine g_iload_n dX7_isBelow_5 rfl ?_
    refine g_icmp_ge (tgt := 13) dX7_isBelow_6 (by decide) (fun hc => ?_) (fun hc => ?_)
    · have hf := ite_t hc hf
      refine g_iconst (v := 0) dX7_isBelow_13 (by decide) ?_
      exact g_zret_t hr (Or.inl rfl) hf dX7_isBelow_14
    · have hf := ite_f hc hf
      refine g_iconst (v := 1) dX7_isBelow_9 (by decide) ?_
      refine g_goto (tgt := 14) dX7_isBelow_10 (by decide) ?_
      exact g_zret_t hr (Or.inr rfl) hf dX7_isBelow_14
theorem z_X7_isBelow  {x0 : Int32} {x1 : Int32} : f_X7_isBelow x0 x1 = 0 ∨ f_X7_isBelow x0 x1 = 1 := by
  unfold f_X7_isBelow
  first | (repeat' split) <;> first | exact Or.inl rfl | exact Or.inr rfl
-- X7_refuseBad
def f_X7_refuseBad (x1 : Int32) (M : Mem) : Option (Int32 × Mem) :=
  let M1 := mI M 0 9 ((M.1 0 9) + (1 : Int32))
  some (x1, M1)
set_option maxHeartbeats 4000000 in
set_option maxRecDepth 100000 in
theorem c_X7_refuseBad {l : Launch} {x1 : Int32} {M : Mem} {r : Int32} {M1 : Mem} (hf : f_X7_refuseBad x1 M = some (r, M1)) : Cn l yX7_refuseBad cX7_refuseBad 2 (some .int) 0 0 (fun E => [.ref (E.1 0), .int x1]) M (some (.int r), M1) := by
  unfold f_X7_refuseBad at hf
  refine cn_of RX7 (fun E => [some (.ref (E.1 0)), some (.int x1)]) (by decide +kernel) rfl (fun E => Nat.le_of_ble_eq_true rfl) (fun E => rfl) (fun X hr => ?_)
  refine g_aload_n dX7_refuseBad_0 rfl ?_
  refine g_dup dX7_refuseBad_1 rfl ?_
  refine g_get (kk := 0) (by decide) (cel_0 _ _ _) rfl inX7 fl_X7_237 (by decide) rfl dX7_refuseBad_2 ?_
  refine g_iconst (v := 1) dX7_refuseBad_5 (by decide) ?_
  refine g_iadd dX7_refuseBad_6 ?_
  refine g_putI (kk := 0) (by decide) (cel_0 _ _ _) (pI_0_9 _ _ _ _) rfl inX7 tyX7_ok nmX7 fl_X7_237 (by decide) (Nat.le_of_ble_eq_true rfl) rfl (by decide +kernel) dX7_refuseBad_7 ?_
  refine g_iload_n dX7_refuseBad_10 rfl ?_
  exact g_iret_w hr hf dX7_refuseBad_11
-- X4_restart_1
def b_X4_restart_1_20   (x1 : Int32) (M : Mem) : Option Mem :=
  let M1 := mI M 7 4 (0 : Int32)
  let M2 := mI M1 1 6 (0 : Int32)
  let M3 := mI M2 1 7 x1
  let M4 := mI M3 1 8 (0 : Int32)
  some M4
set_option maxHeartbeats 4000000 in
set_option maxRecDepth 100000 in
theorem w_X4_restart_1_20 {X : Cx} {M1 : Mem}      {x1 : Int32} {M : Mem} (hr : X.meth.sig.returnType = none) (hf : b_X4_restart_1_20 x1 M = some M1) : G X (none, M1) RX4 cX4_restart 3 0 0 20 [some (.ref (X.1.1 1)), some (.int x1), none] [] M := by
  unfold b_X4_restart_1_20 at hf
  refine g_aload_n dX4_restart_20 rfl ?_
  refine g_get (kk := 1) (by decide) (cel_1 _ _ _) rfl inX4 fl_X4_31 (by decide) rfl dX4_restart_21 ?_
  refine g_iconst (v := 0) dX4_restart_24 (by decide) ?_
  refine g_putI (kk := 7) (by decide) (cel_7 _ _ _) (pI_7_4 _ _ _ _) rfl inX2 tyX2_ok nmX2 fl_X4_43 (by decide) (Nat.le_of_ble_eq_true rfl) rfl (by decide +kernel) dX4_restart_25 ?_
  refine g_aload_n dX4_restart_28 rfl ?_
  refine g_iconst (v := 0) dX4_restart_29 (by decide) ?_
  refine g_putI (kk := 1) (by decide) (cel_1 _ _ _) (pI_1_6 _ _ _ _) rfl inX4 tyX4_ok nmX4 fl_X4_47 (by decide) (Nat.le_of_ble_eq_true rfl) rfl (by decide +kernel) dX4_restart_30 ?_
  refine g_aload_n dX4_restart_33 rfl ?_
  refine g_iload_n dX4_restart_34 rfl ?_
  refine g_putI (kk := 1) (by decide) (cel_1 _ _ _) (pI_1_7 _ _ _ _) rfl inX4 tyX4_ok nmX4 fl_X4_50 (by decide) (Nat.le_of_ble_eq_true rfl) rfl (by decide +kernel) dX4_restart_35 ?_
  refine g_aload_n dX4_restart_38 rfl ?_
  refine g_iconst (v := 0) dX4_restart_39 (by decide) ?_
  refine g_putI (kk := 1) (by decide) (cel_1 _ _ _) (pI_1_8 _ _ _ _) rfl inX4 tyX4_ok nmX4 fl_X4_53 (by decide) (Nat.le_of_ble_eq_true rfl) rfl (by decide +kernel) dX4_restart_40 ?_
  exact g_vret_w hr hf dX4_restart_43
def b_X4_restart_1_2   (x1 : Int32) : Nat → Int32 → Mem → Option Mem
  | 0, _, _ => none
  | n + 1, x2, M =>
    if (4 : Int32) ≤ x2 then (b_X4_restart_1_20 x1 M)
    else (ck x2 4 <|
    let M5 := mL M 6 (x2.toNatClampNeg) (0 : Int64)
    b_X4_restart_1_2 x1 n (x2 + (1 : Int32)) M5)
set_option maxHeartbeats 4000000 in
set_option maxRecDepth 100000 in
theorem w_X4_restart_1_2 {X : Cx} {M1 : Mem}   {x1 : Int32}   (hr : X.meth.sig.returnType = none) : ∀ (n : Nat) {x2 : Int32} {M : Mem}, b_X4_restart_1_2 x1 n x2 M = some M1 → G X (none, M1) RX4 cX4_restart 3 0 0 2 [some (.ref (X.1.1 1)), some (.int x1), some (.int x2)] [] M := by
  intro n
  induction n with
  | zero => intro x2 M hf; cases hf
  | succ n ih =>
    intro x2 M hf
    rw [b_X4_restart_1_2.eq_2] at hf
    refine g_iload_n dX4_restart_2 rfl ?_
    refine g_iconst (v := 4) dX4_restart_3 (by decide) ?_
    refine g_icmp_ge (tgt := 20) dX4_restart_4 (by decide) (fun hc => ?_) (fun hc => ?_)
    · have hf := ite_t hc hf
      exact g_weakr (w_X4_restart_1_20 hr hf) (lsk (lsk (lsd lsz)))
    · have hf := ite_f hc hf
      refine g_aload_n dX4_restart_7 rfl ?_
      refine g_get (kk := 1) (by decide) (cel_1 _ _ _) rfl inX4 fl_X4_24 (by decide) rfl dX4_restart_8 ?_
      refine g_iload_n dX4_restart_11 rfl ?_
      refine g_lconst (v := 0) dX4_restart_12 (by decide) ?_
      obtain ⟨hi, hf⟩ := ck_s hf
      refine g_lastore (kk := 6) (by decide) (fun f g => cel_6 _ f g) hi rfl dX4_restart_13 ?_
      refine g_iinc2 (v := (x2 + (1 : Int32))) dX4_restart_14 (by decide) lnl_i rfl ?_
      refine g_goto (tgt := 2) dX4_restart_17 (by decide) ?_
      exact ih hf
def f_X4_restart_1 (x1 : Int32) (M : Mem) : Option Mem :=
  b_X4_restart_1_2 x1 fu (0 : Int32) M
set_option maxHeartbeats 4000000 in
set_option maxRecDepth 100000 in
theorem c_X4_restart_1 {l : Launch} {x1 : Int32} {M : Mem} {M1 : Mem} (hf : f_X4_restart_1 x1 M = some M1) : Cn l yX4_restart cX4_restart 3 none 0 0 (fun E => [.ref (E.1 1), .int x1]) M (none, M1) := by
  unfold f_X4_restart_1 at hf
  refine cn_of RX4 (fun E => [some (.ref (E.1 1)), some (.int x1), none]) (by decide +kernel) rfl (fun E => Nat.le_of_ble_eq_true rfl) (fun E => rfl) (fun X hr => ?_)
  refine g_iconst (v := 0) dX4_restart_0 (by decide) ?_
  refine g_ist2 dX4_restart_1 (by decide) lnl_i ?_
  exact w_X4_restart_1_2 hr fu hf
-- X7_river
def f_X7_river (x1 : Int32) (M : Mem) : Option (Int32 × Mem) :=
  if (f_X7_isBelow x1 (12 : Int32)) = 0 then ((f_X7_refuseBad (-2 : Int32) M).bind fun r2 =>
  some (r2.1, r2.2))
  else ((f_X4_restart_1 x1 M).bind fun r1 =>
  some ((M.1 1 6), r1))
set_option maxHeartbeats 4000000 in
set_option maxRecDepth 100000 in
theorem c_X7_river {l : Launch} {x1 : Int32} {M : Mem} {r : Int32} {M1 : Mem} (hf : f_X7_river x1 M = some (r, M1)) : Cn l yX7_river cX7_river 3 (some .int) 1 22 (fun E => [.ref (E.1 0), .int x1]) M (some (.int r), M1) := by
  unfold f_X7_river at hf
  refine cn_of RX7 (fun E => [some (.ref (E.1 0)), some (.int x1), none]) (by decide +kernel) rfl (fun E => Nat.le_of_ble_eq_true rfl) (fun E => rfl) (fun X hr => ?_)
  refine g_iload_n dX7_river_0 rfl ?_
  refine g_bipush (v := 12) dX7_river_1 (by decide) ?_
  refine g_cS_II_I (c_X7_isBelow rfl) cs_X7_56 ⟨by decide, by decide⟩ (Nat.le_of_ble_eq_true rfl) dX7_river_3 ?_
  refine g_if_ne (tgt := 16) dX7_river_6 (by decide) (fun hc => ?_) (fun hc => ?_)
  · have hf := ite_f hc hf
    refine g_aload_n dX7_river_16 rfl ?_
    refine g_get (kk := 0) (by decide) (cel_0 _ _ _) rfl inX7 fl_X7_10 (by decide) rfl dX7_river_17 ?_
    refine g_get (kk := 1) (by decide) (cel_1 _ _ _) rfl inX4 fl_X7_64 (by decide) rfl dX7_river_20 ?_
    refine g_ist2 dX7_river_23 (by decide) lnl_i ?_
    refine g_aload_n dX7_river_24 rfl ?_
    refine g_get (kk := 0) (by decide) (cel_0 _ _ _) rfl inX7 fl_X7_10 (by decide) rfl dX7_river_25 ?_
    refine g_iload_n dX7_river_28 rfl ?_
    obtain ⟨r1, hq, hf⟩ := bnd hf
    refine g_cV_I_V (c_X4_restart_1 hq) cv_X7_68 (by decide) (cel_1 _ _ _) rfl ⟨by decide, by decide⟩ (Nat.le_of_ble_eq_true rfl) dX7_river_29 ?_
    refine g_iload_n dX7_river_32 rfl ?_
    exact g_iret_w hr hf dX7_river_33
  · have hf := ite_t hc hf
    refine g_aload_n dX7_river_9 rfl ?_
    refine g_bipush (v := (-2)) dX7_river_10 (by decide) ?_
    obtain ⟨r2, hq, hf⟩ := bnd hf
    refine g_cV_I_I (c_X7_refuseBad (r := r2.1) (M1 := r2.2) hq) cv_X7_60 (by decide) (cel_0 _ _ _) rfl ⟨by decide, by decide⟩ (Nat.le_of_ble_eq_true rfl) dX7_river_12 ?_
    exact g_iret_w hr hf dX7_river_15
-- X7_isRule
def f_X7_isRule (x0 : Int32) (x1 : Int32) : Int32 :=
  if (f_X7_isBelow x0 (6 : Int32)) = 0 then ((0 : Int32))
  else (if (f_X7_isBelow x1 (16 : Int32)) = 0 then ((0 : Int32))
  else ((1 : Int32)))
set_option maxHeartbeats 4000000 in
set_option maxRecDepth 100000 in
theorem c_X7_isRule {l : Launch} {x0 : Int32} {x1 : Int32} {M : Mem} {r : Int32} (hf : f_X7_isRule x0 x1 = r) : Cn l yX7_isRule cX7_isRule 2 (some .boolean) 1 21 (fun E => [.int x0, .int x1]) M (some (.int r), M) := by
  unfold f_X7_isRule at hf
  refine cn_of RX7 (fun E => [some (.int x0), some (.int x1)]) (by decide +kernel) rfl (fun E => Nat.le_of_ble_eq_true rfl) (fun E => rfl) (fun X hr => ?_)
  refine g_iload_n dX7_isRule_0 rfl ?_
  refine g_bipush (v := 6) dX7_isRule_1 (by decide) ?_
  refine g_cS_II_I (c_X7_isBelow rfl) cs_X7_56 ⟨by decide, by decide⟩ (Nat.le_of_ble_eq_true rfl) dX7_isRule_3 ?_
  refine g_if_eq (tgt := 22) dX7_isRule_6 (by decide) (fun hc => ?_) (fun hc => ?_)
  · have hf := ite_t hc hf
    refine g_iconst (v := 0) dX7_isRule_22 (by decide) ?_
    exact g_zret_t hr (Or.inl rfl) hf dX7_isRule_23
  · have hf := ite_f hc hf
    refine g_iload_n dX7_isRule_9 rfl ?_
    refine g_bipush (v := 16) dX7_isRule_10 (by decide) ?_
    refine g_cS_II_I (c_X7_isBelow rfl) cs_X7_56 ⟨by decide, by decide⟩ (Nat.le_of_ble_eq_true rfl) dX7_isRule_12 ?_
    refine g_if_eq (tgt := 22) dX7_isRule_15 (by decide) (fun hc => ?_) (fun hc => ?_)
    · have hf := ite_t hc hf
      refine g_iconst (v := 0) dX7_isRule_22 (by decide) ?_
      exact g_zret_t hr (Or.inl rfl) hf dX7_isRule_23
    · have hf := ite_f hc hf
      refine g_iconst (v := 1) dX7_isRule_18 (by decide) ?_
      refine g_goto (tgt := 23) dX7_isRule_19 (by decide) ?_
      exact g_zret_t hr (Or.inr rfl) hf dX7_isRule_23
theorem z_X7_isRule  {x0 : Int32} {x1 : Int32} : f_X7_isRule x0 x1 = 0 ∨ f_X7_isRule x0 x1 = 1 := by
  unfold f_X7_isRule
  first | exact z_X7_isBelow | exact z_X7_isBelow | (repeat' split) <;> first | exact Or.inl rfl | exact Or.inr rfl | exact z_X7_isBelow | exact z_X7_isBelow
-- X7_refuseFull
def f_X7_refuseFull  (M : Mem) : Option (Int32 × Mem) :=
  let M1 := mI M 0 11 ((M.1 0 11) + (1 : Int32))
  some ((-4 : Int32), M1)
set_option maxHeartbeats 4000000 in
set_option maxRecDepth 100000 in
theorem c_X7_refuseFull {l : Launch}  {M : Mem} {r : Int32} {M1 : Mem} (hf : f_X7_refuseFull M = some (r, M1)) : Cn l yX7_refuseFull cX7_refuseFull 1 (some .int) 0 0 (fun E => [.ref (E.1 0)]) M (some (.int r), M1) := by
  unfold f_X7_refuseFull at hf
  refine cn_of RX7 (fun E => [some (.ref (E.1 0))]) (by decide +kernel) rfl (fun E => Nat.le_of_ble_eq_true rfl) (fun E => rfl) (fun X hr => ?_)
  refine g_aload_n dX7_refuseFull_0 rfl ?_
  refine g_dup dX7_refuseFull_1 rfl ?_
  refine g_get (kk := 0) (by decide) (cel_0 _ _ _) rfl inX7 fl_X7_243 (by decide) rfl dX7_refuseFull_2 ?_
  refine g_iconst (v := 1) dX7_refuseFull_5 (by decide) ?_
  refine g_iadd dX7_refuseFull_6 ?_
  refine g_putI (kk := 0) (by decide) (cel_0 _ _ _) (pI_0_11 _ _ _ _) rfl inX7 tyX7_ok nmX7 fl_X7_243 (by decide) (Nat.le_of_ble_eq_true rfl) rfl (by decide +kernel) dX7_refuseFull_7 ?_
  refine g_bipush (v := (-4)) dX7_refuseFull_10 (by decide) ?_
  exact g_iret_w hr hf dX7_refuseFull_12
-- X4_build_1
def f_X4_build_1 (x1 : Int32) (x2 : Int32) (x3 : Int32) (x4 : Int32) (M : Mem) : Option (Int32 × Mem) :=
  if (M.1 1 6) < (8 : Int32) then (ck (M.1 1 6) 8 <|
  let M1 := mI M 2 ((M.1 1 6).toNatClampNeg) x1
  ck (M.1 1 6) 8 <|
  let M2 := mI M1 3 ((M.1 1 6).toNatClampNeg) x2
  ck (M.1 1 6) 8 <|
  let M3 := mI M2 4 ((M.1 1 6).toNatClampNeg) x3
  ck (M.1 1 6) 8 <|
  let M4 := mI M3 5 ((M.1 1 6).toNatClampNeg) x4
  let M5 := mI M4 1 6 ((M4.1 1 6) + (1 : Int32))
  let M6 := mI M5 1 8 (0 : Int32)
  some ((M.1 1 6), M6))
  else (some ((-1 : Int32), M))
set_option maxHeartbeats 4000000 in
set_option maxRecDepth 100000 in
theorem c_X4_build_1 {l : Launch} {x1 : Int32} {x2 : Int32} {x3 : Int32} {x4 : Int32} {M : Mem} {r : Int32} {M1 : Mem} (hf : f_X4_build_1 x1 x2 x3 x4 M = some (r, M1)) : Cn l yX4_build cX4_build 6 (some .int) 0 0 (fun E => [.ref (E.1 1), .int x1, .int x2, .int x3, .int x4]) M (some (.int r), M1) := by
  unfold f_X4_build_1 at hf
  refine cn_of RX4 (fun E => [some (.ref (E.1 1)), some (.int x1), some (.int x2), some (.int x3), some (.int x4), none]) (by decide +kernel) rfl (fun E => Nat.le_of_ble_eq_true rfl) (fun E => rfl) (fun X hr => ?_)
  refine g_aload_n dX4_build_0 rfl ?_
  refine g_get (kk := 1) (by decide) (cel_1 _ _ _) rfl inX4 fl_X4_47 (by decide) rfl dX4_build_1 ?_
  refine g_bipush (v := 8) dX4_build_4 (by decide) ?_
  refine g_icmp_lt (tgt := 11) dX4_build_6 (by decide) (fun hc => ?_) (fun hc => ?_)
  · have hf := ite_t hc hf
    refine g_aload_n dX4_build_11 rfl ?_
    refine g_get (kk := 1) (by decide) (cel_1 _ _ _) rfl inX4 fl_X4_47 (by decide) rfl dX4_build_12 ?_
    refine g_ist5 dX4_build_15 (by decide) lnl_i ?_
    refine g_aload_n dX4_build_17 rfl ?_
    refine g_get (kk := 1) (by decide) (cel_1 _ _ _) rfl inX4 fl_X4_9 (by decide) rfl dX4_build_18 ?_
    refine g_iload dX4_build_21 rfl ?_
    refine g_iload_n dX4_build_23 rfl ?_
    obtain ⟨hi, hf⟩ := ck_s hf
    refine g_iastore (kk := 2) (by decide) (fun f g => cel_2 _ f g) hi rfl dX4_build_24 ?_
    refine g_aload_n dX4_build_25 rfl ?_
    refine g_get (kk := 1) (by decide) (cel_1 _ _ _) rfl inX4 fl_X4_15 (by decide) rfl dX4_build_26 ?_
    refine g_iload dX4_build_29 rfl ?_
    refine g_iload_n dX4_build_31 rfl ?_
    obtain ⟨hi, hf⟩ := ck_s hf
    refine g_iastore (kk := 3) (by decide) (fun f g => cel_3 _ f g) hi rfl dX4_build_32 ?_
    refine g_aload_n dX4_build_33 rfl ?_
    refine g_get (kk := 1) (by decide) (cel_1 _ _ _) rfl inX4 fl_X4_18 (by decide) rfl dX4_build_34 ?_
    refine g_iload dX4_build_37 rfl ?_
    refine g_iload_n dX4_build_39 rfl ?_
    obtain ⟨hi, hf⟩ := ck_s hf
    refine g_iastore (kk := 4) (by decide) (fun f g => cel_4 _ f g) hi rfl dX4_build_40 ?_
    refine g_aload_n dX4_build_41 rfl ?_
    refine g_get (kk := 1) (by decide) (cel_1 _ _ _) rfl inX4 fl_X4_21 (by decide) rfl dX4_build_42 ?_
    refine g_iload dX4_build_45 rfl ?_
    refine g_iload dX4_build_47 rfl ?_
    obtain ⟨hi, hf⟩ := ck_s hf
    refine g_iastore (kk := 5) (by decide) (fun f g => cel_5 _ f g) hi rfl dX4_build_49 ?_
    refine g_aload_n dX4_build_50 rfl ?_
    refine g_dup dX4_build_51 rfl ?_
    refine g_get (kk := 1) (by decide) (cel_1 _ _ _) rfl inX4 fl_X4_47 (by decide) rfl dX4_build_52 ?_
    refine g_iconst (v := 1) dX4_build_55 (by decide) ?_
    refine g_iadd dX4_build_56 ?_
    refine g_putI (kk := 1) (by decide) (cel_1 _ _ _) (pI_1_6 _ _ _ _) rfl inX4 tyX4_ok nmX4 fl_X4_47 (by decide) (Nat.le_of_ble_eq_true rfl) rfl (by decide +kernel) dX4_build_57 ?_
    refine g_aload_n dX4_build_60 rfl ?_
    refine g_iconst (v := 0) dX4_build_61 (by decide) ?_
    refine g_putI (kk := 1) (by decide) (cel_1 _ _ _) (pI_1_8 _ _ _ _) rfl inX4 tyX4_ok nmX4 fl_X4_53 (by decide) (Nat.le_of_ble_eq_true rfl) rfl (by decide +kernel) dX4_build_62 ?_
    refine g_iload dX4_build_65 rfl ?_
    exact g_iret_w hr hf dX4_build_67
  · have hf := ite_f hc hf
    refine g_iconst (v := (-1)) dX4_build_9 (by decide) ?_
    exact g_iret_w hr hf dX4_build_10
-- X7_bridge
def f_X7_bridge (x1 : Int32) (x2 : Int32) (x3 : Int32) (x4 : Int32) (M : Mem) : Option (Int32 × Mem) :=
  if (f_X7_isBelow x1 (6 : Int32)) = 0 then ((f_X7_refuseBad (-2 : Int32) M).bind fun r1 =>
  some (r1.1, r1.2))
  else (if (f_X7_isBelow x2 (6 : Int32)) = 0 then ((f_X7_refuseBad (-2 : Int32) M).bind fun r2 =>
  some (r2.1, r2.2))
  else (if x1 = x2 then ((f_X7_refuseBad (-2 : Int32) M).bind fun r3 =>
  some (r3.1, r3.2))
  else (if (f_X7_isRule x3 x4) = 0 then ((f_X7_refuseBad (-2 : Int32) M).bind fun r6 =>
  some (r6.1, r6.2))
  else (if (M.1 1 6) < (8 : Int32) then ((f_X4_build_1 x1 x2 x3 x4 M).bind fun r4 =>
  some (r4.1, r4.2))
  else ((f_X7_refuseFull M).bind fun r5 =>
  some (r5.1, r5.2))))))
set_option maxHeartbeats 4000000 in
set_option maxRecDepth 100000 in
theorem c_X7_bridge {l : Launch} {x1 : Int32} {x2 : Int32} {x3 : Int32} {x4 : Int32} {M : Mem} {r : Int32} {M1 : Mem} (hf : f_X7_bridge x1 x2 x3 x4 M = some (r, M1)) : Cn l yX7_bridge cX7_bridge 5 (some .int) 2 42 (fun E => [.ref (E.1 0), .int x1, .int x2, .int x3, .int x4]) M (some (.int r), M1) := by
  unfold f_X7_bridge at hf
  refine cn_of RX7 (fun E => [some (.ref (E.1 0)), some (.int x1), some (.int x2), some (.int x3), some (.int x4)]) (by decide +kernel) rfl (fun E => Nat.le_of_ble_eq_true rfl) (fun E => rfl) (fun X hr => ?_)
  refine g_iload_n dX7_bridge_0 rfl ?_
  refine g_bipush (v := 6) dX7_bridge_1 (by decide) ?_
  refine g_cS_II_I (c_X7_isBelow rfl) cs_X7_56 ⟨by decide, by decide⟩ (Nat.le_of_ble_eq_true rfl) dX7_bridge_3 ?_
  refine g_if_eq (tgt := 32) dX7_bridge_6 (by decide) (fun hc => ?_) (fun hc => ?_)
  · have hf := ite_t hc hf
    refine g_aload_n dX7_bridge_32 rfl ?_
    refine g_bipush (v := (-2)) dX7_bridge_33 (by decide) ?_
    obtain ⟨r1, hq, hf⟩ := bnd hf
    refine g_cV_I_I (c_X7_refuseBad (r := r1.1) (M1 := r1.2) hq) cv_X7_60 (by decide) (cel_0 _ _ _) rfl ⟨by decide, by decide⟩ (Nat.le_of_ble_eq_true rfl) dX7_bridge_35 ?_
    exact g_iret_w hr hf dX7_bridge_38
  · have hf := ite_f hc hf
    refine g_iload_n dX7_bridge_9 rfl ?_
    refine g_bipush (v := 6) dX7_bridge_10 (by decide) ?_
    refine g_cS_II_I (c_X7_isBelow rfl) cs_X7_56 ⟨by decide, by decide⟩ (Nat.le_of_ble_eq_true rfl) dX7_bridge_12 ?_
    refine g_if_eq (tgt := 32) dX7_bridge_15 (by decide) (fun hc => ?_) (fun hc => ?_)
    · have hf := ite_t hc hf
      refine g_aload_n dX7_bridge_32 rfl ?_
      refine g_bipush (v := (-2)) dX7_bridge_33 (by decide) ?_
      obtain ⟨r2, hq, hf⟩ := bnd hf
      refine g_cV_I_I (c_X7_refuseBad (r := r2.1) (M1 := r2.2) hq) cv_X7_60 (by decide) (cel_0 _ _ _) rfl ⟨by decide, by decide⟩ (Nat.le_of_ble_eq_true rfl) dX7_bridge_35 ?_
      exact g_iret_w hr hf dX7_bridge_38
    · have hf := ite_f hc hf
      refine g_iload_n dX7_bridge_18 rfl ?_
      refine g_iload_n dX7_bridge_19 rfl ?_
      refine g_icmp_eq (tgt := 32) dX7_bridge_20 (by decide) (fun hc => ?_) (fun hc => ?_)
      · have hf := ite_t hc hf
        refine g_aload_n dX7_bridge_32 rfl ?_
        refine g_bipush (v := (-2)) dX7_bridge_33 (by decide) ?_
        obtain ⟨r3, hq, hf⟩ := bnd hf
        refine g_cV_I_I (c_X7_refuseBad (r := r3.1) (M1 := r3.2) hq) cv_X7_60 (by decide) (cel_0 _ _ _) rfl ⟨by decide, by decide⟩ (Nat.le_of_ble_eq_true rfl) dX7_bridge_35 ?_
        exact g_iret_w hr hf dX7_bridge_38
      · have hf := ite_f hc hf
        refine g_iload_n dX7_bridge_23 rfl ?_
        refine g_iload dX7_bridge_24 rfl ?_
        refine g_cS_II_I (c_X7_isRule rfl) cs_X7_72 ⟨by decide, by decide⟩ (Nat.le_of_ble_eq_true rfl) dX7_bridge_26 ?_
        refine g_if_ne (tgt := 39) dX7_bridge_29 (by decide) (fun hc => ?_) (fun hc => ?_)
        · have hf := ite_f hc hf
          refine g_aload_n dX7_bridge_39 rfl ?_
          refine g_get (kk := 0) (by decide) (cel_0 _ _ _) rfl inX7 fl_X7_10 (by decide) rfl dX7_bridge_40 ?_
          refine g_get (kk := 1) (by decide) (cel_1 _ _ _) rfl inX4 fl_X7_64 (by decide) rfl dX7_bridge_43 ?_
          refine g_bipush (v := 8) dX7_bridge_46 (by decide) ?_
          refine g_icmp_lt (tgt := 56) dX7_bridge_48 (by decide) (fun hc => ?_) (fun hc => ?_)
          · have hf := ite_t hc hf
            refine g_aload_n dX7_bridge_56 rfl ?_
            refine g_get (kk := 0) (by decide) (cel_0 _ _ _) rfl inX7 fl_X7_10 (by decide) rfl dX7_bridge_57 ?_
            refine g_iload_n dX7_bridge_60 rfl ?_
            refine g_iload_n dX7_bridge_61 rfl ?_
            refine g_iload_n dX7_bridge_62 rfl ?_
            refine g_iload dX7_bridge_63 rfl ?_
            obtain ⟨r4, hq, hf⟩ := bnd hf
            refine g_cV_IIII_I (c_X4_build_1 (r := r4.1) (M1 := r4.2) hq) cv_X7_79 (by decide) (cel_1 _ _ _) rfl ⟨by decide, by decide⟩ (Nat.le_of_ble_eq_true rfl) dX7_bridge_65 ?_
            exact g_iret_w hr hf dX7_bridge_68
          · have hf := ite_f hc hf
            refine g_aload_n dX7_bridge_51 rfl ?_
            obtain ⟨r5, hq, hf⟩ := bnd hf
            refine g_cV_0_I (c_X7_refuseFull (r := r5.1) (M1 := r5.2) hq) cv_X7_75 (by decide) (cel_0 _ _ _) rfl ⟨by decide, by decide⟩ (Nat.le_of_ble_eq_true rfl) dX7_bridge_52 ?_
            exact g_iret_w hr hf dX7_bridge_55
        · have hf := ite_t hc hf
          refine g_aload_n dX7_bridge_32 rfl ?_
          refine g_bipush (v := (-2)) dX7_bridge_33 (by decide) ?_
          obtain ⟨r6, hq, hf⟩ := bnd hf
          refine g_cV_I_I (c_X7_refuseBad (r := r6.1) (M1 := r6.2) hq) cv_X7_60 (by decide) (cel_0 _ _ _) rfl ⟨by decide, by decide⟩ (Nat.le_of_ble_eq_true rfl) dX7_bridge_35 ?_
          exact g_iret_w hr hf dX7_bridge_38
-- X7_isBridge
def f_X7_isBridge (M : Mem) (x1 : Int32) : Int32 :=
  (f_X7_isBelow x1 (M.1 1 6))
set_option maxHeartbeats 4000000 in
set_option maxRecDepth 100000 in
theorem c_X7_isBridge {l : Launch} {x1 : Int32} {M : Mem} {r : Int32} (hf : f_X7_isBridge M x1 = r) : Cn l yX7_isBridge cX7_isBridge 2 (some .boolean) 1 21 (fun E => [.ref (E.1 0), .int x1]) M (some (.int r), M) := by
  unfold f_X7_isBridge at hf
  refine cn_of RX7 (fun E => [some (.ref (E.1 0)), some (.int x1)]) (by decide +kernel) rfl (fun E => Nat.le_of_ble_eq_true rfl) (fun E => rfl) (fun X hr => ?_)
  refine g_iload_n dX7_isBridge_0 rfl ?_
  refine g_aload_n dX7_isBridge_1 rfl ?_
  refine g_get (kk := 0) (by decide) (cel_0 _ _ _) rfl inX7 fl_X7_10 (by decide) rfl dX7_isBridge_2 ?_
  refine g_get (kk := 1) (by decide) (cel_1 _ _ _) rfl inX4 fl_X7_64 (by decide) rfl dX7_isBridge_5 ?_
  refine g_cS_II_I (c_X7_isBelow rfl) cs_X7_56 ⟨by decide, by decide⟩ (Nat.le_of_ble_eq_true rfl) dX7_isBridge_8 ?_
  exact g_zret_t hr (z_X7_isBelow) hf dX7_isBridge_11
theorem z_X7_isBridge {M : Mem} {x1 : Int32} : f_X7_isBridge M x1 = 0 ∨ f_X7_isBridge M x1 = 1 := by
  unfold f_X7_isBridge
  first | exact z_X7_isBelow | (repeat' split) <;> first | exact Or.inl rfl | exact Or.inr rfl | exact z_X7_isBelow
-- X4_remember_1
def b_X4_remember_1_45   (x1 : Int32) (x2 : Int32) (M : Mem) : Option Mem :=
  ck (M.1 1 8) 8 <|
  let M1 := mI M 12 ((M.1 1 8).toNatClampNeg) x1
  ck (M1.1 1 8) 8 <|
  let M2 := mI M1 13 ((M1.1 1 8).toNatClampNeg) x2
  let M3 := mI M2 1 8 ((M2.1 1 8) + (1 : Int32))
  some M3
set_option maxHeartbeats 4000000 in
set_option maxRecDepth 100000 in
theorem w_X4_remember_1_45 {X : Cx} {M1 : Mem}      {x1 : Int32} {x2 : Int32} {M : Mem} (hr : X.meth.sig.returnType = none) (hf : b_X4_remember_1_45 x1 x2 M = some M1) : G X (none, M1) RX4 cX4_remember 3 1 60 45 [some (.ref (X.1.1 1)), some (.int x1), some (.int x2)] [] M := by
  unfold b_X4_remember_1_45 at hf
  refine g_aload_n dX4_remember_45 rfl ?_
  refine g_get (kk := 1) (by decide) (cel_1 _ _ _) rfl inX4 fl_X4_35 (by decide) rfl dX4_remember_46 ?_
  refine g_aload_n dX4_remember_49 rfl ?_
  refine g_get (kk := 1) (by decide) (cel_1 _ _ _) rfl inX4 fl_X4_53 (by decide) rfl dX4_remember_50 ?_
  refine g_iload_n dX4_remember_53 rfl ?_
  obtain ⟨hi, hf⟩ := ck_s hf
  refine g_iastore (kk := 12) (by decide) (fun f g => cel_12 _ f g) hi rfl dX4_remember_54 ?_
  refine g_aload_n dX4_remember_55 rfl ?_
  refine g_get (kk := 1) (by decide) (cel_1 _ _ _) rfl inX4 fl_X4_38 (by decide) rfl dX4_remember_56 ?_
  refine g_aload_n dX4_remember_59 rfl ?_
  refine g_get (kk := 1) (by decide) (cel_1 _ _ _) rfl inX4 fl_X4_53 (by decide) rfl dX4_remember_60 ?_
  refine g_iload_n dX4_remember_63 rfl ?_
  obtain ⟨hi, hf⟩ := ck_s hf
  refine g_iastore (kk := 13) (by decide) (fun f g => cel_13 _ f g) hi rfl dX4_remember_64 ?_
  refine g_aload_n dX4_remember_65 rfl ?_
  refine g_dup dX4_remember_66 rfl ?_
  refine g_get (kk := 1) (by decide) (cel_1 _ _ _) rfl inX4 fl_X4_53 (by decide) rfl dX4_remember_67 ?_
  refine g_iconst (v := 1) dX4_remember_70 (by decide) ?_
  refine g_iadd dX4_remember_71 ?_
  refine g_putI (kk := 1) (by decide) (cel_1 _ _ _) (pI_1_8 _ _ _ _) rfl inX4 tyX4_ok nmX4 fl_X4_53 (by decide) (Nat.le_of_ble_eq_true rfl) rfl (by decide +kernel) dX4_remember_72 ?_
  exact g_vret_w hr hf dX4_remember_75
def f_X4_remember_1 (x1 : Int32) (x2 : Int32) (M : Mem) : Option Mem :=
  if (M.1 1 8) < (8 : Int32) then (b_X4_remember_1_45 x1 x2 M)
  else (let M4 := rI M 12 (va_cpy (M.1 12) (M.1 12) 1 0 7)
  let M5 := rI M4 13 (va_cpy (M4.1 13) (M4.1 13) 1 0 7)
  let M6 := mI M5 1 8 (7 : Int32)
  b_X4_remember_1_45 x1 x2 M6)
set_option maxHeartbeats 4000000 in
set_option maxRecDepth 100000 in
theorem c_X4_remember_1 {l : Launch} {x1 : Int32} {x2 : Int32} {M : Mem} {M1 : Mem} (hf : f_X4_remember_1 x1 x2 M = some M1) : Cn l yX4_remember cX4_remember 3 none 1 60 (fun E => [.ref (E.1 1), .int x1, .int x2]) M (none, M1) := by
  unfold f_X4_remember_1 at hf
  refine cn_of RX4 (fun E => [some (.ref (E.1 1)), some (.int x1), some (.int x2)]) (by decide +kernel) rfl (fun E => Nat.le_of_ble_eq_true rfl) (fun E => rfl) (fun X hr => ?_)
  refine g_aload_n dX4_remember_0 rfl ?_
  refine g_get (kk := 1) (by decide) (cel_1 _ _ _) rfl inX4 fl_X4_53 (by decide) rfl dX4_remember_1 ?_
  refine g_bipush (v := 8) dX4_remember_4 (by decide) ?_
  refine g_icmp_lt (tgt := 45) dX4_remember_6 (by decide) (fun hc => ?_) (fun hc => ?_)
  · have hf := ite_t hc hf
    exact w_X4_remember_1_45 hr hf
  · have hf := ite_f hc hf
    refine g_aload_n dX4_remember_9 rfl ?_
    refine g_get (kk := 1) (by decide) (cel_1 _ _ _) rfl inX4 fl_X4_35 (by decide) rfl dX4_remember_10 ?_
    refine g_iconst (v := 1) dX4_remember_13 (by decide) ?_
    refine g_aload_n dX4_remember_14 rfl ?_
    refine g_get (kk := 1) (by decide) (cel_1 _ _ _) rfl inX4 fl_X4_35 (by decide) rfl dX4_remember_15 ?_
    refine g_iconst (v := 0) dX4_remember_18 (by decide) ?_
    refine g_bipush (v := 7) dX4_remember_19 (by decide) ?_
    refine g_copyI (k0 := 12) (k1 := 12) ac_X4_56 ac_nat ac_st ac_in (by decide) (fun f g => cel_12 _ f g) (by decide) (fun f g => cel_12 _ f g) (by decide) (by decide) (by decide) (by decide) (by decide) (by decide) (by decide) dX4_remember_21 ?_
    refine g_aload_n dX4_remember_24 rfl ?_
    refine g_get (kk := 1) (by decide) (cel_1 _ _ _) rfl inX4 fl_X4_38 (by decide) rfl dX4_remember_25 ?_
    refine g_iconst (v := 1) dX4_remember_28 (by decide) ?_
    refine g_aload_n dX4_remember_29 rfl ?_
    refine g_get (kk := 1) (by decide) (cel_1 _ _ _) rfl inX4 fl_X4_38 (by decide) rfl dX4_remember_30 ?_
    refine g_iconst (v := 0) dX4_remember_33 (by decide) ?_
    refine g_bipush (v := 7) dX4_remember_34 (by decide) ?_
    refine g_copyI (k0 := 13) (k1 := 13) ac_X4_56 ac_nat ac_st ac_in (by decide) (fun f g => cel_13 _ f g) (by decide) (fun f g => cel_13 _ f g) (by decide) (by decide) (by decide) (by decide) (by decide) (by decide) (by decide) dX4_remember_36 ?_
    refine g_aload_n dX4_remember_39 rfl ?_
    refine g_bipush (v := 7) dX4_remember_40 (by decide) ?_
    refine g_putI (kk := 1) (by decide) (cel_1 _ _ _) (pI_1_8 _ _ _ _) rfl inX4 tyX4_ok nmX4 fl_X4_53 (by decide) (Nat.le_of_ble_eq_true rfl) rfl (by decide +kernel) dX4_remember_42 ?_
    exact w_X4_remember_1_45 hr hf
-- X4_retell_1
def f_X4_retell_1 (x1 : Int32) (x2 : Int32) (x3 : Int32) (M : Mem) : Option (Int32 × Mem) :=
  ck x1 8 <|
  ck x1 8 <|
  (f_X4_remember_1 x1 (((16 : Int32) * (M.1 4 x1.toNatClampNeg)) + (M.1 5 x1.toNatClampNeg)) M).bind fun r1 =>
  ck x1 8 <|
  let M2 := mI r1 4 (x1.toNatClampNeg) x2
  ck x1 8 <|
  let M3 := mI M2 5 (x1.toNatClampNeg) x3
  some ((((16 : Int32) * (M.1 4 x1.toNatClampNeg)) + (M.1 5 x1.toNatClampNeg)), M3)
set_option maxHeartbeats 4000000 in
set_option maxRecDepth 100000 in
theorem c_X4_retell_1 {l : Launch} {x1 : Int32} {x2 : Int32} {x3 : Int32} {M : Mem} {r : Int32} {M1 : Mem} (hf : f_X4_retell_1 x1 x2 x3 M = some (r, M1)) : Cn l yX4_retell cX4_retell 5 (some .int) 2 82 (fun E => [.ref (E.1 1), .int x1, .int x2, .int x3]) M (some (.int r), M1) := by
  unfold f_X4_retell_1 at hf
  refine cn_of RX4 (fun E => [some (.ref (E.1 1)), some (.int x1), some (.int x2), some (.int x3), none]) (by decide +kernel) rfl (fun E => Nat.le_of_ble_eq_true rfl) (fun E => rfl) (fun X hr => ?_)
  refine g_bipush (v := 16) dX4_retell_0 (by decide) ?_
  refine g_aload_n dX4_retell_2 rfl ?_
  refine g_get (kk := 1) (by decide) (cel_1 _ _ _) rfl inX4 fl_X4_18 (by decide) rfl dX4_retell_3 ?_
  refine g_iload_n dX4_retell_6 rfl ?_
  obtain ⟨hi, hf⟩ := ck_s hf
  refine g_iaload (kk := 4) (by decide) (fun f g => cel_4 _ f g) hi rfl dX4_retell_7 ?_
  refine g_imul dX4_retell_8 ?_
  refine g_aload_n dX4_retell_9 rfl ?_
  refine g_get (kk := 1) (by decide) (cel_1 _ _ _) rfl inX4 fl_X4_21 (by decide) rfl dX4_retell_10 ?_
  refine g_iload_n dX4_retell_13 rfl ?_
  obtain ⟨hi, hf⟩ := ck_s hf
  refine g_iaload (kk := 5) (by decide) (fun f g => cel_5 _ f g) hi rfl dX4_retell_14 ?_
  refine g_iadd dX4_retell_15 ?_
  refine g_ist4 dX4_retell_16 (by decide) lnl_i ?_
  refine g_aload_n dX4_retell_18 rfl ?_
  refine g_iload_n dX4_retell_19 rfl ?_
  refine g_iload dX4_retell_20 rfl ?_
  obtain ⟨r1, hq, hf⟩ := bnd hf
  refine g_cV_II_V (c_X4_remember_1 hq) cv_X4_66 (by decide) (cel_1 _ _ _) rfl ⟨by decide, by decide⟩ (Nat.le_of_ble_eq_true rfl) dX4_retell_22 ?_
  refine g_aload_n dX4_retell_25 rfl ?_
  refine g_get (kk := 1) (by decide) (cel_1 _ _ _) rfl inX4 fl_X4_18 (by decide) rfl dX4_retell_26 ?_
  refine g_iload_n dX4_retell_29 rfl ?_
  refine g_iload_n dX4_retell_30 rfl ?_
  obtain ⟨hi, hf⟩ := ck_s hf
  refine g_iastore (kk := 4) (by decide) (fun f g => cel_4 _ f g) hi rfl dX4_retell_31 ?_
  refine g_aload_n dX4_retell_32 rfl ?_
  refine g_get (kk := 1) (by decide) (cel_1 _ _ _) rfl inX4 fl_X4_21 (by decide) rfl dX4_retell_33 ?_
  refine g_iload_n dX4_retell_36 rfl ?_
  refine g_iload_n dX4_retell_37 rfl ?_
  obtain ⟨hi, hf⟩ := ck_s hf
  refine g_iastore (kk := 5) (by decide) (fun f g => cel_5 _ f g) hi rfl dX4_retell_38 ?_
  refine g_iload dX4_retell_39 rfl ?_
  exact g_iret_w hr hf dX4_retell_41
-- X7_rule
def f_X7_rule (x1 : Int32) (x2 : Int32) (x3 : Int32) (M : Mem) : Option (Int32 × Mem) :=
  if (f_X7_isBridge M x1) = 0 then ((f_X7_refuseBad (-2 : Int32) M).bind fun r1 =>
  some (r1.1, r1.2))
  else (if (f_X7_isRule x2 x3) = 0 then ((f_X7_refuseBad (-2 : Int32) M).bind fun r3 =>
  some (r3.1, r3.2))
  else ((f_X4_retell_1 x1 x2 x3 M).bind fun r2 =>
  some (r2.1, r2.2)))
set_option maxHeartbeats 4000000 in
set_option maxRecDepth 100000 in
theorem c_X7_rule {l : Launch} {x1 : Int32} {x2 : Int32} {x3 : Int32} {M : Mem} {r : Int32} {M1 : Mem} (hf : f_X7_rule x1 x2 x3 M = some (r, M1)) : Cn l yX7_rule cX7_rule 4 (some .int) 3 106 (fun E => [.ref (E.1 0), .int x1, .int x2, .int x3]) M (some (.int r), M1) := by
  unfold f_X7_rule at hf
  refine cn_of RX7 (fun E => [some (.ref (E.1 0)), some (.int x1), some (.int x2), some (.int x3)]) (by decide +kernel) rfl (fun E => Nat.le_of_ble_eq_true rfl) (fun E => rfl) (fun X hr => ?_)
  refine g_aload_n dX7_rule_0 rfl ?_
  refine g_iload_n dX7_rule_1 rfl ?_
  refine g_cV_I_I (c_X7_isBridge rfl) cv_X7_83 (by decide) (cel_0 _ _ _) rfl ⟨by decide, by decide⟩ (Nat.le_of_ble_eq_true rfl) dX7_rule_2 ?_
  refine g_if_eq (tgt := 16) dX7_rule_5 (by decide) (fun hc => ?_) (fun hc => ?_)
  · have hf := ite_t hc hf
    refine g_aload_n dX7_rule_16 rfl ?_
    refine g_bipush (v := (-2)) dX7_rule_17 (by decide) ?_
    obtain ⟨r1, hq, hf⟩ := bnd hf
    refine g_cV_I_I (c_X7_refuseBad (r := r1.1) (M1 := r1.2) hq) cv_X7_60 (by decide) (cel_0 _ _ _) rfl ⟨by decide, by decide⟩ (Nat.le_of_ble_eq_true rfl) dX7_rule_19 ?_
    exact g_iret_w hr hf dX7_rule_22
  · have hf := ite_f hc hf
    refine g_iload_n dX7_rule_8 rfl ?_
    refine g_iload_n dX7_rule_9 rfl ?_
    refine g_cS_II_I (c_X7_isRule rfl) cs_X7_72 ⟨by decide, by decide⟩ (Nat.le_of_ble_eq_true rfl) dX7_rule_10 ?_
    refine g_if_ne (tgt := 23) dX7_rule_13 (by decide) (fun hc => ?_) (fun hc => ?_)
    · have hf := ite_f hc hf
      refine g_aload_n dX7_rule_23 rfl ?_
      refine g_get (kk := 0) (by decide) (cel_0 _ _ _) rfl inX7 fl_X7_10 (by decide) rfl dX7_rule_24 ?_
      refine g_iload_n dX7_rule_27 rfl ?_
      refine g_iload_n dX7_rule_28 rfl ?_
      refine g_iload_n dX7_rule_29 rfl ?_
      obtain ⟨r2, hq, hf⟩ := bnd hf
      refine g_cV_III_I (c_X4_retell_1 (r := r2.1) (M1 := r2.2) hq) cv_X7_87 (by decide) (cel_1 _ _ _) rfl ⟨by decide, by decide⟩ (Nat.le_of_ble_eq_true rfl) dX7_rule_30 ?_
      exact g_iret_w hr hf dX7_rule_33
    · have hf := ite_t hc hf
      refine g_aload_n dX7_rule_16 rfl ?_
      refine g_bipush (v := (-2)) dX7_rule_17 (by decide) ?_
      obtain ⟨r3, hq, hf⟩ := bnd hf
      refine g_cV_I_I (c_X7_refuseBad (r := r3.1) (M1 := r3.2) hq) cv_X7_60 (by decide) (cel_0 _ _ _) rfl ⟨by decide, by decide⟩ (Nat.le_of_ble_eq_true rfl) dX7_rule_19 ?_
      exact g_iret_w hr hf dX7_rule_22
-- X4_letPass_1
def f_X4_letPass_1 (x1 : Int32) (M : Mem) : Option Mem :=
  (f_X4_remember_1 (-1 : Int32) (M.1 1 7) M).bind fun r1 =>
  let M2 := mI r1 1 7 (((r1.1 1 7) + x1) - ((r1.1 1 7) + x1) / (12 : Int32) * (12 : Int32))
  some M2
set_option maxHeartbeats 4000000 in
set_option maxRecDepth 100000 in
theorem c_X4_letPass_1 {l : Launch} {x1 : Int32} {M : Mem} {M1 : Mem} (hf : f_X4_letPass_1 x1 M = some M1) : Cn l yX4_letPass cX4_letPass 2 none 2 82 (fun E => [.ref (E.1 1), .int x1]) M (none, M1) := by
  unfold f_X4_letPass_1 at hf
  refine cn_of RX4 (fun E => [some (.ref (E.1 1)), some (.int x1)]) (by decide +kernel) rfl (fun E => Nat.le_of_ble_eq_true rfl) (fun E => rfl) (fun X hr => ?_)
  refine g_aload_n dX4_letPass_0 rfl ?_
  refine g_iconst (v := (-1)) dX4_letPass_1 (by decide) ?_
  refine g_aload_n dX4_letPass_2 rfl ?_
  refine g_get (kk := 1) (by decide) (cel_1 _ _ _) rfl inX4 fl_X4_50 (by decide) rfl dX4_letPass_3 ?_
  obtain ⟨r1, hq, hf⟩ := bnd hf
  refine g_cV_II_V (c_X4_remember_1 hq) cv_X4_66 (by decide) (cel_1 _ _ _) rfl ⟨by decide, by decide⟩ (Nat.le_of_ble_eq_true rfl) dX4_letPass_6 ?_
  refine g_aload_n dX4_letPass_9 rfl ?_
  refine g_aload_n dX4_letPass_10 rfl ?_
  refine g_get (kk := 1) (by decide) (cel_1 _ _ _) rfl inX4 fl_X4_50 (by decide) rfl dX4_letPass_11 ?_
  refine g_iload_n dX4_letPass_14 rfl ?_
  refine g_iadd dX4_letPass_15 ?_
  refine g_bipush (v := 12) dX4_letPass_16 (by decide) ?_
  refine g_irem dX4_letPass_18 (by decide) ?_
  refine g_putI (kk := 1) (by decide) (cel_1 _ _ _) (pI_1_7 _ _ _ _) rfl inX4 tyX4_ok nmX4 fl_X4_50 (by decide) (Nat.le_of_ble_eq_true rfl) rfl (by decide +kernel) dX4_letPass_19 ?_
  exact g_vret_w hr hf dX4_letPass_22
-- X7_month
def f_X7_month (x1 : Int32) (M : Mem) : Option (Int32 × Mem) :=
  if x1 < (1 : Int32) then ((f_X7_refuseBad (-2 : Int32) M).bind fun r1 =>
  some (r1.1, r1.2))
  else (if x1 < (12 : Int32) then ((f_X4_letPass_1 x1 M).bind fun r2 =>
  some ((r2.1 1 7), r2))
  else ((f_X7_refuseBad (-2 : Int32) M).bind fun r3 =>
  some (r3.1, r3.2)))
set_option maxHeartbeats 4000000 in
set_option maxRecDepth 100000 in
theorem c_X7_month {l : Launch} {x1 : Int32} {M : Mem} {r : Int32} {M1 : Mem} (hf : f_X7_month x1 M = some (r, M1)) : Cn l yX7_month cX7_month 2 (some .int) 3 103 (fun E => [.ref (E.1 0), .int x1]) M (some (.int r), M1) := by
  unfold f_X7_month at hf
  refine cn_of RX7 (fun E => [some (.ref (E.1 0)), some (.int x1)]) (by decide +kernel) rfl (fun E => Nat.le_of_ble_eq_true rfl) (fun E => rfl) (fun X hr => ?_)
  refine g_iload_n dX7_month_0 rfl ?_
  refine g_iconst (v := 1) dX7_month_1 (by decide) ?_
  refine g_icmp_lt (tgt := 11) dX7_month_2 (by decide) (fun hc => ?_) (fun hc => ?_)
  · have hf := ite_t hc hf
    refine g_aload_n dX7_month_11 rfl ?_
    refine g_bipush (v := (-2)) dX7_month_12 (by decide) ?_
    obtain ⟨r1, hq, hf⟩ := bnd hf
    refine g_cV_I_I (c_X7_refuseBad (r := r1.1) (M1 := r1.2) hq) cv_X7_60 (by decide) (cel_0 _ _ _) rfl ⟨by decide, by decide⟩ (Nat.le_of_ble_eq_true rfl) dX7_month_14 ?_
    exact g_iret_w hr hf dX7_month_17
  · have hf := ite_f hc hf
    refine g_iload_n dX7_month_5 rfl ?_
    refine g_bipush (v := 12) dX7_month_6 (by decide) ?_
    refine g_icmp_lt (tgt := 18) dX7_month_8 (by decide) (fun hc => ?_) (fun hc => ?_)
    · have hf := ite_t hc hf
      refine g_aload_n dX7_month_18 rfl ?_
      refine g_get (kk := 0) (by decide) (cel_0 _ _ _) rfl inX7 fl_X7_10 (by decide) rfl dX7_month_19 ?_
      refine g_iload_n dX7_month_22 rfl ?_
      obtain ⟨r2, hq, hf⟩ := bnd hf
      refine g_cV_I_V (c_X4_letPass_1 hq) cv_X7_91 (by decide) (cel_1 _ _ _) rfl ⟨by decide, by decide⟩ (Nat.le_of_ble_eq_true rfl) dX7_month_23 ?_
      refine g_aload_n dX7_month_26 rfl ?_
      refine g_get (kk := 0) (by decide) (cel_0 _ _ _) rfl inX7 fl_X7_10 (by decide) rfl dX7_month_27 ?_
      refine g_get (kk := 1) (by decide) (cel_1 _ _ _) rfl inX4 fl_X7_94 (by decide) rfl dX7_month_30 ?_
      exact g_iret_w hr hf dX7_month_33
    · have hf := ite_f hc hf
      refine g_aload_n dX7_month_11 rfl ?_
      refine g_bipush (v := (-2)) dX7_month_12 (by decide) ?_
      obtain ⟨r3, hq, hf⟩ := bnd hf
      refine g_cV_I_I (c_X7_refuseBad (r := r3.1) (M1 := r3.2) hq) cv_X7_60 (by decide) (cel_0 _ _ _) rfl ⟨by decide, by decide⟩ (Nat.le_of_ble_eq_true rfl) dX7_month_14 ?_
      exact g_iret_w hr hf dX7_month_17
-- X7_refuseNo
def f_X7_refuseNo  (M : Mem) : Option (Int32 × Mem) :=
  let M1 := mI M 0 10 ((M.1 0 10) + (1 : Int32))
  some ((-3 : Int32), M1)
set_option maxHeartbeats 4000000 in
set_option maxRecDepth 100000 in
theorem c_X7_refuseNo {l : Launch}  {M : Mem} {r : Int32} {M1 : Mem} (hf : f_X7_refuseNo M = some (r, M1)) : Cn l yX7_refuseNo cX7_refuseNo 1 (some .int) 0 0 (fun E => [.ref (E.1 0)]) M (some (.int r), M1) := by
  unfold f_X7_refuseNo at hf
  refine cn_of RX7 (fun E => [some (.ref (E.1 0))]) (by decide +kernel) rfl (fun E => Nat.le_of_ble_eq_true rfl) (fun E => rfl) (fun X hr => ?_)
  refine g_aload_n dX7_refuseNo_0 rfl ?_
  refine g_dup dX7_refuseNo_1 rfl ?_
  refine g_get (kk := 0) (by decide) (cel_0 _ _ _) rfl inX7 fl_X7_240 (by decide) rfl dX7_refuseNo_2 ?_
  refine g_iconst (v := 1) dX7_refuseNo_5 (by decide) ?_
  refine g_iadd dX7_refuseNo_6 ?_
  refine g_putI (kk := 0) (by decide) (cel_0 _ _ _) (pI_0_10 _ _ _ _) rfl inX7 tyX7_ok nmX7 fl_X7_240 (by decide) (Nat.le_of_ble_eq_true rfl) rfl (by decide +kernel) dX7_refuseNo_7 ?_
  refine g_bipush (v := (-3)) dX7_refuseNo_10 (by decide) ?_
  exact g_iret_w hr hf dX7_refuseNo_12
-- X4_takeBack_1
def f_X4_takeBack_1  (M : Mem) : Option Mem :=
  if 0 < (M.1 1 8) then (let M1 := mI M 1 8 ((M.1 1 8) - (1 : Int32))
  ck (M1.1 1 8) 8 <|
  ck (M1.1 1 8) 8 <|
  if (M1.1 12 (M1.1 1 8).toNatClampNeg) = (-1 : Int32) then (let M4 := mI M1 1 7 (M1.1 13 (M1.1 1 8).toNatClampNeg)
  some M4)
  else (ck (M1.1 12 (M1.1 1 8).toNatClampNeg) 8 <|
  let M2 := mI M1 4 ((M1.1 12 (M1.1 1 8).toNatClampNeg).toNatClampNeg) ((M1.1 13 (M1.1 1 8).toNatClampNeg) / (16 : Int32))
  ck (M1.1 12 (M1.1 1 8).toNatClampNeg) 8 <|
  let M3 := mI M2 5 ((M1.1 12 (M1.1 1 8).toNatClampNeg).toNatClampNeg) ((M1.1 13 (M1.1 1 8).toNatClampNeg) - (M1.1 13 (M1.1 1 8).toNatClampNeg) / (16 : Int32) * (16 : Int32))
  some M3))
  else (some M)
set_option maxHeartbeats 4000000 in
set_option maxRecDepth 100000 in
theorem c_X4_takeBack_1 {l : Launch}  {M : Mem} {M1 : Mem} (hf : f_X4_takeBack_1 M = some M1) : Cn l yX4_takeBack cX4_takeBack 3 none 0 0 (fun E => [.ref (E.1 1)]) M (none, M1) := by
  unfold f_X4_takeBack_1 at hf
  refine cn_of RX4 (fun E => [some (.ref (E.1 1)), none, none]) (by decide +kernel) rfl (fun E => Nat.le_of_ble_eq_true rfl) (fun E => rfl) (fun X hr => ?_)
  refine g_aload_n dX4_takeBack_0 rfl ?_
  refine g_get (kk := 1) (by decide) (cel_1 _ _ _) rfl inX4 fl_X4_53 (by decide) rfl dX4_takeBack_1 ?_
  refine g_if_gt (tgt := 8) dX4_takeBack_4 (by decide) (fun hc => ?_) (fun hc => ?_)
  · have hf := ite_t hc hf
    refine g_aload_n dX4_takeBack_8 rfl ?_
    refine g_dup dX4_takeBack_9 rfl ?_
    refine g_get (kk := 1) (by decide) (cel_1 _ _ _) rfl inX4 fl_X4_53 (by decide) rfl dX4_takeBack_10 ?_
    refine g_iconst (v := 1) dX4_takeBack_13 (by decide) ?_
    refine g_isub dX4_takeBack_14 ?_
    refine g_putI (kk := 1) (by decide) (cel_1 _ _ _) (pI_1_8 _ _ _ _) rfl inX4 tyX4_ok nmX4 fl_X4_53 (by decide) (Nat.le_of_ble_eq_true rfl) rfl (by decide +kernel) dX4_takeBack_15 ?_
    refine g_aload_n dX4_takeBack_18 rfl ?_
    refine g_get (kk := 1) (by decide) (cel_1 _ _ _) rfl inX4 fl_X4_35 (by decide) rfl dX4_takeBack_19 ?_
    refine g_aload_n dX4_takeBack_22 rfl ?_
    refine g_get (kk := 1) (by decide) (cel_1 _ _ _) rfl inX4 fl_X4_53 (by decide) rfl dX4_takeBack_23 ?_
    obtain ⟨hi, hf⟩ := ck_s hf
    refine g_iaload (kk := 12) (by decide) (fun f g => cel_12 _ f g) hi rfl dX4_takeBack_26 ?_
    refine g_ist1 dX4_takeBack_27 (by decide) lnl_r ?_
    refine g_aload_n dX4_takeBack_28 rfl ?_
    refine g_get (kk := 1) (by decide) (cel_1 _ _ _) rfl inX4 fl_X4_38 (by decide) rfl dX4_takeBack_29 ?_
    refine g_aload_n dX4_takeBack_32 rfl ?_
    refine g_get (kk := 1) (by decide) (cel_1 _ _ _) rfl inX4 fl_X4_53 (by decide) rfl dX4_takeBack_33 ?_
    obtain ⟨hi, hf⟩ := ck_s hf
    refine g_iaload (kk := 13) (by decide) (fun f g => cel_13 _ f g) hi rfl dX4_takeBack_36 ?_
    refine g_ist2 dX4_takeBack_37 (by decide) lnl_i ?_
    refine g_iload_n dX4_takeBack_38 rfl ?_
    refine g_iconst (v := (-1)) dX4_takeBack_39 (by decide) ?_
    refine g_icmp_ne (tgt := 51) dX4_takeBack_40 (by decide) (fun hc => ?_) (fun hc => ?_)
    · have hf := ite_f hc hf
      refine g_aload_n dX4_takeBack_51 rfl ?_
      refine g_get (kk := 1) (by decide) (cel_1 _ _ _) rfl inX4 fl_X4_18 (by decide) rfl dX4_takeBack_52 ?_
      refine g_iload_n dX4_takeBack_55 rfl ?_
      refine g_iload_n dX4_takeBack_56 rfl ?_
      refine g_bipush (v := 16) dX4_takeBack_57 (by decide) ?_
      refine g_idiv dX4_takeBack_59 (by decide) ?_
      obtain ⟨hi, hf⟩ := ck_s hf
      refine g_iastore (kk := 4) (by decide) (fun f g => cel_4 _ f g) hi rfl dX4_takeBack_60 ?_
      refine g_aload_n dX4_takeBack_61 rfl ?_
      refine g_get (kk := 1) (by decide) (cel_1 _ _ _) rfl inX4 fl_X4_21 (by decide) rfl dX4_takeBack_62 ?_
      refine g_iload_n dX4_takeBack_65 rfl ?_
      refine g_iload_n dX4_takeBack_66 rfl ?_
      refine g_bipush (v := 16) dX4_takeBack_67 (by decide) ?_
      refine g_irem dX4_takeBack_69 (by decide) ?_
      obtain ⟨hi, hf⟩ := ck_s hf
      refine g_iastore (kk := 5) (by decide) (fun f g => cel_5 _ f g) hi rfl dX4_takeBack_70 ?_
      exact g_vret_w hr hf dX4_takeBack_71
    · have hf := ite_t hc hf
      refine g_aload_n dX4_takeBack_43 rfl ?_
      refine g_iload_n dX4_takeBack_44 rfl ?_
      refine g_putI (kk := 1) (by decide) (cel_1 _ _ _) (pI_1_7 _ _ _ _) rfl inX4 tyX4_ok nmX4 fl_X4_50 (by decide) (Nat.le_of_ble_eq_true rfl) rfl (by decide +kernel) dX4_takeBack_45 ?_
      refine g_goto (tgt := 71) dX4_takeBack_48 (by decide) ?_
      exact g_vret_w hr hf dX4_takeBack_71
  · have hf := ite_f hc hf
    exact g_vret_w hr hf dX4_takeBack_7
-- X7_undo
def f_X7_undo  (M : Mem) : Option (Int32 × Mem) :=
  if 0 < (M.1 1 8) then ((f_X4_takeBack_1 M).bind fun r1 =>
  some ((r1.1 1 7), r1))
  else ((f_X7_refuseNo M).bind fun r2 =>
  some (r2.1, r2.2))
set_option maxHeartbeats 4000000 in
set_option maxRecDepth 100000 in
theorem c_X7_undo {l : Launch}  {M : Mem} {r : Int32} {M1 : Mem} (hf : f_X7_undo M = some (r, M1)) : Cn l yX7_undo cX7_undo 1 (some .int) 1 22 (fun E => [.ref (E.1 0)]) M (some (.int r), M1) := by
  unfold f_X7_undo at hf
  refine cn_of RX7 (fun E => [some (.ref (E.1 0))]) (by decide +kernel) rfl (fun E => Nat.le_of_ble_eq_true rfl) (fun E => rfl) (fun X hr => ?_)
  refine g_aload_n dX7_undo_0 rfl ?_
  refine g_get (kk := 0) (by decide) (cel_0 _ _ _) rfl inX7 fl_X7_10 (by decide) rfl dX7_undo_1 ?_
  refine g_get (kk := 1) (by decide) (cel_1 _ _ _) rfl inX4 fl_X7_97 (by decide) rfl dX7_undo_4 ?_
  refine g_if_gt (tgt := 15) dX7_undo_7 (by decide) (fun hc => ?_) (fun hc => ?_)
  · have hf := ite_t hc hf
    refine g_aload_n dX7_undo_15 rfl ?_
    refine g_get (kk := 0) (by decide) (cel_0 _ _ _) rfl inX7 fl_X7_10 (by decide) rfl dX7_undo_16 ?_
    obtain ⟨r1, hq, hf⟩ := bnd hf
    refine g_cV_0_V (c_X4_takeBack_1 hq) cv_X7_103 (by decide) (cel_1 _ _ _) rfl ⟨by decide, by decide⟩ (Nat.le_of_ble_eq_true rfl) dX7_undo_19 ?_
    refine g_aload_n dX7_undo_22 rfl ?_
    refine g_get (kk := 0) (by decide) (cel_0 _ _ _) rfl inX7 fl_X7_10 (by decide) rfl dX7_undo_23 ?_
    refine g_get (kk := 1) (by decide) (cel_1 _ _ _) rfl inX4 fl_X7_94 (by decide) rfl dX7_undo_26 ?_
    exact g_iret_w hr hf dX7_undo_29
  · have hf := ite_f hc hf
    refine g_aload_n dX7_undo_10 rfl ?_
    obtain ⟨r2, hq, hf⟩ := bnd hf
    refine g_cV_0_I (c_X7_refuseNo (r := r2.1) (M1 := r2.2) hq) cv_X7_100 (by decide) (cel_0 _ _ _) rfl ⟨by decide, by decide⟩ (Nat.le_of_ble_eq_true rfl) dX7_undo_11 ?_
    exact g_iret_w hr hf dX7_undo_14
-- X7_isRow
def f_X7_isRow (x0 : Int32) : Int32 :=
  (f_X7_isBelow x0 (4 : Int32))
set_option maxHeartbeats 4000000 in
set_option maxRecDepth 100000 in
theorem c_X7_isRow {l : Launch} {x0 : Int32} {M : Mem} {r : Int32} (hf : f_X7_isRow x0 = r) : Cn l yX7_isRow cX7_isRow 1 (some .boolean) 1 21 (fun E => [.int x0]) M (some (.int r), M) := by
  unfold f_X7_isRow at hf
  refine cn_of RX7 (fun E => [some (.int x0)]) (by decide +kernel) rfl (fun E => Nat.le_of_ble_eq_true rfl) (fun E => rfl) (fun X hr => ?_)
  refine g_iload_n dX7_isRow_0 rfl ?_
  refine g_iconst (v := 4) dX7_isRow_1 (by decide) ?_
  refine g_cS_II_I (c_X7_isBelow rfl) cs_X7_56 ⟨by decide, by decide⟩ (Nat.le_of_ble_eq_true rfl) dX7_isRow_2 ?_
  exact g_zret_t hr (z_X7_isBelow) hf dX7_isRow_5
theorem z_X7_isRow  {x0 : Int32} : f_X7_isRow x0 = 0 ∨ f_X7_isRow x0 = 1 := by
  unfold f_X7_isRow
  first | exact z_X7_isBelow | (repeat' split) <;> first | exact Or.inl rfl | exact Or.inr rfl | exact z_X7_isBelow
-- X1_length
def f_X1_length (x0 : Int64) : Int32 :=
  (x0 &&& (15 : Int64)).toInt32
set_option maxHeartbeats 4000000 in
set_option maxRecDepth 100000 in
theorem c_X1_length {l : Launch} {x0 : Int64} {M : Mem} {r : Int32} (hf : f_X1_length x0 = r) : Cn l yX1_length cX1_length 2 (some .int) 0 0 (fun E => [.long x0]) M (some (.int r), M) := by
  unfold f_X1_length at hf
  refine cn_of RX1 (fun E => [some (.long x0), none]) (by decide +kernel) rfl (fun E => Nat.le_of_ble_eq_true rfl) (fun E => rfl) (fun X hr => ?_)
  refine g_lload_n dX1_length_0 rfl ?_
  refine g_ldc2 cl_X1_11 dX1_length_1 ?_
  refine g_land dX1_length_4 ?_
  refine g_l2i dX1_length_5 ?_
  exact g_iret_t hr hf dX1_length_6
-- X1_longer
def f_X1_longer (x0 : Int64) (x2 : Int32) : Int64 :=
  if (x0 &&& (15 : Int64)).toInt32 < (12 : Int32) then (((x0 ||| (x2.toInt64 <<< (((4 : Int32) * ((x0 &&& (15 : Int64)).toInt32 + (1 : Int32))).toInt64 &&& 63))) + (1 : Int64)))
  else x0
set_option maxHeartbeats 4000000 in
set_option maxRecDepth 100000 in
theorem c_X1_longer {l : Launch} {x0 : Int64} {x2 : Int32} {M : Mem} {r : Int64} (hf : f_X1_longer x0 x2 = r) : Cn l yX1_longer cX1_longer 4 (some .long) 0 0 (fun E => [.long x0, .int x2]) M (some (.long r), M) := by
  unfold f_X1_longer at hf
  refine cn_of RX1 (fun E => [some (.long x0), none, some (.int x2), none]) (by decide +kernel) rfl (fun E => Nat.le_of_ble_eq_true rfl) (fun E => rfl) (fun X hr => ?_)
  refine g_lload_n dX1_longer_0 rfl ?_
  refine g_ldc2 cl_X1_11 dX1_longer_1 ?_
  refine g_land dX1_longer_4 ?_
  refine g_l2i dX1_longer_5 ?_
  refine g_ist3 dX1_longer_6 (by decide) lnl_i ?_
  refine g_iload_n dX1_longer_7 rfl ?_
  refine g_bipush (v := 12) dX1_longer_8 (by decide) ?_
  refine g_icmp_lt (tgt := 15) dX1_longer_10 (by decide) (fun hc => ?_) (fun hc => ?_)
  · have hf := ite_t hc hf
    refine g_lload_n dX1_longer_15 rfl ?_
    refine g_iload_n dX1_longer_16 rfl ?_
    refine g_i2l dX1_longer_17 ?_
    refine g_iconst (v := 4) dX1_longer_18 (by decide) ?_
    refine g_iload_n dX1_longer_19 rfl ?_
    refine g_iconst (v := 1) dX1_longer_20 (by decide) ?_
    refine g_iadd dX1_longer_21 ?_
    refine g_imul dX1_longer_22 ?_
    refine g_lshl dX1_longer_23 ?_
    refine g_lor dX1_longer_24 ?_
    refine g_lconst (v := 1) dX1_longer_25 (by decide) ?_
    refine g_ladd dX1_longer_26 ?_
    exact g_lret_t hr hf dX1_longer_27
  · have hf := ite_f hc hf
    refine g_lload_n dX1_longer_13 rfl ?_
    exact g_lret_t hr hf dX1_longer_14
-- X7_say
def f_X7_say (x1 : Int32) (x2 : Int32) (M : Mem) : Option (Int32 × Mem) :=
  if (f_X7_isRow x1) = 0 then ((f_X7_refuseBad (-2 : Int32) M).bind fun r1 =>
  some (r1.1, r1.2))
  else (if (f_X7_isBelow x2 (16 : Int32)) = 0 then ((f_X7_refuseBad (-2 : Int32) M).bind fun r4 =>
  some (r4.1, r4.2))
  else (ck x1 4 <|
  if (f_X1_length (M.2 6 x1.toNatClampNeg)) < (12 : Int32) then (ck x1 4 <|
  let M2 := mL M 6 (x1.toNatClampNeg) (f_X1_longer (M.2 6 x1.toNatClampNeg) x2)
  ck x1 4 <|
  some ((f_X1_length (M2.2 6 x1.toNatClampNeg)), M2))
  else ((f_X7_refuseFull M).bind fun r3 =>
  some (r3.1, r3.2))))
set_option maxHeartbeats 4000000 in
set_option maxRecDepth 100000 in
theorem c_X7_say {l : Launch} {x1 : Int32} {x2 : Int32} {M : Mem} {r : Int32} {M1 : Mem} (hf : f_X7_say x1 x2 M = some (r, M1)) : Cn l yX7_say cX7_say 5 (some .int) 2 41 (fun E => [.ref (E.1 0), .int x1, .int x2]) M (some (.int r), M1) := by
  unfold f_X7_say at hf
  refine cn_of RX7 (fun E => [some (.ref (E.1 0)), some (.int x1), some (.int x2), none, none]) (by decide +kernel) rfl (fun E => Nat.le_of_ble_eq_true rfl) (fun E => rfl) (fun X hr => ?_)
  refine g_iload_n dX7_say_0 rfl ?_
  refine g_cS_I_I (c_X7_isRow rfl) cs_X7_106 ⟨by decide, by decide⟩ (Nat.le_of_ble_eq_true rfl) dX7_say_1 ?_
  refine g_if_eq (tgt := 16) dX7_say_4 (by decide) (fun hc => ?_) (fun hc => ?_)
  · have hf := ite_t hc hf
    refine g_aload_n dX7_say_16 rfl ?_
    refine g_bipush (v := (-2)) dX7_say_17 (by decide) ?_
    obtain ⟨r1, hq, hf⟩ := bnd hf
    refine g_cV_I_I (c_X7_refuseBad (r := r1.1) (M1 := r1.2) hq) cv_X7_60 (by decide) (cel_0 _ _ _) rfl ⟨by decide, by decide⟩ (Nat.le_of_ble_eq_true rfl) dX7_say_19 ?_
    exact g_iret_w hr hf dX7_say_22
  · have hf := ite_f hc hf
    refine g_iload_n dX7_say_7 rfl ?_
    refine g_bipush (v := 16) dX7_say_8 (by decide) ?_
    refine g_cS_II_I (c_X7_isBelow rfl) cs_X7_56 ⟨by decide, by decide⟩ (Nat.le_of_ble_eq_true rfl) dX7_say_10 ?_
    refine g_if_ne (tgt := 23) dX7_say_13 (by decide) (fun hc => ?_) (fun hc => ?_)
    · have hf := ite_f hc hf
      refine g_aload_n dX7_say_23 rfl ?_
      refine g_get (kk := 0) (by decide) (cel_0 _ _ _) rfl inX7 fl_X7_10 (by decide) rfl dX7_say_24 ?_
      refine g_get (kk := 1) (by decide) (cel_1 _ _ _) rfl inX4 fl_X7_109 (by decide) rfl dX7_say_27 ?_
      refine g_iload_n dX7_say_30 rfl ?_
      obtain ⟨hi, hf⟩ := ck_s hf
      refine g_laload (kk := 6) (by decide) (fun f g => cel_6 _ f g) hi rfl dX7_say_31 ?_
      refine g_lst3 dX7_say_32 (by decide) lnl_i ?_
      refine g_lload_n dX7_say_33 rfl ?_
      refine g_cS_J_I (c_X1_length rfl) cs_X7_112 ⟨by decide, by decide⟩ (Nat.le_of_ble_eq_true rfl) dX7_say_34 ?_
      refine g_bipush (v := 12) dX7_say_37 (by decide) ?_
      refine g_icmp_lt (tgt := 47) dX7_say_39 (by decide) (fun hc => ?_) (fun hc => ?_)
      · have hf := ite_t hc hf
        refine g_aload_n dX7_say_47 rfl ?_
        refine g_get (kk := 0) (by decide) (cel_0 _ _ _) rfl inX7 fl_X7_10 (by decide) rfl dX7_say_48 ?_
        refine g_get (kk := 1) (by decide) (cel_1 _ _ _) rfl inX4 fl_X7_109 (by decide) rfl dX7_say_51 ?_
        refine g_iload_n dX7_say_54 rfl ?_
        refine g_lload_n dX7_say_55 rfl ?_
        refine g_iload_n dX7_say_56 rfl ?_
        refine g_cS_JI_J (c_X1_longer rfl) cs_X7_118 ⟨by decide, by decide⟩ (Nat.le_of_ble_eq_true rfl) dX7_say_57 ?_
        obtain ⟨hi, hf⟩ := ck_s hf
        refine g_lastore (kk := 6) (by decide) (fun f g => cel_6 _ f g) hi rfl dX7_say_60 ?_
        refine g_aload_n dX7_say_61 rfl ?_
        refine g_get (kk := 0) (by decide) (cel_0 _ _ _) rfl inX7 fl_X7_10 (by decide) rfl dX7_say_62 ?_
        refine g_get (kk := 1) (by decide) (cel_1 _ _ _) rfl inX4 fl_X7_109 (by decide) rfl dX7_say_65 ?_
        refine g_iload_n dX7_say_68 rfl ?_
        obtain ⟨hi, hf⟩ := ck_s hf
        refine g_laload (kk := 6) (by decide) (fun f g => cel_6 _ f g) hi rfl dX7_say_69 ?_
        refine g_cS_J_I (c_X1_length rfl) cs_X7_112 ⟨by decide, by decide⟩ (Nat.le_of_ble_eq_true rfl) dX7_say_70 ?_
        exact g_iret_w hr hf dX7_say_73
      · have hf := ite_f hc hf
        refine g_aload_n dX7_say_42 rfl ?_
        obtain ⟨r3, hq, hf⟩ := bnd hf
        refine g_cV_0_I (c_X7_refuseFull (r := r3.1) (M1 := r3.2) hq) cv_X7_75 (by decide) (cel_0 _ _ _) rfl ⟨by decide, by decide⟩ (Nat.le_of_ble_eq_true rfl) dX7_say_43 ?_
        exact g_iret_w hr hf dX7_say_46
    · have hf := ite_t hc hf
      refine g_aload_n dX7_say_16 rfl ?_
      refine g_bipush (v := (-2)) dX7_say_17 (by decide) ?_
      obtain ⟨r4, hq, hf⟩ := bnd hf
      refine g_cV_I_I (c_X7_refuseBad (r := r4.1) (M1 := r4.2) hq) cv_X7_60 (by decide) (cel_0 _ _ _) rfl ⟨by decide, by decide⟩ (Nat.le_of_ble_eq_true rfl) dX7_say_19 ?_
      exact g_iret_w hr hf dX7_say_22
-- X7_hush
def f_X7_hush (x1 : Int32) (M : Mem) : Option (Int32 × Mem) :=
  if (f_X7_isRow x1) = 0 then ((f_X7_refuseBad (-2 : Int32) M).bind fun r2 =>
  some (r2.1, r2.2))
  else (ck x1 4 <|
  ck x1 4 <|
  let M1 := mL M 6 (x1.toNatClampNeg) (0 : Int64)
  some ((f_X1_length (M.2 6 x1.toNatClampNeg)), M1))
set_option maxHeartbeats 4000000 in
set_option maxRecDepth 100000 in
theorem c_X7_hush {l : Launch} {x1 : Int32} {M : Mem} {r : Int32} {M1 : Mem} (hf : f_X7_hush x1 M = some (r, M1)) : Cn l yX7_hush cX7_hush 3 (some .int) 2 41 (fun E => [.ref (E.1 0), .int x1]) M (some (.int r), M1) := by
  unfold f_X7_hush at hf
  refine cn_of RX7 (fun E => [some (.ref (E.1 0)), some (.int x1), none]) (by decide +kernel) rfl (fun E => Nat.le_of_ble_eq_true rfl) (fun E => rfl) (fun X hr => ?_)
  refine g_iload_n dX7_hush_0 rfl ?_
  refine g_cS_I_I (c_X7_isRow rfl) cs_X7_106 ⟨by decide, by decide⟩ (Nat.le_of_ble_eq_true rfl) dX7_hush_1 ?_
  refine g_if_ne (tgt := 14) dX7_hush_4 (by decide) (fun hc => ?_) (fun hc => ?_)
  · have hf := ite_f hc hf
    refine g_aload_n dX7_hush_14 rfl ?_
    refine g_get (kk := 0) (by decide) (cel_0 _ _ _) rfl inX7 fl_X7_10 (by decide) rfl dX7_hush_15 ?_
    refine g_get (kk := 1) (by decide) (cel_1 _ _ _) rfl inX4 fl_X7_109 (by decide) rfl dX7_hush_18 ?_
    refine g_iload_n dX7_hush_21 rfl ?_
    obtain ⟨hi, hf⟩ := ck_s hf
    refine g_laload (kk := 6) (by decide) (fun f g => cel_6 _ f g) hi rfl dX7_hush_22 ?_
    refine g_cS_J_I (c_X1_length rfl) cs_X7_112 ⟨by decide, by decide⟩ (Nat.le_of_ble_eq_true rfl) dX7_hush_23 ?_
    refine g_ist2 dX7_hush_26 (by decide) lnl_i ?_
    refine g_aload_n dX7_hush_27 rfl ?_
    refine g_get (kk := 0) (by decide) (cel_0 _ _ _) rfl inX7 fl_X7_10 (by decide) rfl dX7_hush_28 ?_
    refine g_get (kk := 1) (by decide) (cel_1 _ _ _) rfl inX4 fl_X7_109 (by decide) rfl dX7_hush_31 ?_
    refine g_iload_n dX7_hush_34 rfl ?_
    refine g_lconst (v := 0) dX7_hush_35 (by decide) ?_
    obtain ⟨hi, hf⟩ := ck_s hf
    refine g_lastore (kk := 6) (by decide) (fun f g => cel_6 _ f g) hi rfl dX7_hush_36 ?_
    refine g_iload_n dX7_hush_37 rfl ?_
    exact g_iret_w hr hf dX7_hush_38
  · have hf := ite_t hc hf
    refine g_aload_n dX7_hush_7 rfl ?_
    refine g_bipush (v := (-2)) dX7_hush_8 (by decide) ?_
    obtain ⟨r2, hq, hf⟩ := bnd hf
    refine g_cV_I_I (c_X7_refuseBad (r := r2.1) (M1 := r2.2) hq) cv_X7_60 (by decide) (cel_0 _ _ _) rfl ⟨by decide, by decide⟩ (Nat.le_of_ble_eq_true rfl) dX7_hush_10 ?_
    exact g_iret_w hr hf dX7_hush_13
-- X3_put
def f_X3_put (x1 : Int32) (M : Mem) : Option Mem :=
  if (150 : Int32) ≤ (M.1 55 0) then (some M)
  else (ck (M.1 55 0) 150 <|
  let M1 := mI M 56 ((M.1 55 0).toNatClampNeg) x1
  let M2 := mI M1 55 0 ((M1.1 55 0) + (1 : Int32))
  some M2)
set_option maxHeartbeats 4000000 in
set_option maxRecDepth 100000 in
theorem c_X3_put {l : Launch} {x1 : Int32} {M : Mem} {M1 : Mem} (hf : f_X3_put x1 M = some M1) : Cn l yX3_put cX3_put 2 none 0 0 (fun E => [.ref (E.1 55), .int x1]) M (none, M1) := by
  unfold f_X3_put at hf
  refine cn_of RX3 (fun E => [some (.ref (E.1 55)), some (.int x1)]) (by decide +kernel) rfl (fun E => Nat.le_of_ble_eq_true rfl) (fun E => rfl) (fun X hr => ?_)
  refine g_aload_n dX3_put_0 rfl ?_
  refine g_get (kk := 55) (by decide) (cel_55 _ _ _) rfl inX3 fl_X3_15 (by decide) rfl dX3_put_1 ?_
  refine g_sipush (v := 150) dX3_put_4 (by decide) ?_
  refine g_icmp_ge (tgt := 30) dX3_put_7 (by decide) (fun hc => ?_) (fun hc => ?_)
  · have hf := ite_t hc hf
    exact g_vret_w hr hf dX3_put_30
  · have hf := ite_f hc hf
    refine g_aload_n dX3_put_10 rfl ?_
    refine g_get (kk := 55) (by decide) (cel_55 _ _ _) rfl inX3 fl_X3_9 (by decide) rfl dX3_put_11 ?_
    refine g_aload_n dX3_put_14 rfl ?_
    refine g_get (kk := 55) (by decide) (cel_55 _ _ _) rfl inX3 fl_X3_15 (by decide) rfl dX3_put_15 ?_
    refine g_iload_n dX3_put_18 rfl ?_
    obtain ⟨hi, hf⟩ := ck_s hf
    refine g_iastore (kk := 56) (by decide) (fun f g => cel_56 _ f g) hi rfl dX3_put_19 ?_
    refine g_aload_n dX3_put_20 rfl ?_
    refine g_dup dX3_put_21 rfl ?_
    refine g_get (kk := 55) (by decide) (cel_55 _ _ _) rfl inX3 fl_X3_15 (by decide) rfl dX3_put_22 ?_
    refine g_iconst (v := 1) dX3_put_25 (by decide) ?_
    refine g_iadd dX3_put_26 ?_
    refine g_putI (kk := 55) (by decide) (cel_55 _ _ _) (pI_55_0 _ _ _ _) rfl inX3 tyX3_ok nmX3 fl_X3_15 (by decide) (Nat.le_of_ble_eq_true rfl) rfl (by decide +kernel) dX3_put_27 ?_
    exact g_vret_w hr hf dX3_put_30
-- X7_type
def f_X7_type (x1 : Int32) (M : Mem) : Option (Int32 × Mem) :=
  if (f_X7_isBelow x1 (128 : Int32)) = 0 then ((f_X7_refuseBad (-2 : Int32) M).bind fun r3 =>
  some (r3.1, r3.2))
  else (if (M.1 55 0) < (150 : Int32) then ((f_X3_put x1 M).bind fun r1 =>
  some ((r1.1 55 0), r1))
  else ((f_X7_refuseFull M).bind fun r2 =>
  some (r2.1, r2.2)))
set_option maxHeartbeats 4000000 in
set_option maxRecDepth 100000 in
theorem c_X7_type {l : Launch} {x1 : Int32} {M : Mem} {r : Int32} {M1 : Mem} (hf : f_X7_type x1 M = some (r, M1)) : Cn l yX7_type cX7_type 2 (some .int) 1 21 (fun E => [.ref (E.1 0), .int x1]) M (some (.int r), M1) := by
  unfold f_X7_type at hf
  refine cn_of RX7 (fun E => [some (.ref (E.1 0)), some (.int x1)]) (by decide +kernel) rfl (fun E => Nat.le_of_ble_eq_true rfl) (fun E => rfl) (fun X hr => ?_)
  refine g_iload_n dX7_type_0 rfl ?_
  refine g_sipush (v := 128) dX7_type_1 (by decide) ?_
  refine g_cS_II_I (c_X7_isBelow rfl) cs_X7_56 ⟨by decide, by decide⟩ (Nat.le_of_ble_eq_true rfl) dX7_type_4 ?_
  refine g_if_ne (tgt := 17) dX7_type_7 (by decide) (fun hc => ?_) (fun hc => ?_)
  · have hf := ite_f hc hf
    refine g_aload_n dX7_type_17 rfl ?_
    refine g_get (kk := 0) (by decide) (cel_0 _ _ _) rfl inX7 fl_X7_30 (by decide) rfl dX7_type_18 ?_
    refine g_get (kk := 55) (by decide) (cel_55 _ _ _) rfl inX3 fl_X7_122 (by decide) rfl dX7_type_21 ?_
    refine g_sipush (v := 150) dX7_type_24 (by decide) ?_
    refine g_icmp_lt (tgt := 35) dX7_type_27 (by decide) (fun hc => ?_) (fun hc => ?_)
    · have hf := ite_t hc hf
      refine g_aload_n dX7_type_35 rfl ?_
      refine g_get (kk := 0) (by decide) (cel_0 _ _ _) rfl inX7 fl_X7_30 (by decide) rfl dX7_type_36 ?_
      refine g_iload_n dX7_type_39 rfl ?_
      obtain ⟨r1, hq, hf⟩ := bnd hf
      refine g_cV_I_V (c_X3_put hq) cv_X7_124 (by decide) (cel_55 _ _ _) rfl ⟨by decide, by decide⟩ (Nat.le_of_ble_eq_true rfl) dX7_type_40 ?_
      refine g_aload_n dX7_type_43 rfl ?_
      refine g_get (kk := 0) (by decide) (cel_0 _ _ _) rfl inX7 fl_X7_30 (by decide) rfl dX7_type_44 ?_
      refine g_get (kk := 55) (by decide) (cel_55 _ _ _) rfl inX3 fl_X7_122 (by decide) rfl dX7_type_47 ?_
      exact g_iret_w hr hf dX7_type_50
    · have hf := ite_f hc hf
      refine g_aload_n dX7_type_30 rfl ?_
      obtain ⟨r2, hq, hf⟩ := bnd hf
      refine g_cV_0_I (c_X7_refuseFull (r := r2.1) (M1 := r2.2) hq) cv_X7_75 (by decide) (cel_0 _ _ _) rfl ⟨by decide, by decide⟩ (Nat.le_of_ble_eq_true rfl) dX7_type_31 ?_
      exact g_iret_w hr hf dX7_type_34
  · have hf := ite_t hc hf
    refine g_aload_n dX7_type_10 rfl ?_
    refine g_bipush (v := (-2)) dX7_type_11 (by decide) ?_
    obtain ⟨r3, hq, hf⟩ := bnd hf
    refine g_cV_I_I (c_X7_refuseBad (r := r3.1) (M1 := r3.2) hq) cv_X7_60 (by decide) (cel_0 _ _ _) rfl ⟨by decide, by decide⟩ (Nat.le_of_ble_eq_true rfl) dX7_type_13 ?_
    exact g_iret_w hr hf dX7_type_16
-- X7_clear
def f_X7_clear  (M : Mem) : Option (Int32 × Mem) :=
  let M1 := mI M 55 0 (0 : Int32)
  some ((M.1 55 0), M1)
set_option maxHeartbeats 4000000 in
set_option maxRecDepth 100000 in
theorem c_X7_clear {l : Launch}  {M : Mem} {r : Int32} {M1 : Mem} (hf : f_X7_clear M = some (r, M1)) : Cn l yX7_clear cX7_clear 2 (some .int) 0 0 (fun E => [.ref (E.1 0)]) M (some (.int r), M1) := by
  unfold f_X7_clear at hf
  refine cn_of RX7 (fun E => [some (.ref (E.1 0)), none]) (by decide +kernel) rfl (fun E => Nat.le_of_ble_eq_true rfl) (fun E => rfl) (fun X hr => ?_)
  refine g_aload_n dX7_clear_0 rfl ?_
  refine g_get (kk := 0) (by decide) (cel_0 _ _ _) rfl inX7 fl_X7_30 (by decide) rfl dX7_clear_1 ?_
  refine g_get (kk := 55) (by decide) (cel_55 _ _ _) rfl inX3 fl_X7_122 (by decide) rfl dX7_clear_4 ?_
  refine g_ist1 dX7_clear_7 (by decide) lnl_r ?_
  refine g_aload_n dX7_clear_8 rfl ?_
  refine g_get (kk := 0) (by decide) (cel_0 _ _ _) rfl inX7 fl_X7_30 (by decide) rfl dX7_clear_9 ?_
  refine g_iconst (v := 0) dX7_clear_12 (by decide) ?_
  refine g_putI (kk := 55) (by decide) (cel_55 _ _ _) (pI_55_0 _ _ _ _) rfl inX3 tyX3_ok nmX3 fl_X7_122 (by decide) (Nat.le_of_ble_eq_true rfl) rfl (by decide +kernel) dX7_clear_13 ?_
  refine g_iload_n dX7_clear_16 rfl ?_
  exact g_iret_w hr hf dX7_clear_17
-- X3_isLetter
def f_X3_isLetter (M : Mem) (x1 : Int32) : Option Int32 :=
  ck x1 150 <|
  if (M.1 56 x1.toNatClampNeg) < (97 : Int32) then (some (0 : Int32))
  else (ck x1 150 <|
  if (122 : Int32) < (M.1 56 x1.toNatClampNeg) then (some (0 : Int32))
  else (some (1 : Int32)))
set_option maxHeartbeats 4000000 in
set_option maxRecDepth 100000 in
theorem c_X3_isLetter {l : Launch} {x1 : Int32} {M : Mem} {r : Int32} (hf : f_X3_isLetter M x1 = some r) : Cn l yX3_isLetter cX3_isLetter 2 (some .boolean) 0 0 (fun E => [.ref (E.1 55), .int x1]) M (some (.int r), M) := by
  unfold f_X3_isLetter at hf
  refine cn_of RX3 (fun E => [some (.ref (E.1 55)), some (.int x1)]) (by decide +kernel) rfl (fun E => Nat.le_of_ble_eq_true rfl) (fun E => rfl) (fun X hr => ?_)
  refine g_aload_n dX3_isLetter_0 rfl ?_
  refine g_get (kk := 55) (by decide) (cel_55 _ _ _) rfl inX3 fl_X3_9 (by decide) rfl dX3_isLetter_1 ?_
  refine g_iload_n dX3_isLetter_4 rfl ?_
  obtain ⟨hi, hf⟩ := ck_s hf
  refine g_iaload (kk := 56) (by decide) (fun f g => cel_56 _ f g) hi rfl dX3_isLetter_5 ?_
  refine g_bipush (v := 97) dX3_isLetter_6 (by decide) ?_
  refine g_icmp_lt (tgt := 26) dX3_isLetter_8 (by decide) (fun hc => ?_) (fun hc => ?_)
  · have hf := ite_t hc hf
    refine g_iconst (v := 0) dX3_isLetter_26 (by decide) ?_
    exact g_zret_p hr (Or.inl rfl) hf dX3_isLetter_27
  · have hf := ite_f hc hf
    refine g_aload_n dX3_isLetter_11 rfl ?_
    refine g_get (kk := 55) (by decide) (cel_55 _ _ _) rfl inX3 fl_X3_9 (by decide) rfl dX3_isLetter_12 ?_
    refine g_iload_n dX3_isLetter_15 rfl ?_
    obtain ⟨hi, hf⟩ := ck_s hf
    refine g_iaload (kk := 56) (by decide) (fun f g => cel_56 _ f g) hi rfl dX3_isLetter_16 ?_
    refine g_bipush (v := 122) dX3_isLetter_17 (by decide) ?_
    refine g_icmp_gt (tgt := 26) dX3_isLetter_19 (by decide) (fun hc => ?_) (fun hc => ?_)
    · have hf := ite_t hc hf
      refine g_iconst (v := 0) dX3_isLetter_26 (by decide) ?_
      exact g_zret_p hr (Or.inl rfl) hf dX3_isLetter_27
    · have hf := ite_f hc hf
      refine g_iconst (v := 1) dX3_isLetter_22 (by decide) ?_
      refine g_goto (tgt := 27) dX3_isLetter_23 (by decide) ?_
      exact g_zret_p hr (Or.inr rfl) hf dX3_isLetter_27
-- X3_isFigure
def f_X3_isFigure (M : Mem) (x1 : Int32) : Option Int32 :=
  ck x1 150 <|
  if (M.1 56 x1.toNatClampNeg) < (48 : Int32) then (some (0 : Int32))
  else (ck x1 150 <|
  if (57 : Int32) < (M.1 56 x1.toNatClampNeg) then (some (0 : Int32))
  else (some (1 : Int32)))
set_option maxHeartbeats 4000000 in
set_option maxRecDepth 100000 in
theorem c_X3_isFigure {l : Launch} {x1 : Int32} {M : Mem} {r : Int32} (hf : f_X3_isFigure M x1 = some r) : Cn l yX3_isFigure cX3_isFigure 2 (some .boolean) 0 0 (fun E => [.ref (E.1 55), .int x1]) M (some (.int r), M) := by
  unfold f_X3_isFigure at hf
  refine cn_of RX3 (fun E => [some (.ref (E.1 55)), some (.int x1)]) (by decide +kernel) rfl (fun E => Nat.le_of_ble_eq_true rfl) (fun E => rfl) (fun X hr => ?_)
  refine g_aload_n dX3_isFigure_0 rfl ?_
  refine g_get (kk := 55) (by decide) (cel_55 _ _ _) rfl inX3 fl_X3_9 (by decide) rfl dX3_isFigure_1 ?_
  refine g_iload_n dX3_isFigure_4 rfl ?_
  obtain ⟨hi, hf⟩ := ck_s hf
  refine g_iaload (kk := 56) (by decide) (fun f g => cel_56 _ f g) hi rfl dX3_isFigure_5 ?_
  refine g_bipush (v := 48) dX3_isFigure_6 (by decide) ?_
  refine g_icmp_lt (tgt := 26) dX3_isFigure_8 (by decide) (fun hc => ?_) (fun hc => ?_)
  · have hf := ite_t hc hf
    refine g_iconst (v := 0) dX3_isFigure_26 (by decide) ?_
    exact g_zret_p hr (Or.inl rfl) hf dX3_isFigure_27
  · have hf := ite_f hc hf
    refine g_aload_n dX3_isFigure_11 rfl ?_
    refine g_get (kk := 55) (by decide) (cel_55 _ _ _) rfl inX3 fl_X3_9 (by decide) rfl dX3_isFigure_12 ?_
    refine g_iload_n dX3_isFigure_15 rfl ?_
    obtain ⟨hi, hf⟩ := ck_s hf
    refine g_iaload (kk := 56) (by decide) (fun f g => cel_56 _ f g) hi rfl dX3_isFigure_16 ?_
    refine g_bipush (v := 57) dX3_isFigure_17 (by decide) ?_
    refine g_icmp_gt (tgt := 26) dX3_isFigure_19 (by decide) (fun hc => ?_) (fun hc => ?_)
    · have hf := ite_t hc hf
      refine g_iconst (v := 0) dX3_isFigure_26 (by decide) ?_
      exact g_zret_p hr (Or.inl rfl) hf dX3_isFigure_27
    · have hf := ite_f hc hf
      refine g_iconst (v := 1) dX3_isFigure_22 (by decide) ?_
      refine g_goto (tgt := 27) dX3_isFigure_23 (by decide) ?_
      exact g_zret_p hr (Or.inr rfl) hf dX3_isFigure_27
-- X3_stepNumber
def b_X3_stepNumber_84    (M : Mem) : Option Mem :=
  if (2 : Int32) < ((M.1 55 4) - (M.1 55 3)) then (let M2 := mI M 55 2 (6 : Int32)
  some M2)
  else (let M3 := mI M 55 2 (2 : Int32)
  some M3)
set_option maxHeartbeats 4000000 in
set_option maxRecDepth 100000 in
theorem w_X3_stepNumber_84 {X : Cx} {M1 : Mem}       {M : Mem} (hr : X.meth.sig.returnType = none) (hf : b_X3_stepNumber_84 M = some M1) : G X (none, M1) RX3 cX3_stepNumber 1 1 21 84 [some (.ref (X.1.1 55))] [] M := by
  unfold b_X3_stepNumber_84 at hf
  refine g_aload_n dX3_stepNumber_84 rfl ?_
  refine g_aload_n dX3_stepNumber_85 rfl ?_
  refine g_get (kk := 55) (by decide) (cel_55 _ _ _) rfl inX3 fl_X3_19 (by decide) rfl dX3_stepNumber_86 ?_
  refine g_aload_n dX3_stepNumber_89 rfl ?_
  refine g_get (kk := 55) (by decide) (cel_55 _ _ _) rfl inX3 fl_X3_38 (by decide) rfl dX3_stepNumber_90 ?_
  refine g_isub dX3_stepNumber_93 ?_
  refine g_iconst (v := 2) dX3_stepNumber_94 (by decide) ?_
  refine g_icmp_gt (tgt := 102) dX3_stepNumber_95 (by decide) (fun hc => ?_) (fun hc => ?_)
  · have hf := ite_t hc hf
    refine g_bipush (v := 6) dX3_stepNumber_102 (by decide) ?_
    refine g_putI (kk := 55) (by decide) (cel_55 _ _ _) (pI_55_2 _ _ _ _) rfl inX3 tyX3_ok nmX3 fl_X3_29 (by decide) (Nat.le_of_ble_eq_true rfl) rfl (by decide +kernel) dX3_stepNumber_104 ?_
    exact g_vret_w hr hf dX3_stepNumber_107
  · have hf := ite_f hc hf
    refine g_iconst (v := 2) dX3_stepNumber_98 (by decide) ?_
    refine g_goto (tgt := 104) dX3_stepNumber_99 (by decide) ?_
    refine g_putI (kk := 55) (by decide) (cel_55 _ _ _) (pI_55_2 _ _ _ _) rfl inX3 tyX3_ok nmX3 fl_X3_29 (by decide) (Nat.le_of_ble_eq_true rfl) rfl (by decide +kernel) dX3_stepNumber_104 ?_
    exact g_vret_w hr hf dX3_stepNumber_107
def b_X3_stepNumber_68 (k5 : Mem → Option Mem)  (t0 : Int32) (M : Mem) : Option Mem :=
  let M5 := mI M 55 5 t0
  let M6 := mI M5 55 4 ((M5.1 55 4) + (1 : Int32))
  k5 M6
set_option maxHeartbeats 4000000 in
set_option maxRecDepth 100000 in
theorem w_X3_stepNumber_68 {X : Cx} {M1 : Mem}  {k5 : Mem → Option Mem}    {t0 : Int32} {M : Mem} (hr : X.meth.sig.returnType = none) (hk5 : ∀  {M_ : Mem}, k5  M_ = some M1 → G X (none, M1) RX3 cX3_stepNumber 1 1 21 5 [some (.ref (X.1.1 55))] [] M_) (hf : b_X3_stepNumber_68 k5 t0 M = some M1) : G X (none, M1) RX3 cX3_stepNumber 1 1 21 68 [some (.ref (X.1.1 55))] [.int t0, .ref (X.1.1 55)] M := by
  unfold b_X3_stepNumber_68 at hf
  refine g_putI (kk := 55) (by decide) (cel_55 _ _ _) (pI_55_5 _ _ _ _) rfl inX3 tyX3_ok nmX3 fl_X3_72 (by decide) (Nat.le_of_ble_eq_true rfl) rfl (by decide +kernel) dX3_stepNumber_68 ?_
  refine g_aload_n dX3_stepNumber_71 rfl ?_
  refine g_dup dX3_stepNumber_72 rfl ?_
  refine g_get (kk := 55) (by decide) (cel_55 _ _ _) rfl inX3 fl_X3_19 (by decide) rfl dX3_stepNumber_73 ?_
  refine g_iconst (v := 1) dX3_stepNumber_76 (by decide) ?_
  refine g_iadd dX3_stepNumber_77 ?_
  refine g_putI (kk := 55) (by decide) (cel_55 _ _ _) (pI_55_4 _ _ _ _) rfl inX3 tyX3_ok nmX3 fl_X3_19 (by decide) (Nat.le_of_ble_eq_true rfl) rfl (by decide +kernel) dX3_stepNumber_78 ?_
  refine g_goto (tgt := 5) dX3_stepNumber_81 (by decide) ?_
  exact hk5 hf
def b_X3_stepNumber_5    : Nat → Mem → Option Mem
  | 0, _ => none
  | n + 1, M =>
    if (M.1 55 0) ≤ (M.1 55 4) then (b_X3_stepNumber_84 M)
    else ((f_X3_isFigure M (M.1 55 4)).bind fun r4 =>
    if r4 = 0 then (b_X3_stepNumber_84 M)
    else (if (2 : Int32) ≤ ((M.1 55 4) - (M.1 55 3)) then (b_X3_stepNumber_68 (fun M_ => b_X3_stepNumber_5 n M_) (M.1 55 5) M)
    else (ck (M.1 55 4) 150 <|
    b_X3_stepNumber_68 (fun M_ => b_X3_stepNumber_5 n M_) ((((10 : Int32) * (M.1 55 5)) + (M.1 56 (M.1 55 4).toNatClampNeg)) - (48 : Int32)) M)))
set_option maxHeartbeats 4000000 in
set_option maxRecDepth 100000 in
theorem w_X3_stepNumber_5 {X : Cx} {M1 : Mem}      (hr : X.meth.sig.returnType = none) : ∀ (n : Nat)  {M : Mem}, b_X3_stepNumber_5  n M = some M1 → G X (none, M1) RX3 cX3_stepNumber 1 1 21 5 [some (.ref (X.1.1 55))] [] M := by
  intro n
  induction n with
  | zero => intro M hf; cases hf
  | succ n ih =>
    intro M hf
    rw [b_X3_stepNumber_5.eq_2] at hf
    refine g_aload_n dX3_stepNumber_5 rfl ?_
    refine g_get (kk := 55) (by decide) (cel_55 _ _ _) rfl inX3 fl_X3_19 (by decide) rfl dX3_stepNumber_6 ?_
    refine g_aload_n dX3_stepNumber_9 rfl ?_
    refine g_get (kk := 55) (by decide) (cel_55 _ _ _) rfl inX3 fl_X3_15 (by decide) rfl dX3_stepNumber_10 ?_
    refine g_icmp_ge (tgt := 84) dX3_stepNumber_13 (by decide) (fun hc => ?_) (fun hc => ?_)
    · have hf := ite_t hc hf
      exact w_X3_stepNumber_84 hr hf
    · have hf := ite_f hc hf
      refine g_aload_n dX3_stepNumber_16 rfl ?_
      refine g_aload_n dX3_stepNumber_17 rfl ?_
      refine g_get (kk := 55) (by decide) (cel_55 _ _ _) rfl inX3 fl_X3_19 (by decide) rfl dX3_stepNumber_18 ?_
      obtain ⟨r4, hq, hf⟩ := bnd hf
      refine g_cV_I_I (c_X3_isFigure hq) cv_X3_82 (by decide) (cel_55 _ _ _) rfl ⟨by decide, by decide⟩ (Nat.le_of_ble_eq_true rfl) dX3_stepNumber_21 ?_
      refine g_if_eq (tgt := 84) dX3_stepNumber_24 (by decide) (fun hc => ?_) (fun hc => ?_)
      · have hf := ite_t hc hf
        exact w_X3_stepNumber_84 hr hf
      · have hf := ite_f hc hf
        refine g_aload_n dX3_stepNumber_27 rfl ?_
        refine g_aload_n dX3_stepNumber_28 rfl ?_
        refine g_get (kk := 55) (by decide) (cel_55 _ _ _) rfl inX3 fl_X3_19 (by decide) rfl dX3_stepNumber_29 ?_
        refine g_aload_n dX3_stepNumber_32 rfl ?_
        refine g_get (kk := 55) (by decide) (cel_55 _ _ _) rfl inX3 fl_X3_38 (by decide) rfl dX3_stepNumber_33 ?_
        refine g_isub dX3_stepNumber_36 ?_
        refine g_iconst (v := 2) dX3_stepNumber_37 (by decide) ?_
        refine g_icmp_ge (tgt := 64) dX3_stepNumber_38 (by decide) (fun hc => ?_) (fun hc => ?_)
        · have hf := ite_t hc hf
          refine g_aload_n dX3_stepNumber_64 rfl ?_
          refine g_get (kk := 55) (by decide) (cel_55 _ _ _) rfl inX3 fl_X3_72 (by decide) rfl dX3_stepNumber_65 ?_
          exact w_X3_stepNumber_68 hr (fun hf => ih hf) hf
        · have hf := ite_f hc hf
          refine g_bipush (v := 10) dX3_stepNumber_41 (by decide) ?_
          refine g_aload_n dX3_stepNumber_43 rfl ?_
          refine g_get (kk := 55) (by decide) (cel_55 _ _ _) rfl inX3 fl_X3_72 (by decide) rfl dX3_stepNumber_44 ?_
          refine g_imul dX3_stepNumber_47 ?_
          refine g_aload_n dX3_stepNumber_48 rfl ?_
          refine g_get (kk := 55) (by decide) (cel_55 _ _ _) rfl inX3 fl_X3_9 (by decide) rfl dX3_stepNumber_49 ?_
          refine g_aload_n dX3_stepNumber_52 rfl ?_
          refine g_get (kk := 55) (by decide) (cel_55 _ _ _) rfl inX3 fl_X3_19 (by decide) rfl dX3_stepNumber_53 ?_
          obtain ⟨hi, hf⟩ := ck_s hf
          refine g_iaload (kk := 56) (by decide) (fun f g => cel_56 _ f g) hi rfl dX3_stepNumber_56 ?_
          refine g_iadd dX3_stepNumber_57 ?_
          refine g_bipush (v := 48) dX3_stepNumber_58 (by decide) ?_
          refine g_isub dX3_stepNumber_60 ?_
          refine g_goto (tgt := 68) dX3_stepNumber_61 (by decide) ?_
          exact w_X3_stepNumber_68 hr (fun hf => ih hf) hf
def f_X3_stepNumber  (M : Mem) : Option Mem :=
  let M1 := mI M 55 5 (0 : Int32)
  b_X3_stepNumber_5 fu M1
set_option maxHeartbeats 4000000 in
set_option maxRecDepth 100000 in
theorem c_X3_stepNumber {l : Launch}  {M : Mem} {M1 : Mem} (hf : f_X3_stepNumber M = some M1) : Cn l yX3_stepNumber cX3_stepNumber 1 none 1 21 (fun E => [.ref (E.1 55)]) M (none, M1) := by
  unfold f_X3_stepNumber at hf
  refine cn_of RX3 (fun E => [some (.ref (E.1 55))]) (by decide +kernel) rfl (fun E => Nat.le_of_ble_eq_true rfl) (fun E => rfl) (fun X hr => ?_)
  refine g_aload_n dX3_stepNumber_0 rfl ?_
  refine g_iconst (v := 0) dX3_stepNumber_1 (by decide) ?_
  refine g_putI (kk := 55) (by decide) (cel_55 _ _ _) (pI_55_5 _ _ _ _) rfl inX3 tyX3_ok nmX3 fl_X3_72 (by decide) (Nat.le_of_ble_eq_true rfl) rfl (by decide +kernel) dX3_stepNumber_2 ?_
  exact w_X3_stepNumber_5 hr fu hf
-- X4_restart_14
def b_X4_restart_14_20   (x1 : Int32) (M : Mem) : Option Mem :=
  let M1 := mI M 20 4 (0 : Int32)
  let M2 := mI M1 14 6 (0 : Int32)
  let M3 := mI M2 14 7 x1
  let M4 := mI M3 14 8 (0 : Int32)
  some M4
set_option maxHeartbeats 4000000 in
set_option maxRecDepth 100000 in
theorem w_X4_restart_14_20 {X : Cx} {M1 : Mem}      {x1 : Int32} {M : Mem} (hr : X.meth.sig.returnType = none) (hf : b_X4_restart_14_20 x1 M = some M1) : G X (none, M1) RX4 cX4_restart 3 0 0 20 [some (.ref (X.1.1 14)), some (.int x1), none] [] M := by
  unfold b_X4_restart_14_20 at hf
  refine g_aload_n dX4_restart_20 rfl ?_
  refine g_get (kk := 14) (by decide) (cel_14 _ _ _) rfl inX4 fl_X4_31 (by decide) rfl dX4_restart_21 ?_
  refine g_iconst (v := 0) dX4_restart_24 (by decide) ?_
  refine g_putI (kk := 20) (by decide) (cel_20 _ _ _) (pI_20_4 _ _ _ _) rfl inX2 tyX2_ok nmX2 fl_X4_43 (by decide) (Nat.le_of_ble_eq_true rfl) rfl (by decide +kernel) dX4_restart_25 ?_
  refine g_aload_n dX4_restart_28 rfl ?_
  refine g_iconst (v := 0) dX4_restart_29 (by decide) ?_
  refine g_putI (kk := 14) (by decide) (cel_14 _ _ _) (pI_14_6 _ _ _ _) rfl inX4 tyX4_ok nmX4 fl_X4_47 (by decide) (Nat.le_of_ble_eq_true rfl) rfl (by decide +kernel) dX4_restart_30 ?_
  refine g_aload_n dX4_restart_33 rfl ?_
  refine g_iload_n dX4_restart_34 rfl ?_
  refine g_putI (kk := 14) (by decide) (cel_14 _ _ _) (pI_14_7 _ _ _ _) rfl inX4 tyX4_ok nmX4 fl_X4_50 (by decide) (Nat.le_of_ble_eq_true rfl) rfl (by decide +kernel) dX4_restart_35 ?_
  refine g_aload_n dX4_restart_38 rfl ?_
  refine g_iconst (v := 0) dX4_restart_39 (by decide) ?_
  refine g_putI (kk := 14) (by decide) (cel_14 _ _ _) (pI_14_8 _ _ _ _) rfl inX4 tyX4_ok nmX4 fl_X4_53 (by decide) (Nat.le_of_ble_eq_true rfl) rfl (by decide +kernel) dX4_restart_40 ?_
  exact g_vret_w hr hf dX4_restart_43
def b_X4_restart_14_2   (x1 : Int32) : Nat → Int32 → Mem → Option Mem
  | 0, _, _ => none
  | n + 1, x2, M =>
    if (4 : Int32) ≤ x2 then (b_X4_restart_14_20 x1 M)
    else (ck x2 4 <|
    let M5 := mL M 19 (x2.toNatClampNeg) (0 : Int64)
    b_X4_restart_14_2 x1 n (x2 + (1 : Int32)) M5)
set_option maxHeartbeats 4000000 in
set_option maxRecDepth 100000 in
theorem w_X4_restart_14_2 {X : Cx} {M1 : Mem}   {x1 : Int32}   (hr : X.meth.sig.returnType = none) : ∀ (n : Nat) {x2 : Int32} {M : Mem}, b_X4_restart_14_2 x1 n x2 M = some M1 → G X (none, M1) RX4 cX4_restart 3 0 0 2 [some (.ref (X.1.1 14)), some (.int x1), some (.int x2)] [] M := by
  intro n
  induction n with
  | zero => intro x2 M hf; cases hf
  | succ n ih =>
    intro x2 M hf
    rw [b_X4_restart_14_2.eq_2] at hf
    refine g_iload_n dX4_restart_2 rfl ?_
    refine g_iconst (v := 4) dX4_restart_3 (by decide) ?_
    refine g_icmp_ge (tgt := 20) dX4_restart_4 (by decide) (fun hc => ?_) (fun hc => ?_)
    · have hf := ite_t hc hf
      exact g_weakr (w_X4_restart_14_20 hr hf) (lsk (lsk (lsd lsz)))
    · have hf := ite_f hc hf
      refine g_aload_n dX4_restart_7 rfl ?_
      refine g_get (kk := 14) (by decide) (cel_14 _ _ _) rfl inX4 fl_X4_24 (by decide) rfl dX4_restart_8 ?_
      refine g_iload_n dX4_restart_11 rfl ?_
      refine g_lconst (v := 0) dX4_restart_12 (by decide) ?_
      obtain ⟨hi, hf⟩ := ck_s hf
      refine g_lastore (kk := 19) (by decide) (fun f g => cel_19 _ f g) hi rfl dX4_restart_13 ?_
      refine g_iinc2 (v := (x2 + (1 : Int32))) dX4_restart_14 (by decide) lnl_i rfl ?_
      refine g_goto (tgt := 2) dX4_restart_17 (by decide) ?_
      exact ih hf
def f_X4_restart_14 (x1 : Int32) (M : Mem) : Option Mem :=
  b_X4_restart_14_2 x1 fu (0 : Int32) M
set_option maxHeartbeats 4000000 in
set_option maxRecDepth 100000 in
theorem c_X4_restart_14 {l : Launch} {x1 : Int32} {M : Mem} {M1 : Mem} (hf : f_X4_restart_14 x1 M = some M1) : Cn l yX4_restart cX4_restart 3 none 0 0 (fun E => [.ref (E.1 14), .int x1]) M (none, M1) := by
  unfold f_X4_restart_14 at hf
  refine cn_of RX4 (fun E => [some (.ref (E.1 14)), some (.int x1), none]) (by decide +kernel) rfl (fun E => Nat.le_of_ble_eq_true rfl) (fun E => rfl) (fun X hr => ?_)
  refine g_iconst (v := 0) dX4_restart_0 (by decide) ?_
  refine g_ist2 dX4_restart_1 (by decide) lnl_i ?_
  exact w_X4_restart_14_2 hr fu hf
-- X4_build_14
def f_X4_build_14 (x1 : Int32) (x2 : Int32) (x3 : Int32) (x4 : Int32) (M : Mem) : Option (Int32 × Mem) :=
  if (M.1 14 6) < (8 : Int32) then (ck (M.1 14 6) 8 <|
  let M1 := mI M 15 ((M.1 14 6).toNatClampNeg) x1
  ck (M.1 14 6) 8 <|
  let M2 := mI M1 16 ((M.1 14 6).toNatClampNeg) x2
  ck (M.1 14 6) 8 <|
  let M3 := mI M2 17 ((M.1 14 6).toNatClampNeg) x3
  ck (M.1 14 6) 8 <|
  let M4 := mI M3 18 ((M.1 14 6).toNatClampNeg) x4
  let M5 := mI M4 14 6 ((M4.1 14 6) + (1 : Int32))
  let M6 := mI M5 14 8 (0 : Int32)
  some ((M.1 14 6), M6))
  else (some ((-1 : Int32), M))
set_option maxHeartbeats 4000000 in
set_option maxRecDepth 100000 in
theorem c_X4_build_14 {l : Launch} {x1 : Int32} {x2 : Int32} {x3 : Int32} {x4 : Int32} {M : Mem} {r : Int32} {M1 : Mem} (hf : f_X4_build_14 x1 x2 x3 x4 M = some (r, M1)) : Cn l yX4_build cX4_build 6 (some .int) 0 0 (fun E => [.ref (E.1 14), .int x1, .int x2, .int x3, .int x4]) M (some (.int r), M1) := by
  unfold f_X4_build_14 at hf
  refine cn_of RX4 (fun E => [some (.ref (E.1 14)), some (.int x1), some (.int x2), some (.int x3), some (.int x4), none]) (by decide +kernel) rfl (fun E => Nat.le_of_ble_eq_true rfl) (fun E => rfl) (fun X hr => ?_)
  refine g_aload_n dX4_build_0 rfl ?_
  refine g_get (kk := 14) (by decide) (cel_14 _ _ _) rfl inX4 fl_X4_47 (by decide) rfl dX4_build_1 ?_
  refine g_bipush (v := 8) dX4_build_4 (by decide) ?_
  refine g_icmp_lt (tgt := 11) dX4_build_6 (by decide) (fun hc => ?_) (fun hc => ?_)
  · have hf := ite_t hc hf
    refine g_aload_n dX4_build_11 rfl ?_
    refine g_get (kk := 14) (by decide) (cel_14 _ _ _) rfl inX4 fl_X4_47 (by decide) rfl dX4_build_12 ?_
    refine g_ist5 dX4_build_15 (by decide) lnl_i ?_
    refine g_aload_n dX4_build_17 rfl ?_
    refine g_get (kk := 14) (by decide) (cel_14 _ _ _) rfl inX4 fl_X4_9 (by decide) rfl dX4_build_18 ?_
    refine g_iload dX4_build_21 rfl ?_
    refine g_iload_n dX4_build_23 rfl ?_
    obtain ⟨hi, hf⟩ := ck_s hf
    refine g_iastore (kk := 15) (by decide) (fun f g => cel_15 _ f g) hi rfl dX4_build_24 ?_
    refine g_aload_n dX4_build_25 rfl ?_
    refine g_get (kk := 14) (by decide) (cel_14 _ _ _) rfl inX4 fl_X4_15 (by decide) rfl dX4_build_26 ?_
    refine g_iload dX4_build_29 rfl ?_
    refine g_iload_n dX4_build_31 rfl ?_
    obtain ⟨hi, hf⟩ := ck_s hf
    refine g_iastore (kk := 16) (by decide) (fun f g => cel_16 _ f g) hi rfl dX4_build_32 ?_
    refine g_aload_n dX4_build_33 rfl ?_
    refine g_get (kk := 14) (by decide) (cel_14 _ _ _) rfl inX4 fl_X4_18 (by decide) rfl dX4_build_34 ?_
    refine g_iload dX4_build_37 rfl ?_
    refine g_iload_n dX4_build_39 rfl ?_
    obtain ⟨hi, hf⟩ := ck_s hf
    refine g_iastore (kk := 17) (by decide) (fun f g => cel_17 _ f g) hi rfl dX4_build_40 ?_
    refine g_aload_n dX4_build_41 rfl ?_
    refine g_get (kk := 14) (by decide) (cel_14 _ _ _) rfl inX4 fl_X4_21 (by decide) rfl dX4_build_42 ?_
    refine g_iload dX4_build_45 rfl ?_
    refine g_iload dX4_build_47 rfl ?_
    obtain ⟨hi, hf⟩ := ck_s hf
    refine g_iastore (kk := 18) (by decide) (fun f g => cel_18 _ f g) hi rfl dX4_build_49 ?_
    refine g_aload_n dX4_build_50 rfl ?_
    refine g_dup dX4_build_51 rfl ?_
    refine g_get (kk := 14) (by decide) (cel_14 _ _ _) rfl inX4 fl_X4_47 (by decide) rfl dX4_build_52 ?_
    refine g_iconst (v := 1) dX4_build_55 (by decide) ?_
    refine g_iadd dX4_build_56 ?_
    refine g_putI (kk := 14) (by decide) (cel_14 _ _ _) (pI_14_6 _ _ _ _) rfl inX4 tyX4_ok nmX4 fl_X4_47 (by decide) (Nat.le_of_ble_eq_true rfl) rfl (by decide +kernel) dX4_build_57 ?_
    refine g_aload_n dX4_build_60 rfl ?_
    refine g_iconst (v := 0) dX4_build_61 (by decide) ?_
    refine g_putI (kk := 14) (by decide) (cel_14 _ _ _) (pI_14_8 _ _ _ _) rfl inX4 tyX4_ok nmX4 fl_X4_53 (by decide) (Nat.le_of_ble_eq_true rfl) rfl (by decide +kernel) dX4_build_62 ?_
    refine g_iload dX4_build_65 rfl ?_
    exact g_iret_w hr hf dX4_build_67
  · have hf := ite_f hc hf
    refine g_iconst (v := (-1)) dX4_build_9 (by decide) ?_
    exact g_iret_w hr hf dX4_build_10
-- X3_faultPlace
def f_X3_faultPlace (M : Mem)  : Int32 :=
  (M.1 55 3)
set_option maxHeartbeats 4000000 in
set_option maxRecDepth 100000 in
theorem c_X3_faultPlace {l : Launch}  {M : Mem} {r : Int32} (hf : f_X3_faultPlace M = r) : Cn l yX3_faultPlace cX3_faultPlace 1 (some .int) 0 0 (fun E => [.ref (E.1 55)]) M (some (.int r), M) := by
  unfold f_X3_faultPlace at hf
  refine cn_of RX3 (fun E => [some (.ref (E.1 55))]) (by decide +kernel) rfl (fun E => Nat.le_of_ble_eq_true rfl) (fun E => rfl) (fun X hr => ?_)
  refine g_aload_n dX3_faultPlace_0 rfl ?_
  refine g_get (kk := 55) (by decide) (cel_55 _ _ _) rfl inX3 fl_X3_38 (by decide) rfl dX3_faultPlace_1 ?_
  exact g_iret_t hr hf dX3_faultPlace_4
-- X2_copyOf_7_20
def f_X2_copyOf_7_20  (M : Mem) : Option Mem :=
  let M1 := rI M 8 (va_cpy (M.1 21) (M.1 8) 0 0 8)
  let M2 := rI M1 9 (va_cpy (M1.1 22) (M1.1 9) 0 0 8)
  let M3 := rL M2 10 (va_cpy (M2.2 23) (M2.2 10) 0 0 8)
  let M4 := rL M3 11 (va_cpy (M3.2 24) (M3.2 11) 0 0 8)
  let M5 := mI M4 7 4 (M4.1 20 4)
  some M5
set_option maxHeartbeats 4000000 in
set_option maxRecDepth 100000 in
theorem c_X2_copyOf_7_20 {l : Launch}  {M : Mem} {M1 : Mem} (hf : f_X2_copyOf_7_20 M = some M1) : Cn l yX2_copyOf cX2_copyOf 2 none 1 60 (fun E => [.ref (E.1 7), .ref (E.1 20)]) M (none, M1) := by
  unfold f_X2_copyOf_7_20 at hf
  refine cn_of RX2 (fun E => [some (.ref (E.1 7)), some (.ref (E.1 20))]) (by decide +kernel) rfl (fun E => Nat.le_of_ble_eq_true rfl) (fun E => rfl) (fun X hr => ?_)
  refine g_aload_n dX2_copyOf_0 rfl ?_
  refine g_get (kk := 20) (by decide) (cel_20 _ _ _) rfl inX2 fl_X2_9 (by decide) rfl dX2_copyOf_1 ?_
  refine g_iconst (v := 0) dX2_copyOf_4 (by decide) ?_
  refine g_aload_n dX2_copyOf_5 rfl ?_
  refine g_get (kk := 7) (by decide) (cel_7 _ _ _) rfl inX2 fl_X2_9 (by decide) rfl dX2_copyOf_6 ?_
  refine g_iconst (v := 0) dX2_copyOf_9 (by decide) ?_
  refine g_bipush (v := 8) dX2_copyOf_10 (by decide) ?_
  refine g_copyI (k0 := 21) (k1 := 8) ac_X2_29 ac_nat ac_st ac_in (by decide) (fun f g => cel_21 _ f g) (by decide) (fun f g => cel_8 _ f g) (by decide) (by decide) (by decide) (by decide) (by decide) (by decide) (by decide) dX2_copyOf_12 ?_
  refine g_aload_n dX2_copyOf_15 rfl ?_
  refine g_get (kk := 20) (by decide) (cel_20 _ _ _) rfl inX2 fl_X2_15 (by decide) rfl dX2_copyOf_16 ?_
  refine g_iconst (v := 0) dX2_copyOf_19 (by decide) ?_
  refine g_aload_n dX2_copyOf_20 rfl ?_
  refine g_get (kk := 7) (by decide) (cel_7 _ _ _) rfl inX2 fl_X2_15 (by decide) rfl dX2_copyOf_21 ?_
  refine g_iconst (v := 0) dX2_copyOf_24 (by decide) ?_
  refine g_bipush (v := 8) dX2_copyOf_25 (by decide) ?_
  refine g_copyI (k0 := 22) (k1 := 9) ac_X2_29 ac_nat ac_st ac_in (by decide) (fun f g => cel_22 _ f g) (by decide) (fun f g => cel_9 _ f g) (by decide) (by decide) (by decide) (by decide) (by decide) (by decide) (by decide) dX2_copyOf_27 ?_
  refine g_aload_n dX2_copyOf_30 rfl ?_
  refine g_get (kk := 20) (by decide) (cel_20 _ _ _) rfl inX2 fl_X2_18 (by decide) rfl dX2_copyOf_31 ?_
  refine g_iconst (v := 0) dX2_copyOf_34 (by decide) ?_
  refine g_aload_n dX2_copyOf_35 rfl ?_
  refine g_get (kk := 7) (by decide) (cel_7 _ _ _) rfl inX2 fl_X2_18 (by decide) rfl dX2_copyOf_36 ?_
  refine g_iconst (v := 0) dX2_copyOf_39 (by decide) ?_
  refine g_bipush (v := 8) dX2_copyOf_40 (by decide) ?_
  refine g_copyL (k0 := 23) (k1 := 10) ac_X2_29 ac_nat ac_st ac_in (by decide) (fun f g => cel_23 _ f g) (by decide) (fun f g => cel_10 _ f g) (by decide) (by decide) (by decide) (by decide) (by decide) (by decide) (by decide) dX2_copyOf_42 ?_
  refine g_aload_n dX2_copyOf_45 rfl ?_
  refine g_get (kk := 20) (by decide) (cel_20 _ _ _) rfl inX2 fl_X2_22 (by decide) rfl dX2_copyOf_46 ?_
  refine g_iconst (v := 0) dX2_copyOf_49 (by decide) ?_
  refine g_aload_n dX2_copyOf_50 rfl ?_
  refine g_get (kk := 7) (by decide) (cel_7 _ _ _) rfl inX2 fl_X2_22 (by decide) rfl dX2_copyOf_51 ?_
  refine g_iconst (v := 0) dX2_copyOf_54 (by decide) ?_
  refine g_bipush (v := 8) dX2_copyOf_55 (by decide) ?_
  refine g_copyL (k0 := 24) (k1 := 11) ac_X2_29 ac_nat ac_st ac_in (by decide) (fun f g => cel_24 _ f g) (by decide) (fun f g => cel_11 _ f g) (by decide) (by decide) (by decide) (by decide) (by decide) (by decide) (by decide) dX2_copyOf_57 ?_
  refine g_aload_n dX2_copyOf_60 rfl ?_
  refine g_aload_n dX2_copyOf_61 rfl ?_
  refine g_get (kk := 20) (by decide) (cel_20 _ _ _) rfl inX2 fl_X2_25 (by decide) rfl dX2_copyOf_62 ?_
  refine g_putI (kk := 7) (by decide) (cel_7 _ _ _) (pI_7_4 _ _ _ _) rfl inX2 tyX2_ok nmX2 fl_X2_25 (by decide) (Nat.le_of_ble_eq_true rfl) rfl (by decide +kernel) dX2_copyOf_65 ?_
  exact g_vret_w hr hf dX2_copyOf_68
-- X4_copyOf_1_14
def f_X4_copyOf_1_14  (M : Mem) : Option Mem :=
  let M1 := rI M 2 (va_cpy (M.1 15) (M.1 2) 0 0 8)
  let M2 := rI M1 3 (va_cpy (M1.1 16) (M1.1 3) 0 0 8)
  let M3 := rI M2 4 (va_cpy (M2.1 17) (M2.1 4) 0 0 8)
  let M4 := rI M3 5 (va_cpy (M3.1 18) (M3.1 5) 0 0 8)
  let M5 := rL M4 6 (va_cpy (M4.2 19) (M4.2 6) 0 0 4)
  (f_X2_copyOf_7_20 M5).bind fun r6 =>
  let M7 := mI r6 1 6 (r6.1 14 6)
  let M8 := mI M7 1 7 (M7.1 14 7)
  let M9 := mI M8 1 8 (M8.1 14 8)
  let M10 := rI M9 12 (va_cpy (M9.1 25) (M9.1 12) 0 0 8)
  let M11 := rI M10 13 (va_cpy (M10.1 26) (M10.1 13) 0 0 8)
  some M11
set_option maxHeartbeats 4000000 in
set_option maxRecDepth 100000 in
theorem c_X4_copyOf_1_14 {l : Launch}  {M : Mem} {M1 : Mem} (hf : f_X4_copyOf_1_14 M = some M1) : Cn l yX4_copyOf cX4_copyOf 2 none 2 81 (fun E => [.ref (E.1 1), .ref (E.1 14)]) M (none, M1) := by
  unfold f_X4_copyOf_1_14 at hf
  refine cn_of RX4 (fun E => [some (.ref (E.1 1)), some (.ref (E.1 14))]) (by decide +kernel) rfl (fun E => Nat.le_of_ble_eq_true rfl) (fun E => rfl) (fun X hr => ?_)
  refine g_aload_n dX4_copyOf_0 rfl ?_
  refine g_get (kk := 14) (by decide) (cel_14 _ _ _) rfl inX4 fl_X4_9 (by decide) rfl dX4_copyOf_1 ?_
  refine g_iconst (v := 0) dX4_copyOf_4 (by decide) ?_
  refine g_aload_n dX4_copyOf_5 rfl ?_
  refine g_get (kk := 1) (by decide) (cel_1 _ _ _) rfl inX4 fl_X4_9 (by decide) rfl dX4_copyOf_6 ?_
  refine g_iconst (v := 0) dX4_copyOf_9 (by decide) ?_
  refine g_bipush (v := 8) dX4_copyOf_10 (by decide) ?_
  refine g_copyI (k0 := 15) (k1 := 2) ac_X4_56 ac_nat ac_st ac_in (by decide) (fun f g => cel_15 _ f g) (by decide) (fun f g => cel_2 _ f g) (by decide) (by decide) (by decide) (by decide) (by decide) (by decide) (by decide) dX4_copyOf_12 ?_
  refine g_aload_n dX4_copyOf_15 rfl ?_
  refine g_get (kk := 14) (by decide) (cel_14 _ _ _) rfl inX4 fl_X4_15 (by decide) rfl dX4_copyOf_16 ?_
  refine g_iconst (v := 0) dX4_copyOf_19 (by decide) ?_
  refine g_aload_n dX4_copyOf_20 rfl ?_
  refine g_get (kk := 1) (by decide) (cel_1 _ _ _) rfl inX4 fl_X4_15 (by decide) rfl dX4_copyOf_21 ?_
  refine g_iconst (v := 0) dX4_copyOf_24 (by decide) ?_
  refine g_bipush (v := 8) dX4_copyOf_25 (by decide) ?_
  refine g_copyI (k0 := 16) (k1 := 3) ac_X4_56 ac_nat ac_st ac_in (by decide) (fun f g => cel_16 _ f g) (by decide) (fun f g => cel_3 _ f g) (by decide) (by decide) (by decide) (by decide) (by decide) (by decide) (by decide) dX4_copyOf_27 ?_
  refine g_aload_n dX4_copyOf_30 rfl ?_
  refine g_get (kk := 14) (by decide) (cel_14 _ _ _) rfl inX4 fl_X4_18 (by decide) rfl dX4_copyOf_31 ?_
  refine g_iconst (v := 0) dX4_copyOf_34 (by decide) ?_
  refine g_aload_n dX4_copyOf_35 rfl ?_
  refine g_get (kk := 1) (by decide) (cel_1 _ _ _) rfl inX4 fl_X4_18 (by decide) rfl dX4_copyOf_36 ?_
  refine g_iconst (v := 0) dX4_copyOf_39 (by decide) ?_
  refine g_bipush (v := 8) dX4_copyOf_40 (by decide) ?_
  refine g_copyI (k0 := 17) (k1 := 4) ac_X4_56 ac_nat ac_st ac_in (by decide) (fun f g => cel_17 _ f g) (by decide) (fun f g => cel_4 _ f g) (by decide) (by decide) (by decide) (by decide) (by decide) (by decide) (by decide) dX4_copyOf_42 ?_
  refine g_aload_n dX4_copyOf_45 rfl ?_
  refine g_get (kk := 14) (by decide) (cel_14 _ _ _) rfl inX4 fl_X4_21 (by decide) rfl dX4_copyOf_46 ?_
  refine g_iconst (v := 0) dX4_copyOf_49 (by decide) ?_
  refine g_aload_n dX4_copyOf_50 rfl ?_
  refine g_get (kk := 1) (by decide) (cel_1 _ _ _) rfl inX4 fl_X4_21 (by decide) rfl dX4_copyOf_51 ?_
  refine g_iconst (v := 0) dX4_copyOf_54 (by decide) ?_
  refine g_bipush (v := 8) dX4_copyOf_55 (by decide) ?_
  refine g_copyI (k0 := 18) (k1 := 5) ac_X4_56 ac_nat ac_st ac_in (by decide) (fun f g => cel_18 _ f g) (by decide) (fun f g => cel_5 _ f g) (by decide) (by decide) (by decide) (by decide) (by decide) (by decide) (by decide) dX4_copyOf_57 ?_
  refine g_aload_n dX4_copyOf_60 rfl ?_
  refine g_get (kk := 14) (by decide) (cel_14 _ _ _) rfl inX4 fl_X4_24 (by decide) rfl dX4_copyOf_61 ?_
  refine g_iconst (v := 0) dX4_copyOf_64 (by decide) ?_
  refine g_aload_n dX4_copyOf_65 rfl ?_
  refine g_get (kk := 1) (by decide) (cel_1 _ _ _) rfl inX4 fl_X4_24 (by decide) rfl dX4_copyOf_66 ?_
  refine g_iconst (v := 0) dX4_copyOf_69 (by decide) ?_
  refine g_iconst (v := 4) dX4_copyOf_70 (by decide) ?_
  refine g_copyL (k0 := 19) (k1 := 6) ac_X4_56 ac_nat ac_st ac_in (by decide) (fun f g => cel_19 _ f g) (by decide) (fun f g => cel_6 _ f g) (by decide) (by decide) (by decide) (by decide) (by decide) (by decide) (by decide) dX4_copyOf_71 ?_
  refine g_aload_n dX4_copyOf_74 rfl ?_
  refine g_get (kk := 1) (by decide) (cel_1 _ _ _) rfl inX4 fl_X4_31 (by decide) rfl dX4_copyOf_75 ?_
  refine g_aload_n dX4_copyOf_78 rfl ?_
  refine g_get (kk := 14) (by decide) (cel_14 _ _ _) rfl inX4 fl_X4_31 (by decide) rfl dX4_copyOf_79 ?_
  obtain ⟨r6, hq, hf⟩ := bnd hf
  refine g_cV_R_V (c_X2_copyOf_7_20 hq) cv_X4_62 (by decide) (cel_7 _ _ _) rfl ⟨by decide, by decide⟩ (Nat.le_of_ble_eq_true rfl) dX4_copyOf_82 ?_
  refine g_aload_n dX4_copyOf_85 rfl ?_
  refine g_aload_n dX4_copyOf_86 rfl ?_
  refine g_get (kk := 14) (by decide) (cel_14 _ _ _) rfl inX4 fl_X4_47 (by decide) rfl dX4_copyOf_87 ?_
  refine g_putI (kk := 1) (by decide) (cel_1 _ _ _) (pI_1_6 _ _ _ _) rfl inX4 tyX4_ok nmX4 fl_X4_47 (by decide) (Nat.le_of_ble_eq_true rfl) rfl (by decide +kernel) dX4_copyOf_90 ?_
  refine g_aload_n dX4_copyOf_93 rfl ?_
  refine g_aload_n dX4_copyOf_94 rfl ?_
  refine g_get (kk := 14) (by decide) (cel_14 _ _ _) rfl inX4 fl_X4_50 (by decide) rfl dX4_copyOf_95 ?_
  refine g_putI (kk := 1) (by decide) (cel_1 _ _ _) (pI_1_7 _ _ _ _) rfl inX4 tyX4_ok nmX4 fl_X4_50 (by decide) (Nat.le_of_ble_eq_true rfl) rfl (by decide +kernel) dX4_copyOf_98 ?_
  refine g_aload_n dX4_copyOf_101 rfl ?_
  refine g_aload_n dX4_copyOf_102 rfl ?_
  refine g_get (kk := 14) (by decide) (cel_14 _ _ _) rfl inX4 fl_X4_53 (by decide) rfl dX4_copyOf_103 ?_
  refine g_putI (kk := 1) (by decide) (cel_1 _ _ _) (pI_1_8 _ _ _ _) rfl inX4 tyX4_ok nmX4 fl_X4_53 (by decide) (Nat.le_of_ble_eq_true rfl) rfl (by decide +kernel) dX4_copyOf_106 ?_
  refine g_aload_n dX4_copyOf_109 rfl ?_
  refine g_get (kk := 14) (by decide) (cel_14 _ _ _) rfl inX4 fl_X4_35 (by decide) rfl dX4_copyOf_110 ?_
  refine g_iconst (v := 0) dX4_copyOf_113 (by decide) ?_
  refine g_aload_n dX4_copyOf_114 rfl ?_
  refine g_get (kk := 1) (by decide) (cel_1 _ _ _) rfl inX4 fl_X4_35 (by decide) rfl dX4_copyOf_115 ?_
  refine g_iconst (v := 0) dX4_copyOf_118 (by decide) ?_
  refine g_bipush (v := 8) dX4_copyOf_119 (by decide) ?_
  refine g_copyI (k0 := 25) (k1 := 12) ac_X4_56 ac_nat ac_st ac_in (by decide) (fun f g => cel_25 _ f g) (by decide) (fun f g => cel_12 _ f g) (by decide) (by decide) (by decide) (by decide) (by decide) (by decide) (by decide) dX4_copyOf_121 ?_
  refine g_aload_n dX4_copyOf_124 rfl ?_
  refine g_get (kk := 14) (by decide) (cel_14 _ _ _) rfl inX4 fl_X4_38 (by decide) rfl dX4_copyOf_125 ?_
  refine g_iconst (v := 0) dX4_copyOf_128 (by decide) ?_
  refine g_aload_n dX4_copyOf_129 rfl ?_
  refine g_get (kk := 1) (by decide) (cel_1 _ _ _) rfl inX4 fl_X4_38 (by decide) rfl dX4_copyOf_130 ?_
  refine g_iconst (v := 0) dX4_copyOf_133 (by decide) ?_
  refine g_bipush (v := 8) dX4_copyOf_134 (by decide) ?_
  refine g_copyI (k0 := 26) (k1 := 13) ac_X4_56 ac_nat ac_st ac_in (by decide) (fun f g => cel_26 _ f g) (by decide) (fun f g => cel_13 _ f g) (by decide) (by decide) (by decide) (by decide) (by decide) (by decide) (by decide) dX4_copyOf_136 ?_
  exact g_vret_w hr hf dX4_copyOf_139
-- X7_of
def f_X7_of (x1 : Int32) (x2 : Int32) (M : Mem) : Option (Int32 × Mem) :=
  if (f_X7_isBridge M x1) = 0 then ((f_X7_refuseBad (-2 : Int32) M).bind fun r2 =>
  some (r2.1, r2.2))
  else (if x2 = 0 then (ck x1 8 <|
  some ((M.1 2 x1.toNatClampNeg), M))
  else if x2 = 1 then (ck x1 8 <|
  some ((M.1 3 x1.toNatClampNeg), M))
  else if x2 = 2 then (ck x1 8 <|
  some ((M.1 4 x1.toNatClampNeg), M))
  else if x2 = 3 then (ck x1 8 <|
  some ((M.1 5 x1.toNatClampNeg), M))
  else ((f_X7_refuseBad (-2 : Int32) M).bind fun r1 =>
  some (r1.1, r1.2)))
set_option maxHeartbeats 4000000 in
set_option maxRecDepth 100000 in
theorem c_X7_of {l : Launch} {x1 : Int32} {x2 : Int32} {M : Mem} {r : Int32} {M1 : Mem} (hf : f_X7_of x1 x2 M = some (r, M1)) : Cn l yX7_of cX7_of 3 (some .int) 2 42 (fun E => [.ref (E.1 0), .int x1, .int x2]) M (some (.int r), M1) := by
  unfold f_X7_of at hf
  refine cn_of RX7 (fun E => [some (.ref (E.1 0)), some (.int x1), some (.int x2)]) (by decide +kernel) rfl (fun E => Nat.le_of_ble_eq_true rfl) (fun E => rfl) (fun X hr => ?_)
  refine g_aload_n dX7_of_0 rfl ?_
  refine g_iload_n dX7_of_1 rfl ?_
  refine g_cV_I_I (c_X7_isBridge rfl) cv_X7_83 (by decide) (cel_0 _ _ _) rfl ⟨by decide, by decide⟩ (Nat.le_of_ble_eq_true rfl) dX7_of_2 ?_
  refine g_if_ne (tgt := 15) dX7_of_5 (by decide) (fun hc => ?_) (fun hc => ?_)
  · have hf := ite_f hc hf
    refine g_iload_n dX7_of_15 rfl ?_
    by_cases h0 : x2 = 0
    · have hf := ite_t h0 hf
      refine g_tabIn (tgt := 48) dX7_of_16 (by rw [h0]; decide) (by rw [h0]; decide) (by rw [h0]; rfl) (by decide) ?_
      refine g_aload_n dX7_of_48 rfl ?_
      refine g_get (kk := 0) (by decide) (cel_0 _ _ _) rfl inX7 fl_X7_10 (by decide) rfl dX7_of_49 ?_
      refine g_get (kk := 1) (by decide) (cel_1 _ _ _) rfl inX4 fl_X7_138 (by decide) rfl dX7_of_52 ?_
      refine g_iload_n dX7_of_55 rfl ?_
      obtain ⟨hi, hf⟩ := ck_s hf
      refine g_iaload (kk := 2) (by decide) (fun f g => cel_2 _ f g) hi rfl dX7_of_56 ?_
      exact g_iret_w hr hf dX7_of_57
    have hf := ite_f h0 hf
    by_cases h1 : x2 = 1
    · have hf := ite_t h1 hf
      refine g_tabIn (tgt := 58) dX7_of_16 (by rw [h1]; decide) (by rw [h1]; decide) (by rw [h1]; rfl) (by decide) ?_
      refine g_aload_n dX7_of_58 rfl ?_
      refine g_get (kk := 0) (by decide) (cel_0 _ _ _) rfl inX7 fl_X7_10 (by decide) rfl dX7_of_59 ?_
      refine g_get (kk := 1) (by decide) (cel_1 _ _ _) rfl inX4 fl_X7_141 (by decide) rfl dX7_of_62 ?_
      refine g_iload_n dX7_of_65 rfl ?_
      obtain ⟨hi, hf⟩ := ck_s hf
      refine g_iaload (kk := 3) (by decide) (fun f g => cel_3 _ f g) hi rfl dX7_of_66 ?_
      exact g_iret_w hr hf dX7_of_67
    have hf := ite_f h1 hf
    by_cases h2 : x2 = 2
    · have hf := ite_t h2 hf
      refine g_tabIn (tgt := 68) dX7_of_16 (by rw [h2]; decide) (by rw [h2]; decide) (by rw [h2]; rfl) (by decide) ?_
      refine g_aload_n dX7_of_68 rfl ?_
      refine g_get (kk := 0) (by decide) (cel_0 _ _ _) rfl inX7 fl_X7_10 (by decide) rfl dX7_of_69 ?_
      refine g_get (kk := 1) (by decide) (cel_1 _ _ _) rfl inX4 fl_X7_144 (by decide) rfl dX7_of_72 ?_
      refine g_iload_n dX7_of_75 rfl ?_
      obtain ⟨hi, hf⟩ := ck_s hf
      refine g_iaload (kk := 4) (by decide) (fun f g => cel_4 _ f g) hi rfl dX7_of_76 ?_
      exact g_iret_w hr hf dX7_of_77
    have hf := ite_f h2 hf
    by_cases h3 : x2 = 3
    · have hf := ite_t h3 hf
      refine g_tabIn (tgt := 78) dX7_of_16 (by rw [h3]; decide) (by rw [h3]; decide) (by rw [h3]; rfl) (by decide) ?_
      refine g_aload_n dX7_of_78 rfl ?_
      refine g_get (kk := 0) (by decide) (cel_0 _ _ _) rfl inX7 fl_X7_10 (by decide) rfl dX7_of_79 ?_
      refine g_get (kk := 1) (by decide) (cel_1 _ _ _) rfl inX4 fl_X7_147 (by decide) rfl dX7_of_82 ?_
      refine g_iload_n dX7_of_85 rfl ?_
      obtain ⟨hi, hf⟩ := ck_s hf
      refine g_iaload (kk := 5) (by decide) (fun f g => cel_5 _ f g) hi rfl dX7_of_86 ?_
      exact g_iret_w hr hf dX7_of_87
    have hf := ite_f h3 hf
    have n0 := lv_neT (a := 0) h0 (by decide)
    have n1 := lv_neT (a := 1) h1 (by decide)
    have n2 := lv_neT (a := 2) h2 (by decide)
    have n3 := lv_neT (a := 3) h3 (by decide)
    refine g_tabOut (tgt := 88) dX7_of_16 (by omega) (by decide) ?_
    refine g_aload_n dX7_of_88 rfl ?_
    refine g_bipush (v := (-2)) dX7_of_89 (by decide) ?_
    obtain ⟨r1, hq, hf⟩ := bnd hf
    refine g_cV_I_I (c_X7_refuseBad (r := r1.1) (M1 := r1.2) hq) cv_X7_60 (by decide) (cel_0 _ _ _) rfl ⟨by decide, by decide⟩ (Nat.le_of_ble_eq_true rfl) dX7_of_91 ?_
    exact g_iret_w hr hf dX7_of_94
  · have hf := ite_t hc hf
    refine g_aload_n dX7_of_8 rfl ?_
    refine g_bipush (v := (-2)) dX7_of_9 (by decide) ?_
    obtain ⟨r2, hq, hf⟩ := bnd hf
    refine g_cV_I_I (c_X7_refuseBad (r := r2.1) (M1 := r2.2) hq) cv_X7_60 (by decide) (cel_0 _ _ _) rfl ⟨by decide, by decide⟩ (Nat.le_of_ble_eq_true rfl) dX7_of_11 ?_
    exact g_iret_w hr hf dX7_of_14
-- X1_syllable
def f_X1_syllable (x0 : Int64) (x2 : Int32) : Int32 :=
  ((x0.toUInt64 >>> (((4 : Int32) * (x2 + (1 : Int32))).toInt64.toUInt64 &&& Int64.toUInt64 63)).toInt64 &&& (15 : Int64)).toInt32
set_option maxHeartbeats 4000000 in
set_option maxRecDepth 100000 in
theorem c_X1_syllable {l : Launch} {x0 : Int64} {x2 : Int32} {M : Mem} {r : Int32} (hf : f_X1_syllable x0 x2 = r) : Cn l yX1_syllable cX1_syllable 3 (some .int) 0 0 (fun E => [.long x0, .int x2]) M (some (.int r), M) := by
  unfold f_X1_syllable at hf
  refine cn_of RX1 (fun E => [some (.long x0), none, some (.int x2)]) (by decide +kernel) rfl (fun E => Nat.le_of_ble_eq_true rfl) (fun E => rfl) (fun X hr => ?_)
  refine g_lload_n dX1_syllable_0 rfl ?_
  refine g_iconst (v := 4) dX1_syllable_1 (by decide) ?_
  refine g_iload_n dX1_syllable_2 rfl ?_
  refine g_iconst (v := 1) dX1_syllable_3 (by decide) ?_
  refine g_iadd dX1_syllable_4 ?_
  refine g_imul dX1_syllable_5 ?_
  refine g_lushr dX1_syllable_6 ?_
  refine g_ldc2 cl_X1_11 dX1_syllable_7 ?_
  refine g_land dX1_syllable_10 ?_
  refine g_l2i dX1_syllable_11 ?_
  exact g_iret_t hr hf dX1_syllable_12
-- X7_lengthOrSyllable
def f_X7_lengthOrSyllable (x0 : Int64) (x2 : Int32) : Int32 :=
  if x2 = (-1 : Int32) then ((f_X1_length x0))
  else (if (f_X1_length x0) ≤ x2 then ((-5 : Int32))
  else ((f_X1_syllable x0 x2)))
set_option maxHeartbeats 4000000 in
set_option maxRecDepth 100000 in
theorem c_X7_lengthOrSyllable {l : Launch} {x0 : Int64} {x2 : Int32} {M : Mem} {r : Int32} (hf : f_X7_lengthOrSyllable x0 x2 = r) : Cn l yX7_lengthOrSyllable cX7_lengthOrSyllable 3 (some .int) 1 22 (fun E => [.long x0, .int x2]) M (some (.int r), M) := by
  unfold f_X7_lengthOrSyllable at hf
  refine cn_of RX7 (fun E => [some (.long x0), none, some (.int x2)]) (by decide +kernel) rfl (fun E => Nat.le_of_ble_eq_true rfl) (fun E => rfl) (fun X hr => ?_)
  refine g_iload_n dX7_lengthOrSyllable_0 rfl ?_
  refine g_iconst (v := (-1)) dX7_lengthOrSyllable_1 (by decide) ?_
  refine g_icmp_ne (tgt := 10) dX7_lengthOrSyllable_2 (by decide) (fun hc => ?_) (fun hc => ?_)
  · have hf := ite_f hc hf
    refine g_iload_n dX7_lengthOrSyllable_10 rfl ?_
    refine g_lload_n dX7_lengthOrSyllable_11 rfl ?_
    refine g_cS_J_I (c_X1_length rfl) cs_X7_112 ⟨by decide, by decide⟩ (Nat.le_of_ble_eq_true rfl) dX7_lengthOrSyllable_12 ?_
    refine g_icmp_ge (tgt := 26) dX7_lengthOrSyllable_15 (by decide) (fun hc => ?_) (fun hc => ?_)
    · have hf := ite_t hc hf
      refine g_bipush (v := (-5)) dX7_lengthOrSyllable_26 (by decide) ?_
      exact g_iret_t hr hf dX7_lengthOrSyllable_28
    · have hf := ite_f hc hf
      refine g_lload_n dX7_lengthOrSyllable_18 rfl ?_
      refine g_iload_n dX7_lengthOrSyllable_19 rfl ?_
      refine g_cS_JI_I (c_X1_syllable rfl) cs_X7_270 ⟨by decide, by decide⟩ (Nat.le_of_ble_eq_true rfl) dX7_lengthOrSyllable_20 ?_
      refine g_goto (tgt := 28) dX7_lengthOrSyllable_23 (by decide) ?_
      exact g_iret_t hr hf dX7_lengthOrSyllable_28
  · have hf := ite_t hc hf
    refine g_lload_n dX7_lengthOrSyllable_5 rfl ?_
    refine g_cS_J_I (c_X1_length rfl) cs_X7_112 ⟨by decide, by decide⟩ (Nat.le_of_ble_eq_true rfl) dX7_lengthOrSyllable_6 ?_
    exact g_iret_t hr hf dX7_lengthOrSyllable_9
-- X7_at
def f_X7_at (x1 : Int32) (x2 : Int32) (M : Mem) : Option (Int32 × Mem) :=
  if (f_X7_isRow x1) = 0 then ((f_X7_refuseBad (-10 : Int32) M).bind fun r1 =>
  some (r1.1, r1.2))
  else (if (-1 : Int32) ≤ x2 then (ck x1 4 <|
  some ((f_X7_lengthOrSyllable (M.2 6 x1.toNatClampNeg) x2), M))
  else ((f_X7_refuseBad (-10 : Int32) M).bind fun r2 =>
  some (r2.1, r2.2)))
set_option maxHeartbeats 4000000 in
set_option maxRecDepth 100000 in
theorem c_X7_at {l : Launch} {x1 : Int32} {x2 : Int32} {M : Mem} {r : Int32} {M1 : Mem} (hf : f_X7_at x1 x2 M = some (r, M1)) : Cn l yX7_at cX7_at 3 (some .int) 2 44 (fun E => [.ref (E.1 0), .int x1, .int x2]) M (some (.int r), M1) := by
  unfold f_X7_at at hf
  refine cn_of RX7 (fun E => [some (.ref (E.1 0)), some (.int x1), some (.int x2)]) (by decide +kernel) rfl (fun E => Nat.le_of_ble_eq_true rfl) (fun E => rfl) (fun X hr => ?_)
  refine g_iload_n dX7_at_0 rfl ?_
  refine g_cS_I_I (c_X7_isRow rfl) cs_X7_106 ⟨by decide, by decide⟩ (Nat.le_of_ble_eq_true rfl) dX7_at_1 ?_
  refine g_if_eq (tgt := 12) dX7_at_4 (by decide) (fun hc => ?_) (fun hc => ?_)
  · have hf := ite_t hc hf
    refine g_aload_n dX7_at_12 rfl ?_
    refine g_bipush (v := (-10)) dX7_at_13 (by decide) ?_
    obtain ⟨r1, hq, hf⟩ := bnd hf
    refine g_cV_I_I (c_X7_refuseBad (r := r1.1) (M1 := r1.2) hq) cv_X7_60 (by decide) (cel_0 _ _ _) rfl ⟨by decide, by decide⟩ (Nat.le_of_ble_eq_true rfl) dX7_at_15 ?_
    exact g_iret_w hr hf dX7_at_18
  · have hf := ite_f hc hf
    refine g_iload_n dX7_at_7 rfl ?_
    refine g_iconst (v := (-1)) dX7_at_8 (by decide) ?_
    refine g_icmp_ge (tgt := 19) dX7_at_9 (by decide) (fun hc => ?_) (fun hc => ?_)
    · have hf := ite_t hc hf
      refine g_aload_n dX7_at_19 rfl ?_
      refine g_get (kk := 0) (by decide) (cel_0 _ _ _) rfl inX7 fl_X7_10 (by decide) rfl dX7_at_20 ?_
      refine g_get (kk := 1) (by decide) (cel_1 _ _ _) rfl inX4 fl_X7_109 (by decide) rfl dX7_at_23 ?_
      refine g_iload_n dX7_at_26 rfl ?_
      obtain ⟨hi, hf⟩ := ck_s hf
      refine g_laload (kk := 6) (by decide) (fun f g => cel_6 _ f g) hi rfl dX7_at_27 ?_
      refine g_iload_n dX7_at_28 rfl ?_
      refine g_cS_JI_I (c_X7_lengthOrSyllable rfl) cs_X7_150 ⟨by decide, by decide⟩ (Nat.le_of_ble_eq_true rfl) dX7_at_29 ?_
      exact g_iret_w hr hf dX7_at_32
    · have hf := ite_f hc hf
      refine g_aload_n dX7_at_12 rfl ?_
      refine g_bipush (v := (-10)) dX7_at_13 (by decide) ?_
      obtain ⟨r2, hq, hf⟩ := bnd hf
      refine g_cV_I_I (c_X7_refuseBad (r := r2.1) (M1 := r2.2) hq) cv_X7_60 (by decide) (cel_0 _ _ _) rfl ⟨by decide, by decide⟩ (Nat.le_of_ble_eq_true rfl) dX7_at_15 ?_
      exact g_iret_w hr hf dX7_at_18
-- X5_plain
def f_X5_plain (x0 : Int64) : Int64 :=
  x0
set_option maxHeartbeats 4000000 in
set_option maxRecDepth 100000 in
theorem c_X5_plain {l : Launch} {x0 : Int64} {M : Mem} {r : Int64} (hf : f_X5_plain x0 = r) : Cn l yX5_plain cX5_plain 2 (some .long) 0 0 (fun E => [.long x0]) M (some (.long r), M) := by
  unfold f_X5_plain at hf
  refine cn_of RX5 (fun E => [some (.long x0), none]) (by decide +kernel) rfl (fun E => Nat.le_of_ble_eq_true rfl) (fun E => rfl) (fun X hr => ?_)
  refine g_lload_n dX5_plain_0 rfl ?_
  exact g_lret_t hr hf dX5_plain_1
-- X1_cut
def f_X1_cut (x0 : Int64) (x2 : Int32) : Int64 :=
  if (lg_cmp x2.toInt64 (x0 &&& (15 : Int64))) < 0 then (if 0 < x2 then ((((x0 &&& (((1 : Int64) <<< (((4 : Int32) * (x2 + (1 : Int32))).toInt64 &&& 63)) - (1 : Int64))) &&& (-16 : Int64)) + x2.toInt64))
  else ((0 : Int64)))
  else x0
set_option maxHeartbeats 4000000 in
set_option maxRecDepth 100000 in
theorem c_X1_cut {l : Launch} {x0 : Int64} {x2 : Int32} {M : Mem} {r : Int64} (hf : f_X1_cut x0 x2 = r) : Cn l yX1_cut cX1_cut 5 (some .long) 0 0 (fun E => [.long x0, .int x2]) M (some (.long r), M) := by
  unfold f_X1_cut at hf
  refine cn_of RX1 (fun E => [some (.long x0), none, some (.int x2), none, none]) (by decide +kernel) rfl (fun E => Nat.le_of_ble_eq_true rfl) (fun E => rfl) (fun X hr => ?_)
  refine g_iload_n dX1_cut_0 rfl ?_
  refine g_i2l dX1_cut_1 ?_
  refine g_lload_n dX1_cut_2 rfl ?_
  refine g_ldc2 cl_X1_11 dX1_cut_3 ?_
  refine g_land dX1_cut_6 ?_
  refine g_lcmp dX1_cut_7 ?_
  refine g_if_lt (tgt := 13) dX1_cut_8 (by decide) (fun hc => ?_) (fun hc => ?_)
  · have hf := ite_t hc hf
    refine g_iload_n dX1_cut_13 rfl ?_
    refine g_if_gt (tgt := 19) dX1_cut_14 (by decide) (fun hc => ?_) (fun hc => ?_)
    · have hf := ite_t hc hf
      refine g_lconst (v := 1) dX1_cut_19 (by decide) ?_
      refine g_iconst (v := 4) dX1_cut_20 (by decide) ?_
      refine g_iload_n dX1_cut_21 rfl ?_
      refine g_iconst (v := 1) dX1_cut_22 (by decide) ?_
      refine g_iadd dX1_cut_23 ?_
      refine g_imul dX1_cut_24 ?_
      refine g_lshl dX1_cut_25 ?_
      refine g_lconst (v := 1) dX1_cut_26 (by decide) ?_
      refine g_lsub dX1_cut_27 ?_
      refine g_lst3 dX1_cut_28 (by decide) lnl_i ?_
      refine g_lload_n dX1_cut_29 rfl ?_
      refine g_lload_n dX1_cut_30 rfl ?_
      refine g_land dX1_cut_31 ?_
      refine g_ldc2 cl_X1_13 dX1_cut_32 ?_
      refine g_land dX1_cut_35 ?_
      refine g_iload_n dX1_cut_36 rfl ?_
      refine g_i2l dX1_cut_37 ?_
      refine g_ladd dX1_cut_38 ?_
      exact g_lret_t hr hf dX1_cut_39
    · have hf := ite_f hc hf
      refine g_lconst (v := 0) dX1_cut_17 (by decide) ?_
      exact g_lret_t hr hf dX1_cut_18
  · have hf := ite_f hc hf
    refine g_lload_n dX1_cut_11 rfl ?_
    exact g_lret_t hr hf dX1_cut_12
-- X5_drop
def f_X5_drop (x0 : Int64) (x2 : Int32) : Int64 :=
  (f_X1_cut (f_X5_plain x0) ((f_X1_length (f_X5_plain x0)) - ((x2 - x2 / (3 : Int32) * (3 : Int32)) + (1 : Int32))))
set_option maxHeartbeats 4000000 in
set_option maxRecDepth 100000 in
theorem c_X5_drop {l : Launch} {x0 : Int64} {x2 : Int32} {M : Mem} {r : Int64} (hf : f_X5_drop x0 x2 = r) : Cn l yX5_drop cX5_drop 5 (some .long) 1 24 (fun E => [.long x0, .int x2]) M (some (.long r), M) := by
  unfold f_X5_drop at hf
  refine cn_of RX5 (fun E => [some (.long x0), none, some (.int x2), none, none]) (by decide +kernel) rfl (fun E => Nat.le_of_ble_eq_true rfl) (fun E => rfl) (fun X hr => ?_)
  refine g_lload_n dX5_drop_0 rfl ?_
  refine g_cS_J_J (c_X5_plain rfl) cs_X5_29 ⟨by decide, by decide⟩ (Nat.le_of_ble_eq_true rfl) dX5_drop_1 ?_
  refine g_lst3 dX5_drop_4 (by decide) lnl_i ?_
  refine g_lload_n dX5_drop_5 rfl ?_
  refine g_lload_n dX5_drop_6 rfl ?_
  refine g_cS_J_I (c_X1_length rfl) cs_X5_44 ⟨by decide, by decide⟩ (Nat.le_of_ble_eq_true rfl) dX5_drop_7 ?_
  refine g_iload_n dX5_drop_10 rfl ?_
  refine g_iconst (v := 3) dX5_drop_11 (by decide) ?_
  refine g_irem dX5_drop_12 (by decide) ?_
  refine g_iconst (v := 1) dX5_drop_13 (by decide) ?_
  refine g_iadd dX5_drop_14 ?_
  refine g_isub dX5_drop_15 ?_
  refine g_cS_JI_J (c_X1_cut rfl) cs_X5_38 ⟨by decide, by decide⟩ (Nat.le_of_ble_eq_true rfl) dX5_drop_16 ?_
  exact g_lret_t hr hf dX5_drop_19
-- X1_raised
def b_X1_raised_11   (x0 : Int64) (x2 : Int32) (x5 : Int32) : Nat → Int64 → Int32 → Option Int64
  | 0, _, _ => none
  | n + 1, x3, x6 =>
    if x5 ≤ x6 then (some x3)
    else (b_X1_raised_11 x0 x2 x5 n (f_X1_longer x3 (((f_X1_syllable x0 x6) + x2) - ((f_X1_syllable x0 x6) + x2) / (16 : Int32) * (16 : Int32))) (x6 + (1 : Int32)))
set_option maxHeartbeats 4000000 in
set_option maxRecDepth 100000 in
theorem w_X1_raised_11 {X : Cx} {r : Int64} {M : Mem}  {x0 : Int64} {x2 : Int32} {x5 : Int32}   (hr : X.meth.sig.returnType = (some .long)) : ∀ (n : Nat) {x3 : Int64} {x6 : Int32}, b_X1_raised_11 x0 x2 x5 n x3 x6 = some r → G X (some (.long r), M) RX1 cX1_raised 7 1 23 11 [some (.long x0), none, some (.int x2), some (.long x3), none, some (.int x5), some (.int x6)] [] M := by
  intro n
  induction n with
  | zero => intro x3 x6 hf; cases hf
  | succ n ih =>
    intro x3 x6 hf
    rw [b_X1_raised_11.eq_2] at hf
    refine g_iload dX1_raised_11 rfl ?_
    refine g_iload dX1_raised_13 rfl ?_
    refine g_icmp_ge (tgt := 40) dX1_raised_15 (by decide) (fun hc => ?_) (fun hc => ?_)
    · have hf := ite_t hc hf
      refine g_lload_n dX1_raised_40 rfl ?_
      exact g_lret_p hr hf dX1_raised_41
    · have hf := ite_f hc hf
      refine g_lload_n dX1_raised_18 rfl ?_
      refine g_lload_n dX1_raised_19 rfl ?_
      refine g_iload dX1_raised_20 rfl ?_
      refine g_cS_JI_I (c_X1_syllable rfl) cs_X1_23 ⟨by decide, by decide⟩ (Nat.le_of_ble_eq_true rfl) dX1_raised_22 ?_
      refine g_iload_n dX1_raised_25 rfl ?_
      refine g_iadd dX1_raised_26 ?_
      refine g_bipush (v := 16) dX1_raised_27 (by decide) ?_
      refine g_irem dX1_raised_29 (by decide) ?_
      refine g_cS_JI_J (c_X1_longer rfl) cs_X1_27 ⟨by decide, by decide⟩ (Nat.le_of_ble_eq_true rfl) dX1_raised_30 ?_
      refine g_lst3 dX1_raised_33 (by decide) lnl_i ?_
      refine g_iinc6 (v := (x6 + (1 : Int32))) dX1_raised_34 (by decide) lnl_i rfl ?_
      refine g_goto (tgt := 11) dX1_raised_37 (by decide) ?_
      exact ih hf
def f_X1_raised (x0 : Int64) (x2 : Int32) : Option Int64 :=
  b_X1_raised_11 x0 x2 (f_X1_length x0) fu (0 : Int64) (0 : Int32)
set_option maxHeartbeats 4000000 in
set_option maxRecDepth 100000 in
theorem c_X1_raised {l : Launch} {x0 : Int64} {x2 : Int32} {M : Mem} {r : Int64} (hf : f_X1_raised x0 x2 = some r) : Cn l yX1_raised cX1_raised 7 (some .long) 1 23 (fun E => [.long x0, .int x2]) M (some (.long r), M) := by
  unfold f_X1_raised at hf
  refine cn_of RX1 (fun E => [some (.long x0), none, some (.int x2), none, none, none, none]) (by decide +kernel) rfl (fun E => Nat.le_of_ble_eq_true rfl) (fun E => rfl) (fun X hr => ?_)
  refine g_lconst (v := 0) dX1_raised_0 (by decide) ?_
  refine g_lst3 dX1_raised_1 (by decide) lnl_i ?_
  refine g_lload_n dX1_raised_2 rfl ?_
  refine g_cS_J_I (c_X1_length rfl) cs_X1_19 ⟨by decide, by decide⟩ (Nat.le_of_ble_eq_true rfl) dX1_raised_3 ?_
  refine g_ist5 dX1_raised_6 (by decide) lnl_n ?_
  refine g_iconst (v := 0) dX1_raised_8 (by decide) ?_
  refine g_ist6 dX1_raised_9 (by decide) lnl_i ?_
  exact w_X1_raised_11 hr fu hf
-- X5_feast
def b_X5_feast_11   (x0 : Int64) (x2 : Int32) (t0 : Int32) : Option Int64 :=
  if t0 = 0 then ((f_X1_raised x0 x2).bind fun r1 =>
  some r1)
  else (some (f_X5_drop x0 x2))
set_option maxHeartbeats 4000000 in
set_option maxRecDepth 100000 in
theorem w_X5_feast_11 {X : Cx} {r : Int64} {M : Mem}     {x0 : Int64} {x2 : Int32} {t0 : Int32} (hr : X.meth.sig.returnType = (some .long)) (hf : b_X5_feast_11 x0 x2 t0 = some r) : G X (some (.long r), M) RX5 cX5_feast 5 2 49 11 [some (.long x0), none, some (.int x2), none, none] [.int t0] M := by
  unfold b_X5_feast_11 at hf
  refine g_ist4 dX5_feast_11 (by decide) lnl_n ?_
  refine g_iload dX5_feast_13 rfl ?_
  refine g_if_eq (tgt := 26) dX5_feast_15 (by decide) (fun hc => ?_) (fun hc => ?_)
  · have hf := ite_t hc hf
    refine g_lload_n dX5_feast_26 rfl ?_
    refine g_iload_n dX5_feast_27 rfl ?_
    obtain ⟨r1, hq, hf⟩ := bnd hf
    refine g_cS_JI_J (c_X1_raised hq) cs_X5_58 ⟨by decide, by decide⟩ (Nat.le_of_ble_eq_true rfl) dX5_feast_28 ?_
    exact g_lret_p hr hf dX5_feast_31
  · have hf := ite_f hc hf
    refine g_lload_n dX5_feast_18 rfl ?_
    refine g_iload_n dX5_feast_19 rfl ?_
    refine g_cS_JI_J (c_X5_drop rfl) cs_X5_15 ⟨by decide, by decide⟩ (Nat.le_of_ble_eq_true rfl) dX5_feast_20 ?_
    refine g_goto (tgt := 31) dX5_feast_23 (by decide) ?_
    exact g_lret_p hr hf dX5_feast_31
def f_X5_feast (x0 : Int64) (x2 : Int32) (x3 : Int32) : Option Int64 :=
  if (x3 - x3 / (4 : Int32) * (4 : Int32)) = 0 then (b_X5_feast_11 x0 x2 (1 : Int32))
  else (b_X5_feast_11 x0 x2 (0 : Int32))
set_option maxHeartbeats 4000000 in
set_option maxRecDepth 100000 in
theorem c_X5_feast {l : Launch} {x0 : Int64} {x2 : Int32} {x3 : Int32} {M : Mem} {r : Int64} (hf : f_X5_feast x0 x2 x3 = some r) : Cn l yX5_feast cX5_feast 5 (some .long) 2 49 (fun E => [.long x0, .int x2, .int x3]) M (some (.long r), M) := by
  unfold f_X5_feast at hf
  refine cn_of RX5 (fun E => [some (.long x0), none, some (.int x2), some (.int x3), none]) (by decide +kernel) rfl (fun E => Nat.le_of_ble_eq_true rfl) (fun E => rfl) (fun X hr => ?_)
  refine g_iload_n dX5_feast_0 rfl ?_
  refine g_iconst (v := 4) dX5_feast_1 (by decide) ?_
  refine g_irem dX5_feast_2 (by decide) ?_
  refine g_if_ne (tgt := 10) dX5_feast_3 (by decide) (fun hc => ?_) (fun hc => ?_)
  · have hf := ite_f hc hf
    refine g_iconst (v := 0) dX5_feast_10 (by decide) ?_
    exact g_weakr (w_X5_feast_11 hr hf) (lsk (lsd (lsk (lsd (lsd lsz)))))
  · have hf := ite_t hc hf
    refine g_iconst (v := 1) dX5_feast_6 (by decide) ?_
    refine g_goto (tgt := 11) dX5_feast_7 (by decide) ?_
    exact g_weakr (w_X5_feast_11 hr hf) (lsk (lsd (lsk (lsd (lsd lsz)))))
-- X5_sweet
def f_X5_sweet (x0 : Int64) (x2 : Int32) : Int64 :=
  (f_X1_longer (f_X1_cut (f_X5_plain x0) (11 : Int32)) x2)
set_option maxHeartbeats 4000000 in
set_option maxRecDepth 100000 in
theorem c_X5_sweet {l : Launch} {x0 : Int64} {x2 : Int32} {M : Mem} {r : Int64} (hf : f_X5_sweet x0 x2 = r) : Cn l yX5_sweet cX5_sweet 3 (some .long) 1 24 (fun E => [.long x0, .int x2]) M (some (.long r), M) := by
  unfold f_X5_sweet at hf
  refine cn_of RX5 (fun E => [some (.long x0), none, some (.int x2)]) (by decide +kernel) rfl (fun E => Nat.le_of_ble_eq_true rfl) (fun E => rfl) (fun X hr => ?_)
  refine g_lload_n dX5_sweet_0 rfl ?_
  refine g_cS_J_J (c_X5_plain rfl) cs_X5_29 ⟨by decide, by decide⟩ (Nat.le_of_ble_eq_true rfl) dX5_sweet_1 ?_
  refine g_bipush (v := 11) dX5_sweet_4 (by decide) ?_
  refine g_cS_JI_J (c_X1_cut rfl) cs_X5_38 ⟨by decide, by decide⟩ (Nat.le_of_ble_eq_true rfl) dX5_sweet_6 ?_
  refine g_iload_n dX5_sweet_9 rfl ?_
  refine g_cS_JI_J (c_X1_longer rfl) cs_X5_41 ⟨by decide, by decide⟩ (Nat.le_of_ble_eq_true rfl) dX5_sweet_10 ?_
  exact g_lret_t hr hf dX5_sweet_13
-- X1_led
def f_X1_led (x0 : Int64) (x2 : Int32) : Int64 :=
  ((((((f_X1_cut x0 (11 : Int32)) &&& (-16 : Int64)) <<< ((4 : Int32).toInt64 &&& 63)) ||| (x2.toInt64 <<< ((4 : Int32).toInt64 &&& 63))) + (f_X1_length (f_X1_cut x0 (11 : Int32))).toInt64) + (1 : Int64))
set_option maxHeartbeats 4000000 in
set_option maxRecDepth 100000 in
theorem c_X1_led {l : Launch} {x0 : Int64} {x2 : Int32} {M : Mem} {r : Int64} (hf : f_X1_led x0 x2 = r) : Cn l yX1_led cX1_led 7 (some .long) 1 24 (fun E => [.long x0, .int x2]) M (some (.long r), M) := by
  unfold f_X1_led at hf
  refine cn_of RX1 (fun E => [some (.long x0), none, some (.int x2), none, none, none, none]) (by decide +kernel) rfl (fun E => Nat.le_of_ble_eq_true rfl) (fun E => rfl) (fun X hr => ?_)
  refine g_lload_n dX1_led_0 rfl ?_
  refine g_bipush (v := 11) dX1_led_1 (by decide) ?_
  refine g_cS_JI_J (c_X1_cut rfl) cs_X1_15 ⟨by decide, by decide⟩ (Nat.le_of_ble_eq_true rfl) dX1_led_3 ?_
  refine g_lst3 dX1_led_6 (by decide) lnl_i ?_
  refine g_lload_n dX1_led_7 rfl ?_
  refine g_ldc2 cl_X1_13 dX1_led_8 ?_
  refine g_land dX1_led_11 ?_
  refine g_iconst (v := 4) dX1_led_12 (by decide) ?_
  refine g_lshl dX1_led_13 ?_
  refine g_lst5 dX1_led_14 (by decide) lnl_n ?_
  refine g_lload dX1_led_16 rfl ?_
  refine g_iload_n dX1_led_18 rfl ?_
  refine g_i2l dX1_led_19 ?_
  refine g_iconst (v := 4) dX1_led_20 (by decide) ?_
  refine g_lshl dX1_led_21 ?_
  refine g_lor dX1_led_22 ?_
  refine g_lload_n dX1_led_23 rfl ?_
  refine g_cS_J_I (c_X1_length rfl) cs_X1_19 ⟨by decide, by decide⟩ (Nat.le_of_ble_eq_true rfl) dX1_led_24 ?_
  refine g_i2l dX1_led_27 ?_
  refine g_ladd dX1_led_28 ?_
  refine g_lconst (v := 1) dX1_led_29 (by decide) ?_
  refine g_ladd dX1_led_30 ?_
  exact g_lret_t hr hf dX1_led_31
-- X5_twice
def f_X5_twice (x0 : Int64) (x2 : Int32) : Int64 :=
  (f_X1_led (f_X5_sweet x0 x2) (f_X1_syllable (f_X5_sweet x0 x2) (0 : Int32)))
set_option maxHeartbeats 4000000 in
set_option maxRecDepth 100000 in
theorem c_X5_twice {l : Launch} {x0 : Int64} {x2 : Int32} {M : Mem} {r : Int64} (hf : f_X5_twice x0 x2 = r) : Cn l yX5_twice cX5_twice 5 (some .long) 2 50 (fun E => [.long x0, .int x2]) M (some (.long r), M) := by
  unfold f_X5_twice at hf
  refine cn_of RX5 (fun E => [some (.long x0), none, some (.int x2), none, none]) (by decide +kernel) rfl (fun E => Nat.le_of_ble_eq_true rfl) (fun E => rfl) (fun X hr => ?_)
  refine g_lload_n dX5_twice_0 rfl ?_
  refine g_iload_n dX5_twice_1 rfl ?_
  refine g_cS_JI_J (c_X5_sweet rfl) cs_X5_9 ⟨by decide, by decide⟩ (Nat.le_of_ble_eq_true rfl) dX5_twice_2 ?_
  refine g_lst3 dX5_twice_5 (by decide) lnl_i ?_
  refine g_lload_n dX5_twice_6 rfl ?_
  refine g_lload_n dX5_twice_7 rfl ?_
  refine g_iconst (v := 0) dX5_twice_8 (by decide) ?_
  refine g_cS_JI_I (c_X1_syllable rfl) cs_X5_51 ⟨by decide, by decide⟩ (Nat.le_of_ble_eq_true rfl) dX5_twice_9 ?_
  refine g_cS_JI_J (c_X1_led rfl) cs_X5_55 ⟨by decide, by decide⟩ (Nat.le_of_ble_eq_true rfl) dX5_twice_12 ?_
  exact g_lret_t hr hf dX5_twice_15
-- X1_turned
def b_X1_turned_10   (x0 : Int64) : Nat → Int64 → Int32 → Option Int64
  | 0, _, _ => none
  | n + 1, x2, x4 =>
    if x4 < 0 then (some x2)
    else (b_X1_turned_10 x0 n (f_X1_longer x2 (f_X1_syllable x0 x4)) (x4 + (-1 : Int32)))
set_option maxHeartbeats 4000000 in
set_option maxRecDepth 100000 in
theorem w_X1_turned_10 {X : Cx} {r : Int64} {M : Mem}  {x0 : Int64}   (hr : X.meth.sig.returnType = (some .long)) : ∀ (n : Nat) {x2 : Int64} {x4 : Int32}, b_X1_turned_10 x0 n x2 x4 = some r → G X (some (.long r), M) RX1 cX1_turned 5 1 23 10 [some (.long x0), none, some (.long x2), none, some (.int x4)] [] M := by
  intro n
  induction n with
  | zero => intro x2 x4 hf; cases hf
  | succ n ih =>
    intro x2 x4 hf
    rw [b_X1_turned_10.eq_2] at hf
    refine g_iload dX1_turned_10 rfl ?_
    refine g_if_lt (tgt := 32) dX1_turned_12 (by decide) (fun hc => ?_) (fun hc => ?_)
    · have hf := ite_t hc hf
      refine g_lload_n dX1_turned_32 rfl ?_
      exact g_lret_p hr hf dX1_turned_33
    · have hf := ite_f hc hf
      refine g_lload_n dX1_turned_15 rfl ?_
      refine g_lload_n dX1_turned_16 rfl ?_
      refine g_iload dX1_turned_17 rfl ?_
      refine g_cS_JI_I (c_X1_syllable rfl) cs_X1_23 ⟨by decide, by decide⟩ (Nat.le_of_ble_eq_true rfl) dX1_turned_19 ?_
      refine g_cS_JI_J (c_X1_longer rfl) cs_X1_27 ⟨by decide, by decide⟩ (Nat.le_of_ble_eq_true rfl) dX1_turned_22 ?_
      refine g_lst2 dX1_turned_25 (by decide) lnl_n ?_
      refine g_iinc4 (v := (x4 + (-1 : Int32))) dX1_turned_26 (by decide) lnl_n rfl ?_
      refine g_goto (tgt := 10) dX1_turned_29 (by decide) ?_
      exact ih hf
def f_X1_turned (x0 : Int64) : Option Int64 :=
  b_X1_turned_10 x0 fu (0 : Int64) ((f_X1_length x0) - (1 : Int32))
set_option maxHeartbeats 4000000 in
set_option maxRecDepth 100000 in
theorem c_X1_turned {l : Launch} {x0 : Int64} {M : Mem} {r : Int64} (hf : f_X1_turned x0 = some r) : Cn l yX1_turned cX1_turned 5 (some .long) 1 23 (fun E => [.long x0]) M (some (.long r), M) := by
  unfold f_X1_turned at hf
  refine cn_of RX1 (fun E => [some (.long x0), none, none, none, none]) (by decide +kernel) rfl (fun E => Nat.le_of_ble_eq_true rfl) (fun E => rfl) (fun X hr => ?_)
  refine g_lconst (v := 0) dX1_turned_0 (by decide) ?_
  refine g_lst2 dX1_turned_1 (by decide) lnl_n ?_
  refine g_lload_n dX1_turned_2 rfl ?_
  refine g_cS_J_I (c_X1_length rfl) cs_X1_19 ⟨by decide, by decide⟩ (Nat.le_of_ble_eq_true rfl) dX1_turned_3 ?_
  refine g_iconst (v := 1) dX1_turned_6 (by decide) ?_
  refine g_isub dX1_turned_7 ?_
  refine g_ist4 dX1_turned_8 (by decide) lnl_n ?_
  exact w_X1_turned_10 hr fu hf
-- X5_turn
def f_X5_turn (x0 : Int64) : Option Int64 :=
  (f_X1_turned (f_X5_plain x0)).bind fun r1 =>
  some r1
set_option maxHeartbeats 4000000 in
set_option maxRecDepth 100000 in
theorem c_X5_turn {l : Launch} {x0 : Int64} {M : Mem} {r : Int64} (hf : f_X5_turn x0 = some r) : Cn l yX5_turn cX5_turn 2 (some .long) 2 47 (fun E => [.long x0]) M (some (.long r), M) := by
  unfold f_X5_turn at hf
  refine cn_of RX5 (fun E => [some (.long x0), none]) (by decide +kernel) rfl (fun E => Nat.le_of_ble_eq_true rfl) (fun E => rfl) (fun X hr => ?_)
  refine g_lload_n dX5_turn_0 rfl ?_
  refine g_cS_J_J (c_X5_plain rfl) cs_X5_29 ⟨by decide, by decide⟩ (Nat.le_of_ble_eq_true rfl) dX5_turn_1 ?_
  obtain ⟨r1, hq, hf⟩ := bnd hf
  refine g_cS_J_J (c_X1_turned hq) cs_X5_48 ⟨by decide, by decide⟩ (Nat.le_of_ble_eq_true rfl) dX5_turn_4 ?_
  exact g_lret_p hr hf dX5_turn_7
-- X5_applied
def f_X5_applied (x0 : Int64) (x2 : Int32) (x3 : Int32) (x4 : Int32) : Option Int64 :=
  if x2 = 1 then (some (f_X5_sweet x0 x3))
  else if x2 = 2 then (some (f_X5_drop x0 x3))
  else if x2 = 3 then ((f_X5_turn x0).bind fun r1 =>
  some r1)
  else if x2 = 4 then (some (f_X5_twice x0 x3))
  else if x2 = 5 then ((f_X5_feast x0 x3 x4).bind fun r2 =>
  some r2)
  else (some (f_X5_plain x0))
set_option maxHeartbeats 4000000 in
set_option maxRecDepth 100000 in
theorem c_X5_applied {l : Launch} {x0 : Int64} {x2 : Int32} {x3 : Int32} {x4 : Int32} {M : Mem} {r : Int64} (hf : f_X5_applied x0 x2 x3 x4 = some r) : Cn l yX5_applied cX5_applied 5 (some .long) 3 74 (fun E => [.long x0, .int x2, .int x3, .int x4]) M (some (.long r), M) := by
  unfold f_X5_applied at hf
  refine cn_of RX5 (fun E => [some (.long x0), none, some (.int x2), some (.int x3), some (.int x4)]) (by decide +kernel) rfl (fun E => Nat.le_of_ble_eq_true rfl) (fun E => rfl) (fun X hr => ?_)
  refine g_iload_n dX5_applied_0 rfl ?_
  by_cases h1 : x2 = 1
  · have hf := ite_t h1 hf
    refine g_tabIn (tgt := 36) dX5_applied_1 (by rw [h1]; decide) (by rw [h1]; decide) (by rw [h1]; rfl) (by decide) ?_
    refine g_lload_n dX5_applied_36 rfl ?_
    refine g_iload_n dX5_applied_37 rfl ?_
    refine g_cS_JI_J (c_X5_sweet rfl) cs_X5_9 ⟨by decide, by decide⟩ (Nat.le_of_ble_eq_true rfl) dX5_applied_38 ?_
    exact g_lret_p hr hf dX5_applied_41
  have hf := ite_f h1 hf
  by_cases h2 : x2 = 2
  · have hf := ite_t h2 hf
    refine g_tabIn (tgt := 42) dX5_applied_1 (by rw [h2]; decide) (by rw [h2]; decide) (by rw [h2]; rfl) (by decide) ?_
    refine g_lload_n dX5_applied_42 rfl ?_
    refine g_iload_n dX5_applied_43 rfl ?_
    refine g_cS_JI_J (c_X5_drop rfl) cs_X5_15 ⟨by decide, by decide⟩ (Nat.le_of_ble_eq_true rfl) dX5_applied_44 ?_
    exact g_lret_p hr hf dX5_applied_47
  have hf := ite_f h2 hf
  by_cases h3 : x2 = 3
  · have hf := ite_t h3 hf
    refine g_tabIn (tgt := 48) dX5_applied_1 (by rw [h3]; decide) (by rw [h3]; decide) (by rw [h3]; rfl) (by decide) ?_
    refine g_lload_n dX5_applied_48 rfl ?_
    obtain ⟨r1, hq, hf⟩ := bnd hf
    refine g_cS_J_J (c_X5_turn hq) cs_X5_18 ⟨by decide, by decide⟩ (Nat.le_of_ble_eq_true rfl) dX5_applied_49 ?_
    exact g_lret_p hr hf dX5_applied_52
  have hf := ite_f h3 hf
  by_cases h4 : x2 = 4
  · have hf := ite_t h4 hf
    refine g_tabIn (tgt := 53) dX5_applied_1 (by rw [h4]; decide) (by rw [h4]; decide) (by rw [h4]; rfl) (by decide) ?_
    refine g_lload_n dX5_applied_53 rfl ?_
    refine g_iload_n dX5_applied_54 rfl ?_
    refine g_cS_JI_J (c_X5_twice rfl) cs_X5_22 ⟨by decide, by decide⟩ (Nat.le_of_ble_eq_true rfl) dX5_applied_55 ?_
    exact g_lret_p hr hf dX5_applied_58
  have hf := ite_f h4 hf
  by_cases h5 : x2 = 5
  · have hf := ite_t h5 hf
    refine g_tabIn (tgt := 59) dX5_applied_1 (by rw [h5]; decide) (by rw [h5]; decide) (by rw [h5]; rfl) (by decide) ?_
    refine g_lload_n dX5_applied_59 rfl ?_
    refine g_iload_n dX5_applied_60 rfl ?_
    refine g_iload dX5_applied_61 rfl ?_
    obtain ⟨r2, hq, hf⟩ := bnd hf
    refine g_cS_JII_J (c_X5_feast hq) cs_X5_25 ⟨by decide, by decide⟩ (Nat.le_of_ble_eq_true rfl) dX5_applied_63 ?_
    exact g_lret_p hr hf dX5_applied_66
  have hf := ite_f h5 hf
  have n1 := lv_neT (a := 1) h1 (by decide)
  have n2 := lv_neT (a := 2) h2 (by decide)
  have n3 := lv_neT (a := 3) h3 (by decide)
  have n4 := lv_neT (a := 4) h4 (by decide)
  have n5 := lv_neT (a := 5) h5 (by decide)
  refine g_tabOut (tgt := 67) dX5_applied_1 (by omega) (by decide) ?_
  refine g_lload_n dX5_applied_67 rfl ?_
  refine g_cS_J_J (c_X5_plain rfl) cs_X5_29 ⟨by decide, by decide⟩ (Nat.le_of_ble_eq_true rfl) dX5_applied_68 ?_
  exact g_lret_p hr hf dX5_applied_71
-- X4_behind_1
def f_X4_behind_1 (M : Mem) (x1 : Int32) (x2 : Int64) : Option Int64 :=
  ck x1 8 <|
  ck x1 8 <|
  (f_X5_applied x2 (M.1 4 x1.toNatClampNeg) (M.1 5 x1.toNatClampNeg) (M.1 1 7)).bind fun r1 =>
  some r1
set_option maxHeartbeats 4000000 in
set_option maxRecDepth 100000 in
theorem c_X4_behind_1 {l : Launch} {x1 : Int32} {x2 : Int64} {M : Mem} {r : Int64} (hf : f_X4_behind_1 M x1 x2 = some r) : Cn l yX4_behind cX4_behind 4 (some .long) 4 98 (fun E => [.ref (E.1 1), .int x1, .long x2]) M (some (.long r), M) := by
  unfold f_X4_behind_1 at hf
  refine cn_of RX4 (fun E => [some (.ref (E.1 1)), some (.int x1), some (.long x2), none]) (by decide +kernel) rfl (fun E => Nat.le_of_ble_eq_true rfl) (fun E => rfl) (fun X hr => ?_)
  refine g_lload_n dX4_behind_0 rfl ?_
  refine g_aload_n dX4_behind_1 rfl ?_
  refine g_get (kk := 1) (by decide) (cel_1 _ _ _) rfl inX4 fl_X4_18 (by decide) rfl dX4_behind_2 ?_
  refine g_iload_n dX4_behind_5 rfl ?_
  obtain ⟨hi, hf⟩ := ck_s hf
  refine g_iaload (kk := 4) (by decide) (fun f g => cel_4 _ f g) hi rfl dX4_behind_6 ?_
  refine g_aload_n dX4_behind_7 rfl ?_
  refine g_get (kk := 1) (by decide) (cel_1 _ _ _) rfl inX4 fl_X4_21 (by decide) rfl dX4_behind_8 ?_
  refine g_iload_n dX4_behind_11 rfl ?_
  obtain ⟨hi, hf⟩ := ck_s hf
  refine g_iaload (kk := 5) (by decide) (fun f g => cel_5 _ f g) hi rfl dX4_behind_12 ?_
  refine g_aload_n dX4_behind_13 rfl ?_
  refine g_get (kk := 1) (by decide) (cel_1 _ _ _) rfl inX4 fl_X4_50 (by decide) rfl dX4_behind_14 ?_
  obtain ⟨r1, hq, hf⟩ := bnd hf
  refine g_cS_JIII_J (c_X5_applied hq) cs_X4_70 ⟨by decide, by decide⟩ (Nat.le_of_ble_eq_true rfl) dX4_behind_17 ?_
  exact g_lret_p hr hf dX4_behind_20
-- X7_called
def b_X7_called_50   (x3 : Int32) (x4 : Int32) : Nat → Int64 → Int32 → Mem → Option (Int32 × Mem)
  | 0, _, _, _ => none
  | n + 1, x5, x7, M =>
    if x3 < x7 then (some ((f_X7_lengthOrSyllable x5 x4), M))
    else ((f_X4_behind_1 M x7 x5).bind fun r4 =>
    b_X7_called_50 x3 x4 n r4 (x7 + (1 : Int32)) M)
set_option maxHeartbeats 4000000 in
set_option maxRecDepth 100000 in
theorem w_X7_called_50 {X : Cx} {r : Int32} {M1 : Mem}   {x3 : Int32} {x4 : Int32}   (hr : X.meth.sig.returnType = (some .int)) : ∀ (n : Nat) {x5 : Int64} {x7 : Int32} {M : Mem}, b_X7_called_50 x3 x4 n x5 x7 M = some (r, M1) → G X (some (.int r), M1) RX7 cX7_called 8 5 121 50 [some (.ref (X.1.1 0)), none, none, some (.int x3), some (.int x4), some (.long x5), none, some (.int x7)] [] M := by
  intro n
  induction n with
  | zero => intro x5 x7 M hf; cases hf
  | succ n ih =>
    intro x5 x7 M hf
    rw [b_X7_called_50.eq_2] at hf
    refine g_iload dX7_called_50 rfl ?_
    refine g_iload_n dX7_called_52 rfl ?_
    refine g_icmp_gt (tgt := 75) dX7_called_53 (by decide) (fun hc => ?_) (fun hc => ?_)
    · have hf := ite_t hc hf
      refine g_lload dX7_called_75 rfl ?_
      refine g_iload dX7_called_77 rfl ?_
      refine g_cS_JI_I (c_X7_lengthOrSyllable rfl) cs_X7_150 ⟨by decide, by decide⟩ (Nat.le_of_ble_eq_true rfl) dX7_called_79 ?_
      exact g_iret_w hr hf dX7_called_82
    · have hf := ite_f hc hf
      refine g_aload_n dX7_called_56 rfl ?_
      refine g_get (kk := 0) (by decide) (cel_0 _ _ _) rfl inX7 fl_X7_10 (by decide) rfl dX7_called_57 ?_
      refine g_iload dX7_called_60 rfl ?_
      refine g_lload dX7_called_62 rfl ?_
      obtain ⟨r4, hq, hf⟩ := bnd hf
      refine g_cV_IJ_J (c_X4_behind_1 hq) cv_X7_154 (by decide) (cel_1 _ _ _) rfl ⟨by decide, by decide⟩ (Nat.le_of_ble_eq_true rfl) dX7_called_64 ?_
      refine g_lst5 dX7_called_67 (by decide) lnl_i ?_
      refine g_iinc7 (v := (x7 + (1 : Int32))) dX7_called_69 (by decide) lnl_n rfl ?_
      refine g_goto (tgt := 50) dX7_called_72 (by decide) ?_
      exact ih hf
def f_X7_called (x1 : Int32) (x2 : Int32) (x3 : Int32) (x4 : Int32) (M : Mem) : Option (Int32 × Mem) :=
  if (f_X7_isRow x1) = 0 then ((f_X7_refuseBad (-10 : Int32) M).bind fun r1 =>
  some (r1.1, r1.2))
  else (if (f_X7_isBridge M x2) = 0 then ((f_X7_refuseBad (-10 : Int32) M).bind fun r2 =>
  some (r2.1, r2.2))
  else (if (f_X7_isBridge M x3) = 0 then ((f_X7_refuseBad (-10 : Int32) M).bind fun r3 =>
  some (r3.1, r3.2))
  else (if (-1 : Int32) ≤ x4 then (ck x1 4 <|
  b_X7_called_50 x3 x4 fu (M.2 6 x1.toNatClampNeg) x2 M)
  else ((f_X7_refuseBad (-10 : Int32) M).bind fun r5 =>
  some (r5.1, r5.2)))))
set_option maxHeartbeats 4000000 in
set_option maxRecDepth 100000 in
theorem c_X7_called {l : Launch} {x1 : Int32} {x2 : Int32} {x3 : Int32} {x4 : Int32} {M : Mem} {r : Int32} {M1 : Mem} (hf : f_X7_called x1 x2 x3 x4 M = some (r, M1)) : Cn l yX7_called cX7_called 8 (some .int) 5 121 (fun E => [.ref (E.1 0), .int x1, .int x2, .int x3, .int x4]) M (some (.int r), M1) := by
  unfold f_X7_called at hf
  refine cn_of RX7 (fun E => [some (.ref (E.1 0)), some (.int x1), some (.int x2), some (.int x3), some (.int x4), none, none, none]) (by decide +kernel) rfl (fun E => Nat.le_of_ble_eq_true rfl) (fun E => rfl) (fun X hr => ?_)
  refine g_iload_n dX7_called_0 rfl ?_
  refine g_cS_I_I (c_X7_isRow rfl) cs_X7_106 ⟨by decide, by decide⟩ (Nat.le_of_ble_eq_true rfl) dX7_called_1 ?_
  refine g_if_eq (tgt := 29) dX7_called_4 (by decide) (fun hc => ?_) (fun hc => ?_)
  · have hf := ite_t hc hf
    refine g_aload_n dX7_called_29 rfl ?_
    refine g_bipush (v := (-10)) dX7_called_30 (by decide) ?_
    obtain ⟨r1, hq, hf⟩ := bnd hf
    refine g_cV_I_I (c_X7_refuseBad (r := r1.1) (M1 := r1.2) hq) cv_X7_60 (by decide) (cel_0 _ _ _) rfl ⟨by decide, by decide⟩ (Nat.le_of_ble_eq_true rfl) dX7_called_32 ?_
    exact g_iret_w hr hf dX7_called_35
  · have hf := ite_f hc hf
    refine g_aload_n dX7_called_7 rfl ?_
    refine g_iload_n dX7_called_8 rfl ?_
    refine g_cV_I_I (c_X7_isBridge rfl) cv_X7_83 (by decide) (cel_0 _ _ _) rfl ⟨by decide, by decide⟩ (Nat.le_of_ble_eq_true rfl) dX7_called_9 ?_
    refine g_if_eq (tgt := 29) dX7_called_12 (by decide) (fun hc => ?_) (fun hc => ?_)
    · have hf := ite_t hc hf
      refine g_aload_n dX7_called_29 rfl ?_
      refine g_bipush (v := (-10)) dX7_called_30 (by decide) ?_
      obtain ⟨r2, hq, hf⟩ := bnd hf
      refine g_cV_I_I (c_X7_refuseBad (r := r2.1) (M1 := r2.2) hq) cv_X7_60 (by decide) (cel_0 _ _ _) rfl ⟨by decide, by decide⟩ (Nat.le_of_ble_eq_true rfl) dX7_called_32 ?_
      exact g_iret_w hr hf dX7_called_35
    · have hf := ite_f hc hf
      refine g_aload_n dX7_called_15 rfl ?_
      refine g_iload_n dX7_called_16 rfl ?_
      refine g_cV_I_I (c_X7_isBridge rfl) cv_X7_83 (by decide) (cel_0 _ _ _) rfl ⟨by decide, by decide⟩ (Nat.le_of_ble_eq_true rfl) dX7_called_17 ?_
      refine g_if_eq (tgt := 29) dX7_called_20 (by decide) (fun hc => ?_) (fun hc => ?_)
      · have hf := ite_t hc hf
        refine g_aload_n dX7_called_29 rfl ?_
        refine g_bipush (v := (-10)) dX7_called_30 (by decide) ?_
        obtain ⟨r3, hq, hf⟩ := bnd hf
        refine g_cV_I_I (c_X7_refuseBad (r := r3.1) (M1 := r3.2) hq) cv_X7_60 (by decide) (cel_0 _ _ _) rfl ⟨by decide, by decide⟩ (Nat.le_of_ble_eq_true rfl) dX7_called_32 ?_
        exact g_iret_w hr hf dX7_called_35
      · have hf := ite_f hc hf
        refine g_iload dX7_called_23 rfl ?_
        refine g_iconst (v := (-1)) dX7_called_25 (by decide) ?_
        refine g_icmp_ge (tgt := 36) dX7_called_26 (by decide) (fun hc => ?_) (fun hc => ?_)
        · have hf := ite_t hc hf
          refine g_aload_n dX7_called_36 rfl ?_
          refine g_get (kk := 0) (by decide) (cel_0 _ _ _) rfl inX7 fl_X7_10 (by decide) rfl dX7_called_37 ?_
          refine g_get (kk := 1) (by decide) (cel_1 _ _ _) rfl inX4 fl_X7_109 (by decide) rfl dX7_called_40 ?_
          refine g_iload_n dX7_called_43 rfl ?_
          obtain ⟨hi, hf⟩ := ck_s hf
          refine g_laload (kk := 6) (by decide) (fun f g => cel_6 _ f g) hi rfl dX7_called_44 ?_
          refine g_lst5 dX7_called_45 (by decide) lnl_i ?_
          refine g_iload_n dX7_called_47 rfl ?_
          refine g_ist7 dX7_called_48 (by decide) lnl_n ?_
          exact g_weakr (w_X7_called_50 hr fu hf) (lsk (lsd (lsd (lsk (lsk (lsk (lsd (lsk lsz))))))))
        · have hf := ite_f hc hf
          refine g_aload_n dX7_called_29 rfl ?_
          refine g_bipush (v := (-10)) dX7_called_30 (by decide) ?_
          obtain ⟨r5, hq, hf⟩ := bnd hf
          refine g_cV_I_I (c_X7_refuseBad (r := r5.1) (M1 := r5.2) hq) cv_X7_60 (by decide) (cel_0 _ _ _) rfl ⟨by decide, by decide⟩ (Nat.le_of_ble_eq_true rfl) dX7_called_32 ?_
          exact g_iret_w hr hf dX7_called_35
-- X7_nothing
def b_X7_nothing_35    : Nat → Int64 → Int32 → Mem → Option (Int32 × Mem)
  | 0, _, _, _ => none
  | n + 1, x3, x5, M =>
    if (M.1 1 6) ≤ x5 then (some ((-1 : Int32), M))
    else ((f_X4_behind_1 M x5 x3).bind fun r2 =>
    if (f_X1_length r2) = 0 then (some (x5, M))
    else (b_X7_nothing_35 n r2 (x5 + (1 : Int32)) M))
set_option maxHeartbeats 4000000 in
set_option maxRecDepth 100000 in
theorem w_X7_nothing_35 {X : Cx} {r : Int32} {M1 : Mem}      (hr : X.meth.sig.returnType = (some .int)) : ∀ (n : Nat) {x3 : Int64} {x5 : Int32} {M : Mem}, b_X7_nothing_35  n x3 x5 M = some (r, M1) → G X (some (.int r), M1) RX7 cX7_nothing 6 5 121 35 [some (.ref (X.1.1 0)), none, none, some (.long x3), none, some (.int x5)] [] M := by
  intro n
  induction n with
  | zero => intro x3 x5 M hf; cases hf
  | succ n ih =>
    intro x3 x5 M hf
    rw [b_X7_nothing_35.eq_2] at hf
    refine g_iload dX7_nothing_35 rfl ?_
    refine g_aload_n dX7_nothing_37 rfl ?_
    refine g_get (kk := 0) (by decide) (cel_0 _ _ _) rfl inX7 fl_X7_10 (by decide) rfl dX7_nothing_38 ?_
    refine g_get (kk := 1) (by decide) (cel_1 _ _ _) rfl inX4 fl_X7_64 (by decide) rfl dX7_nothing_41 ?_
    refine g_icmp_ge (tgt := 74) dX7_nothing_44 (by decide) (fun hc => ?_) (fun hc => ?_)
    · have hf := ite_t hc hf
      refine g_iconst (v := (-1)) dX7_nothing_74 (by decide) ?_
      exact g_iret_w hr hf dX7_nothing_75
    · have hf := ite_f hc hf
      refine g_aload_n dX7_nothing_47 rfl ?_
      refine g_get (kk := 0) (by decide) (cel_0 _ _ _) rfl inX7 fl_X7_10 (by decide) rfl dX7_nothing_48 ?_
      refine g_iload dX7_nothing_51 rfl ?_
      refine g_lload_n dX7_nothing_53 rfl ?_
      obtain ⟨r2, hq, hf⟩ := bnd hf
      refine g_cV_IJ_J (c_X4_behind_1 hq) cv_X7_154 (by decide) (cel_1 _ _ _) rfl ⟨by decide, by decide⟩ (Nat.le_of_ble_eq_true rfl) dX7_nothing_54 ?_
      refine g_lst3 dX7_nothing_57 (by decide) lnl_n ?_
      refine g_lload_n dX7_nothing_58 rfl ?_
      refine g_cS_J_I (c_X1_length rfl) cs_X7_112 ⟨by decide, by decide⟩ (Nat.le_of_ble_eq_true rfl) dX7_nothing_59 ?_
      refine g_if_ne (tgt := 68) dX7_nothing_62 (by decide) (fun hc => ?_) (fun hc => ?_)
      · have hf := ite_f hc hf
        refine g_iinc5 (v := (x5 + (1 : Int32))) dX7_nothing_68 (by decide) lnl_n rfl ?_
        refine g_goto (tgt := 35) dX7_nothing_71 (by decide) ?_
        exact ih hf
      · have hf := ite_t hc hf
        refine g_iload dX7_nothing_65 rfl ?_
        exact g_iret_w hr hf dX7_nothing_67
def f_X7_nothing (x1 : Int32) (x2 : Int32) (M : Mem) : Option (Int32 × Mem) :=
  if (f_X7_isRow x1) = 0 then ((f_X7_refuseBad (-2 : Int32) M).bind fun r1 =>
  some (r1.1, r1.2))
  else (if (f_X7_isBridge M x2) = 0 then ((f_X7_refuseBad (-2 : Int32) M).bind fun r3 =>
  some (r3.1, r3.2))
  else (ck x1 4 <|
  b_X7_nothing_35 fu (M.2 6 x1.toNatClampNeg) x2 M))
set_option maxHeartbeats 4000000 in
set_option maxRecDepth 100000 in
theorem c_X7_nothing {l : Launch} {x1 : Int32} {x2 : Int32} {M : Mem} {r : Int32} {M1 : Mem} (hf : f_X7_nothing x1 x2 M = some (r, M1)) : Cn l yX7_nothing cX7_nothing 6 (some .int) 5 121 (fun E => [.ref (E.1 0), .int x1, .int x2]) M (some (.int r), M1) := by
  unfold f_X7_nothing at hf
  refine cn_of RX7 (fun E => [some (.ref (E.1 0)), some (.int x1), some (.int x2), none, none, none]) (by decide +kernel) rfl (fun E => Nat.le_of_ble_eq_true rfl) (fun E => rfl) (fun X hr => ?_)
  refine g_iload_n dX7_nothing_0 rfl ?_
  refine g_cS_I_I (c_X7_isRow rfl) cs_X7_106 ⟨by decide, by decide⟩ (Nat.le_of_ble_eq_true rfl) dX7_nothing_1 ?_
  refine g_if_eq (tgt := 15) dX7_nothing_4 (by decide) (fun hc => ?_) (fun hc => ?_)
  · have hf := ite_t hc hf
    refine g_aload_n dX7_nothing_15 rfl ?_
    refine g_bipush (v := (-2)) dX7_nothing_16 (by decide) ?_
    obtain ⟨r1, hq, hf⟩ := bnd hf
    refine g_cV_I_I (c_X7_refuseBad (r := r1.1) (M1 := r1.2) hq) cv_X7_60 (by decide) (cel_0 _ _ _) rfl ⟨by decide, by decide⟩ (Nat.le_of_ble_eq_true rfl) dX7_nothing_18 ?_
    exact g_iret_w hr hf dX7_nothing_21
  · have hf := ite_f hc hf
    refine g_aload_n dX7_nothing_7 rfl ?_
    refine g_iload_n dX7_nothing_8 rfl ?_
    refine g_cV_I_I (c_X7_isBridge rfl) cv_X7_83 (by decide) (cel_0 _ _ _) rfl ⟨by decide, by decide⟩ (Nat.le_of_ble_eq_true rfl) dX7_nothing_9 ?_
    refine g_if_ne (tgt := 22) dX7_nothing_12 (by decide) (fun hc => ?_) (fun hc => ?_)
    · have hf := ite_f hc hf
      refine g_aload_n dX7_nothing_22 rfl ?_
      refine g_get (kk := 0) (by decide) (cel_0 _ _ _) rfl inX7 fl_X7_10 (by decide) rfl dX7_nothing_23 ?_
      refine g_get (kk := 1) (by decide) (cel_1 _ _ _) rfl inX4 fl_X7_109 (by decide) rfl dX7_nothing_26 ?_
      refine g_iload_n dX7_nothing_29 rfl ?_
      obtain ⟨hi, hf⟩ := ck_s hf
      refine g_laload (kk := 6) (by decide) (fun f g => cel_6 _ f g) hi rfl dX7_nothing_30 ?_
      refine g_lst3 dX7_nothing_31 (by decide) lnl_i ?_
      refine g_iload_n dX7_nothing_32 rfl ?_
      refine g_ist5 dX7_nothing_33 (by decide) lnl_n ?_
      exact g_weakr (w_X7_nothing_35 hr fu hf) (lsk (lsd (lsd (lsk (lsd (lsk lsz))))))
    · have hf := ite_t hc hf
      refine g_aload_n dX7_nothing_15 rfl ?_
      refine g_bipush (v := (-2)) dX7_nothing_16 (by decide) ?_
      obtain ⟨r3, hq, hf⟩ := bnd hf
      refine g_cV_I_I (c_X7_refuseBad (r := r3.1) (M1 := r3.2) hq) cv_X7_60 (by decide) (cel_0 _ _ _) rfl ⟨by decide, by decide⟩ (Nat.le_of_ble_eq_true rfl) dX7_nothing_18 ?_
      exact g_iret_w hr hf dX7_nothing_21
-- X1_sounds
def b_X1_sounds_10   (x0 : Int64) (x3 : Int32) : Nat → Int32 → Int32 → Option Int32
  | 0, _, _ => none
  | n + 1, x2, x4 =>
    if x3 ≤ x4 then (some x2)
    else (b_X1_sounds_10 x0 x3 n (x2 ||| ((1 : Int32) <<< ((f_X1_syllable x0 x4) &&& 31))) (x4 + (1 : Int32)))
set_option maxHeartbeats 4000000 in
set_option maxRecDepth 100000 in
theorem w_X1_sounds_10 {X : Cx} {r : Int32} {M : Mem}  {x0 : Int64} {x3 : Int32}   (hr : X.meth.sig.returnType = (some .int)) : ∀ (n : Nat) {x2 : Int32} {x4 : Int32}, b_X1_sounds_10 x0 x3 n x2 x4 = some r → G X (some (.int r), M) RX1 cX1_sounds 5 1 22 10 [some (.long x0), none, some (.int x2), some (.int x3), some (.int x4)] [] M := by
  intro n
  induction n with
  | zero => intro x2 x4 hf; cases hf
  | succ n ih =>
    intro x2 x4 hf
    rw [b_X1_sounds_10.eq_2] at hf
    refine g_iload dX1_sounds_10 rfl ?_
    refine g_iload_n dX1_sounds_12 rfl ?_
    refine g_icmp_ge (tgt := 33) dX1_sounds_13 (by decide) (fun hc => ?_) (fun hc => ?_)
    · have hf := ite_t hc hf
      refine g_iload_n dX1_sounds_33 rfl ?_
      exact g_iret_p hr hf dX1_sounds_34
    · have hf := ite_f hc hf
      refine g_iload_n dX1_sounds_16 rfl ?_
      refine g_iconst (v := 1) dX1_sounds_17 (by decide) ?_
      refine g_lload_n dX1_sounds_18 rfl ?_
      refine g_iload dX1_sounds_19 rfl ?_
      refine g_cS_JI_I (c_X1_syllable rfl) cs_X1_23 ⟨by decide, by decide⟩ (Nat.le_of_ble_eq_true rfl) dX1_sounds_21 ?_
      refine g_ishl dX1_sounds_24 ?_
      refine g_ior dX1_sounds_25 ?_
      refine g_ist2 dX1_sounds_26 (by decide) lnl_n ?_
      refine g_iinc4 (v := (x4 + (1 : Int32))) dX1_sounds_27 (by decide) lnl_i rfl ?_
      refine g_goto (tgt := 10) dX1_sounds_30 (by decide) ?_
      exact ih hf
def f_X1_sounds (x0 : Int64) : Option Int32 :=
  b_X1_sounds_10 x0 (f_X1_length x0) fu (0 : Int32) (0 : Int32)
set_option maxHeartbeats 4000000 in
set_option maxRecDepth 100000 in
theorem c_X1_sounds {l : Launch} {x0 : Int64} {M : Mem} {r : Int32} (hf : f_X1_sounds x0 = some r) : Cn l yX1_sounds cX1_sounds 5 (some .int) 1 22 (fun E => [.long x0]) M (some (.int r), M) := by
  unfold f_X1_sounds at hf
  refine cn_of RX1 (fun E => [some (.long x0), none, none, none, none]) (by decide +kernel) rfl (fun E => Nat.le_of_ble_eq_true rfl) (fun E => rfl) (fun X hr => ?_)
  refine g_iconst (v := 0) dX1_sounds_0 (by decide) ?_
  refine g_ist2 dX1_sounds_1 (by decide) lnl_n ?_
  refine g_lload_n dX1_sounds_2 rfl ?_
  refine g_cS_J_I (c_X1_length rfl) cs_X1_19 ⟨by decide, by decide⟩ (Nat.le_of_ble_eq_true rfl) dX1_sounds_3 ?_
  refine g_ist3 dX1_sounds_6 (by decide) lnl_i ?_
  refine g_iconst (v := 0) dX1_sounds_7 (by decide) ?_
  refine g_ist4 dX1_sounds_8 (by decide) lnl_i ?_
  exact w_X1_sounds_10 hr fu hf
