-- X8_in
def f_X8_in (x0 : Int64) (x2 : Int64) (x4 : Int64) : Int32 :=
  if (lg_cmp x0 x2) < 0 then ((0 : Int32))
  else (if 0 < (lg_cmp x0 x4) then ((0 : Int32))
  else ((1 : Int32)))
set_option maxHeartbeats 4000000 in
set_option maxRecDepth 100000 in
theorem c_X8_in {l : Launch} {x0 : Int64} {x2 : Int64} {x4 : Int64} {M : Mem} {r : Int32} (hf : f_X8_in x0 x2 x4 = r) : Cn l yX8_in cX8_in 6 (some .boolean) 0 0 (fun E => [.long x0, .long x2, .long x4]) M (some (.int r), M) := by
  unfold f_X8_in at hf
  refine cn_of RX8 (fun E => [some (.long x0), none, some (.long x2), none, some (.long x4), none]) (by decide +kernel) rfl (fun E => Nat.le_of_ble_eq_true rfl) (fun E => rfl) (fun X hr => ?_)
  refine g_lload_n dX8_in_0 rfl ?_
  refine g_lload_n dX8_in_1 rfl ?_
  refine g_lcmp dX8_in_2 ?_
  refine g_if_lt (tgt := 17) dX8_in_3 (by decide) (fun hc => ?_) (fun hc => ?_)
  · have hf := ite_t hc hf
    refine g_iconst (v := 0) dX8_in_17 (by decide) ?_
    exact g_zret_t hr (Or.inl rfl) hf dX8_in_18
  · have hf := ite_f hc hf
    refine g_lload_n dX8_in_6 rfl ?_
    refine g_lload dX8_in_7 rfl ?_
    refine g_lcmp dX8_in_9 ?_
    refine g_if_gt (tgt := 17) dX8_in_10 (by decide) (fun hc => ?_) (fun hc => ?_)
    · have hf := ite_t hc hf
      refine g_iconst (v := 0) dX8_in_17 (by decide) ?_
      exact g_zret_t hr (Or.inl rfl) hf dX8_in_18
    · have hf := ite_f hc hf
      refine g_iconst (v := 1) dX8_in_13 (by decide) ?_
      refine g_goto (tgt := 18) dX8_in_14 (by decide) ?_
      exact g_zret_t hr (Or.inr rfl) hf dX8_in_18
theorem z_X8_in  {x0 : Int64} {x2 : Int64} {x4 : Int64} : f_X8_in x0 x2 x4 = 0 ∨ f_X8_in x0 x2 x4 = 1 := by
  unfold f_X8_in
  first | (repeat' split) <;> first | exact Or.inl rfl | exact Or.inr rfl
-- X8_bad
def f_X8_bad (x1 : Int32) (M : Mem) : Option (Int32 × Mem) :=
  let M1 := mI M 69 0 ((M.1 69 0) + (1 : Int32))
  some (x1, M1)
set_option maxHeartbeats 4000000 in
set_option maxRecDepth 100000 in
theorem c_X8_bad {l : Launch} {x1 : Int32} {M : Mem} {r : Int32} {M1 : Mem} (hf : f_X8_bad x1 M = some (r, M1)) : Cn l yX8_bad cX8_bad 2 (some .int) 0 0 (fun E => [.ref (E.1 63), .int x1]) M (some (.int r), M1) := by
  unfold f_X8_bad at hf
  refine cn_of RX8 (fun E => [some (.ref (E.1 63)), some (.int x1)]) (by decide +kernel) rfl (fun E => Nat.le_of_ble_eq_true rfl) (fun E => rfl) (fun X hr => ?_)
  refine g_aload_n dX8_bad_0 rfl ?_
  refine g_get (kk := 63) (by decide) (cel_63 _ _ _) rfl inX8 fl_X8_27 (by decide) rfl dX8_bad_1 ?_
  refine g_iconst (v := 0) dX8_bad_4 (by decide) ?_
  refine g_dup2 dX8_bad_5 rfl rfl ?_
  refine g_iaload (kk := 69) (by decide) (fun f g => cel_69 _ f g) (vp_in_iff.mpr ⟨by decide, by decide⟩) (j := 0) (by decide) dX8_bad_6 ?_
  refine g_iconst (v := 1) dX8_bad_7 (by decide) ?_
  refine g_iadd dX8_bad_8 ?_
  refine g_iastore (kk := 69) (by decide) (fun f g => cel_69 _ f g) (vp_in_iff.mpr ⟨by decide, by decide⟩) (j := 0) (by decide) dX8_bad_9 ?_
  refine g_iload_n dX8_bad_10 rfl ?_
  exact g_iret_w hr hf dX8_bad_11
-- X8_bridges
def f_X8_bridges (M : Mem)  : Int32 :=
  (M.1 64 0)
set_option maxHeartbeats 4000000 in
set_option maxRecDepth 100000 in
theorem c_X8_bridges {l : Launch}  {M : Mem} {r : Int32} (hf : f_X8_bridges M = r) : Cn l yX8_bridges cX8_bridges 1 (some .int) 0 0 (fun E => [.ref (E.1 63)]) M (some (.int r), M) := by
  unfold f_X8_bridges at hf
  refine cn_of RX8 (fun E => [some (.ref (E.1 63))]) (by decide +kernel) rfl (fun E => Nat.le_of_ble_eq_true rfl) (fun E => rfl) (fun X hr => ?_)
  refine g_aload_n dX8_bridges_0 rfl ?_
  refine g_get (kk := 63) (by decide) (cel_63 _ _ _) rfl inX8 fl_X8_7 (by decide) rfl dX8_bridges_1 ?_
  refine g_iconst (v := 0) dX8_bridges_4 (by decide) ?_
  refine g_iaload (kk := 64) (by decide) (fun f g => cel_64 _ f g) (vp_in_iff.mpr ⟨by decide, by decide⟩) (j := 0) (by decide) dX8_bridges_5 ?_
  exact g_iret_t hr hf dX8_bridges_6
-- X8_begin_64
def b_X8_begin_64_2   (x1 : Int32) : Nat → Int32 → Mem → Option Mem
  | 0, _, _ => none
  | n + 1, x2, M =>
    if (52 : Int32) ≤ x2 then (let M1 := mI M 64 1 x1
    some M1)
    else (ck x2 188 <|
    let M2 := mI M 64 (x2.toNatClampNeg) (0 : Int32)
    b_X8_begin_64_2 x1 n (x2 + (1 : Int32)) M2)
set_option maxHeartbeats 4000000 in
set_option maxRecDepth 100000 in
theorem w_X8_begin_64_2 {X : Cx} {M1 : Mem}   {x1 : Int32}   (hr : X.meth.sig.returnType = none) : ∀ (n : Nat) {x2 : Int32} {M : Mem}, b_X8_begin_64_2 x1 n x2 M = some M1 → G X (none, M1) RX8 cX8_begin 3 0 0 2 [some (.ref (X.1.1 64)), some (.int x1), some (.int x2)] [] M := by
  intro n
  induction n with
  | zero => intro x2 M hf; cases hf
  | succ n ih =>
    intro x2 M hf
    rw [b_X8_begin_64_2.eq_2] at hf
    refine g_iload_n dX8_begin_2 rfl ?_
    refine g_bipush (v := 52) dX8_begin_3 (by decide) ?_
    refine g_icmp_ge (tgt := 18) dX8_begin_5 (by decide) (fun hc => ?_) (fun hc => ?_)
    · have hf := ite_t hc hf
      refine g_aload_n dX8_begin_18 rfl ?_
      refine g_iconst (v := 1) dX8_begin_19 (by decide) ?_
      refine g_iload_n dX8_begin_20 rfl ?_
      refine g_iastore (kk := 64) (by decide) (fun f g => cel_64 _ f g) (vp_in_iff.mpr ⟨by decide, by decide⟩) (j := 1) (by decide) dX8_begin_21 ?_
      exact g_vret_w hr hf dX8_begin_22
    · have hf := ite_f hc hf
      refine g_aload_n dX8_begin_8 rfl ?_
      refine g_iload_n dX8_begin_9 rfl ?_
      refine g_iconst (v := 0) dX8_begin_10 (by decide) ?_
      obtain ⟨hi, hf⟩ := ck_s hf
      refine g_iastore (kk := 64) (by decide) (fun f g => cel_64 _ f g) hi rfl dX8_begin_11 ?_
      refine g_iinc2 (v := (x2 + (1 : Int32))) dX8_begin_12 (by decide) lnl_i rfl ?_
      refine g_goto (tgt := 2) dX8_begin_15 (by decide) ?_
      exact ih hf
def f_X8_begin_64 (x1 : Int32) (M : Mem) : Option Mem :=
  b_X8_begin_64_2 x1 fu (0 : Int32) M
set_option maxHeartbeats 4000000 in
set_option maxRecDepth 100000 in
theorem c_X8_begin_64 {l : Launch} {x1 : Int32} {M : Mem} {M1 : Mem} (hf : f_X8_begin_64 x1 M = some M1) : Cn l yX8_begin cX8_begin 3 none 0 0 (fun E => [.ref (E.1 64), .int x1]) M (none, M1) := by
  unfold f_X8_begin_64 at hf
  refine cn_of RX8 (fun E => [some (.ref (E.1 64)), some (.int x1), none]) (by decide +kernel) rfl (fun E => Nat.le_of_ble_eq_true rfl) (fun E => rfl) (fun X hr => ?_)
  refine g_iconst (v := 0) dX8_begin_0 (by decide) ?_
  refine g_ist2 dX8_begin_1 (by decide) lnl_i ?_
  exact w_X8_begin_64_2 hr fu hf
-- X8_river
def b_X8_river_34   (x2 : Int32) : Nat → Int32 → Mem → Option (Int32 × Mem)
  | 0, _, _ => none
  | n + 1, x3, M =>
    if (4 : Int32) ≤ x3 then (some (x2, M))
    else (ck x3 20 <|
    let M2 := mL M 66 (x3.toNatClampNeg) (0 : Int64)
    b_X8_river_34 x2 n (x3 + (1 : Int32)) M2)
set_option maxHeartbeats 4000000 in
set_option maxRecDepth 100000 in
theorem w_X8_river_34 {X : Cx} {r : Int32} {M1 : Mem}   {x2 : Int32}   (hr : X.meth.sig.returnType = (some .int)) : ∀ (n : Nat) {x3 : Int32} {M : Mem}, b_X8_river_34 x2 n x3 M = some (r, M1) → G X (some (.int r), M1) RX8 cX8_river 4 1 25 34 [some (.ref (X.1.1 63)), none, some (.int x2), some (.int x3)] [] M := by
  intro n
  induction n with
  | zero => intro x3 M hf; cases hf
  | succ n ih =>
    intro x3 M hf
    rw [b_X8_river_34.eq_2] at hf
    refine g_iload_n dX8_river_34 rfl ?_
    refine g_iconst (v := 4) dX8_river_35 (by decide) ?_
    refine g_icmp_ge (tgt := 52) dX8_river_36 (by decide) (fun hc => ?_) (fun hc => ?_)
    · have hf := ite_t hc hf
      refine g_iload_n dX8_river_52 rfl ?_
      exact g_iret_w hr hf dX8_river_53
    · have hf := ite_f hc hf
      refine g_aload_n dX8_river_39 rfl ?_
      refine g_get (kk := 63) (by decide) (cel_63 _ _ _) rfl inX8 fl_X8_16 (by decide) rfl dX8_river_40 ?_
      refine g_iload_n dX8_river_43 rfl ?_
      refine g_lconst (v := 0) dX8_river_44 (by decide) ?_
      obtain ⟨hi, hf⟩ := ck_s hf
      refine g_lastore (kk := 66) (by decide) (fun f g => cel_66 _ f g) hi rfl dX8_river_45 ?_
      refine g_iinc3 (v := (x3 + (1 : Int32))) dX8_river_46 (by decide) lnl_i rfl ?_
      refine g_goto (tgt := 34) dX8_river_49 (by decide) ?_
      exact ih hf
def f_X8_river (x1 : Int32) (M : Mem) : Option (Int32 × Mem) :=
  if (f_X8_in x1.toInt64 (0 : Int64) (11 : Int64)) = 0 then ((f_X8_bad (-2 : Int32) M).bind fun r3 =>
  some (r3.1, r3.2))
  else ((f_X8_begin_64 x1 M).bind fun r1 =>
  b_X8_river_34 (f_X8_bridges M) fu (0 : Int32) r1)
set_option maxHeartbeats 4000000 in
set_option maxRecDepth 100000 in
theorem c_X8_river {l : Launch} {x1 : Int32} {M : Mem} {r : Int32} {M1 : Mem} (hf : f_X8_river x1 M = some (r, M1)) : Cn l yX8_river cX8_river 4 (some .int) 1 25 (fun E => [.ref (E.1 63), .int x1]) M (some (.int r), M1) := by
  unfold f_X8_river at hf
  refine cn_of RX8 (fun E => [some (.ref (E.1 63)), some (.int x1), none, none]) (by decide +kernel) rfl (fun E => Nat.le_of_ble_eq_true rfl) (fun E => rfl) (fun X hr => ?_)
  refine g_iload_n dX8_river_0 rfl ?_
  refine g_i2l dX8_river_1 ?_
  refine g_lconst (v := 0) dX8_river_2 (by decide) ?_
  refine g_ldc2 cl_X8_114 dX8_river_3 ?_
  refine g_cS_JJJ_I (c_X8_in rfl) cs_X8_106 ⟨by decide, by decide⟩ (Nat.le_of_ble_eq_true rfl) dX8_river_6 ?_
  refine g_if_ne (tgt := 19) dX8_river_9 (by decide) (fun hc => ?_) (fun hc => ?_)
  · have hf := ite_f hc hf
    refine g_aload_n dX8_river_19 rfl ?_
    refine g_cV_0_I (c_X8_bridges rfl) cv_X8_102 (by decide) (cel_63 _ _ _) rfl ⟨by decide, by decide⟩ (Nat.le_of_ble_eq_true rfl) dX8_river_20 ?_
    refine g_ist2 dX8_river_23 (by decide) lnl_i ?_
    refine g_aload_n dX8_river_24 rfl ?_
    refine g_get (kk := 63) (by decide) (cel_63 _ _ _) rfl inX8 fl_X8_7 (by decide) rfl dX8_river_25 ?_
    refine g_iload_n dX8_river_28 rfl ?_
    obtain ⟨r1, hq, hf⟩ := bnd hf
    refine g_cS_RI_V (c_X8_begin_64 hq) cs_X8_120 ⟨by decide, by decide⟩ (Nat.le_of_ble_eq_true rfl) dX8_river_29 ?_
    refine g_iconst (v := 0) dX8_river_32 (by decide) ?_
    refine g_ist3 dX8_river_33 (by decide) lnl_i ?_
    exact g_weakr (w_X8_river_34 hr fu hf) (lsk (lsd (lsk (lsk lsz))))
  · have hf := ite_t hc hf
    refine g_aload_n dX8_river_12 rfl ?_
    refine g_bipush (v := (-2)) dX8_river_13 (by decide) ?_
    obtain ⟨r3, hq, hf⟩ := bnd hf
    refine g_cV_I_I (c_X8_bad (r := r3.1) (M1 := r3.2) hq) cv_X8_116 (by decide) (cel_63 _ _ _) rfl ⟨by decide, by decide⟩ (Nat.le_of_ble_eq_true rfl) dX8_river_15 ?_
    exact g_iret_w hr hf dX8_river_18
-- X8_isPlace
def f_X8_isPlace (x0 : Int32) : Int32 :=
  (f_X8_in x0.toInt64 (0 : Int64) (5 : Int64))
set_option maxHeartbeats 4000000 in
set_option maxRecDepth 100000 in
theorem c_X8_isPlace {l : Launch} {x0 : Int32} {M : Mem} {r : Int32} (hf : f_X8_isPlace x0 = r) : Cn l yX8_isPlace cX8_isPlace 1 (some .boolean) 1 25 (fun E => [.int x0]) M (some (.int r), M) := by
  unfold f_X8_isPlace at hf
  refine cn_of RX8 (fun E => [some (.int x0)]) (by decide +kernel) rfl (fun E => Nat.le_of_ble_eq_true rfl) (fun E => rfl) (fun X hr => ?_)
  refine g_iload_n dX8_isPlace_0 rfl ?_
  refine g_i2l dX8_isPlace_1 ?_
  refine g_lconst (v := 0) dX8_isPlace_2 (by decide) ?_
  refine g_ldc2 cl_X8_110 dX8_isPlace_3 ?_
  refine g_cS_JJJ_I (c_X8_in rfl) cs_X8_106 ⟨by decide, by decide⟩ (Nat.le_of_ble_eq_true rfl) dX8_isPlace_6 ?_
  exact g_zret_t hr (z_X8_in) hf dX8_isPlace_9
theorem z_X8_isPlace  {x0 : Int32} : f_X8_isPlace x0 = 0 ∨ f_X8_isPlace x0 = 1 := by
  unfold f_X8_isPlace
  first | exact z_X8_in | (repeat' split) <;> first | exact Or.inl rfl | exact Or.inr rfl | exact z_X8_in
-- X8_full
def f_X8_full  (M : Mem) : Option (Int32 × Mem) :=
  let M1 := mI M 69 2 ((M.1 69 2) + (1 : Int32))
  some ((-4 : Int32), M1)
set_option maxHeartbeats 4000000 in
set_option maxRecDepth 100000 in
theorem c_X8_full {l : Launch}  {M : Mem} {r : Int32} {M1 : Mem} (hf : f_X8_full M = some (r, M1)) : Cn l yX8_full cX8_full 1 (some .int) 0 0 (fun E => [.ref (E.1 63)]) M (some (.int r), M1) := by
  unfold f_X8_full at hf
  refine cn_of RX8 (fun E => [some (.ref (E.1 63))]) (by decide +kernel) rfl (fun E => Nat.le_of_ble_eq_true rfl) (fun E => rfl) (fun X hr => ?_)
  refine g_aload_n dX8_full_0 rfl ?_
  refine g_get (kk := 63) (by decide) (cel_63 _ _ _) rfl inX8 fl_X8_27 (by decide) rfl dX8_full_1 ?_
  refine g_iconst (v := 2) dX8_full_4 (by decide) ?_
  refine g_dup2 dX8_full_5 rfl rfl ?_
  refine g_iaload (kk := 69) (by decide) (fun f g => cel_69 _ f g) (vp_in_iff.mpr ⟨by decide, by decide⟩) (j := 2) (by decide) dX8_full_6 ?_
  refine g_iconst (v := 1) dX8_full_7 (by decide) ?_
  refine g_iadd dX8_full_8 ?_
  refine g_iastore (kk := 69) (by decide) (fun f g => cel_69 _ f g) (vp_in_iff.mpr ⟨by decide, by decide⟩) (j := 2) (by decide) dX8_full_9 ?_
  refine g_bipush (v := (-4)) dX8_full_10 (by decide) ?_
  exact g_iret_w hr hf dX8_full_12
-- X8_layBridge_64
def f_X8_layBridge_64 (x1 : Int32) (x2 : Int32) (x3 : Int32) (x4 : Int32) (M : Mem) : Option Mem :=
  ck (((4 : Int32) + ((4 : Int32) * (M.1 64 0))) + (0 : Int32)) 188 <|
  let M1 := mI M 64 ((((4 : Int32) + ((4 : Int32) * (M.1 64 0))) + (0 : Int32)).toNatClampNeg) x1
  ck (((4 : Int32) + ((4 : Int32) * (M.1 64 0))) + (1 : Int32)) 188 <|
  let M2 := mI M1 64 ((((4 : Int32) + ((4 : Int32) * (M.1 64 0))) + (1 : Int32)).toNatClampNeg) x2
  ck (((4 : Int32) + ((4 : Int32) * (M.1 64 0))) + (2 : Int32)) 188 <|
  let M3 := mI M2 64 ((((4 : Int32) + ((4 : Int32) * (M.1 64 0))) + (2 : Int32)).toNatClampNeg) x3
  ck (((4 : Int32) + ((4 : Int32) * (M.1 64 0))) + (3 : Int32)) 188 <|
  let M4 := mI M3 64 ((((4 : Int32) + ((4 : Int32) * (M.1 64 0))) + (3 : Int32)).toNatClampNeg) x4
  let M5 := mI M4 64 0 ((M4.1 64 0) + (1 : Int32))
  some M5
set_option maxHeartbeats 4000000 in
set_option maxRecDepth 100000 in
theorem c_X8_layBridge_64 {l : Launch} {x1 : Int32} {x2 : Int32} {x3 : Int32} {x4 : Int32} {M : Mem} {M1 : Mem} (hf : f_X8_layBridge_64 x1 x2 x3 x4 M = some M1) : Cn l yX8_layBridge cX8_layBridge 6 none 0 0 (fun E => [.ref (E.1 64), .int x1, .int x2, .int x3, .int x4]) M (none, M1) := by
  unfold f_X8_layBridge_64 at hf
  refine cn_of RX8 (fun E => [some (.ref (E.1 64)), some (.int x1), some (.int x2), some (.int x3), some (.int x4), none]) (by decide +kernel) rfl (fun E => Nat.le_of_ble_eq_true rfl) (fun E => rfl) (fun X hr => ?_)
  refine g_iconst (v := 4) dX8_layBridge_0 (by decide) ?_
  refine g_iconst (v := 4) dX8_layBridge_1 (by decide) ?_
  refine g_aload_n dX8_layBridge_2 rfl ?_
  refine g_iconst (v := 0) dX8_layBridge_3 (by decide) ?_
  refine g_iaload (kk := 64) (by decide) (fun f g => cel_64 _ f g) (vp_in_iff.mpr ⟨by decide, by decide⟩) (j := 0) (by decide) dX8_layBridge_4 ?_
  refine g_imul dX8_layBridge_5 ?_
  refine g_iadd dX8_layBridge_6 ?_
  refine g_ist5 dX8_layBridge_7 (by decide) lnl_i ?_
  refine g_aload_n dX8_layBridge_9 rfl ?_
  refine g_iload dX8_layBridge_10 rfl ?_
  refine g_iconst (v := 0) dX8_layBridge_12 (by decide) ?_
  refine g_iadd dX8_layBridge_13 ?_
  refine g_iload_n dX8_layBridge_14 rfl ?_
  obtain ⟨hi, hf⟩ := ck_s hf
  refine g_iastore (kk := 64) (by decide) (fun f g => cel_64 _ f g) hi rfl dX8_layBridge_15 ?_
  refine g_aload_n dX8_layBridge_16 rfl ?_
  refine g_iload dX8_layBridge_17 rfl ?_
  refine g_iconst (v := 1) dX8_layBridge_19 (by decide) ?_
  refine g_iadd dX8_layBridge_20 ?_
  refine g_iload_n dX8_layBridge_21 rfl ?_
  obtain ⟨hi, hf⟩ := ck_s hf
  refine g_iastore (kk := 64) (by decide) (fun f g => cel_64 _ f g) hi rfl dX8_layBridge_22 ?_
  refine g_aload_n dX8_layBridge_23 rfl ?_
  refine g_iload dX8_layBridge_24 rfl ?_
  refine g_iconst (v := 2) dX8_layBridge_26 (by decide) ?_
  refine g_iadd dX8_layBridge_27 ?_
  refine g_iload_n dX8_layBridge_28 rfl ?_
  obtain ⟨hi, hf⟩ := ck_s hf
  refine g_iastore (kk := 64) (by decide) (fun f g => cel_64 _ f g) hi rfl dX8_layBridge_29 ?_
  refine g_aload_n dX8_layBridge_30 rfl ?_
  refine g_iload dX8_layBridge_31 rfl ?_
  refine g_iconst (v := 3) dX8_layBridge_33 (by decide) ?_
  refine g_iadd dX8_layBridge_34 ?_
  refine g_iload dX8_layBridge_35 rfl ?_
  obtain ⟨hi, hf⟩ := ck_s hf
  refine g_iastore (kk := 64) (by decide) (fun f g => cel_64 _ f g) hi rfl dX8_layBridge_37 ?_
  refine g_aload_n dX8_layBridge_38 rfl ?_
  refine g_iconst (v := 0) dX8_layBridge_39 (by decide) ?_
  refine g_dup2 dX8_layBridge_40 rfl rfl ?_
  refine g_iaload (kk := 64) (by decide) (fun f g => cel_64 _ f g) (vp_in_iff.mpr ⟨by decide, by decide⟩) (j := 0) (by decide) dX8_layBridge_41 ?_
  refine g_iconst (v := 1) dX8_layBridge_42 (by decide) ?_
  refine g_iadd dX8_layBridge_43 ?_
  refine g_iastore (kk := 64) (by decide) (fun f g => cel_64 _ f g) (vp_in_iff.mpr ⟨by decide, by decide⟩) (j := 0) (by decide) dX8_layBridge_44 ?_
  exact g_vret_w hr hf dX8_layBridge_45
-- X8_bridge
def f_X8_bridge (x1 : Int32) (x2 : Int32) (x3 : Int32) (x4 : Int32) (M : Mem) : Option (Int32 × Mem) :=
  if (f_X8_isPlace x1) = 0 then ((f_X8_bad (-2 : Int32) M).bind fun r1 =>
  some (r1.1, r1.2))
  else (if (f_X8_isPlace x2) = 0 then ((f_X8_bad (-2 : Int32) M).bind fun r2 =>
  some (r2.1, r2.2))
  else (if x1 = x2 then ((f_X8_bad (-2 : Int32) M).bind fun r3 =>
  some (r3.1, r3.2))
  else (if (f_X8_in x3.toInt64 (0 : Int64) (5 : Int64)) = 0 then ((f_X8_bad (-2 : Int32) M).bind fun r4 =>
  some (r4.1, r4.2))
  else (if (f_X8_in x4.toInt64 (0 : Int64) (15 : Int64)) = 0 then ((f_X8_bad (-2 : Int32) M).bind fun r8 =>
  some (r8.1, r8.2))
  else (if (f_X8_bridges M) = (8 : Int32) then ((f_X8_full M).bind fun r7 =>
  some (r7.1, r7.2))
  else ((f_X8_layBridge_64 x1 x2 x3 x4 M).bind fun r5 =>
  let M6 := mI r5 64 3 (0 : Int32)
  some (((f_X8_bridges M6) - (1 : Int32)), M6)))))))
set_option maxHeartbeats 4000000 in
set_option maxRecDepth 100000 in
theorem c_X8_bridge {l : Launch} {x1 : Int32} {x2 : Int32} {x3 : Int32} {x4 : Int32} {M : Mem} {r : Int32} {M1 : Mem} (hf : f_X8_bridge x1 x2 x3 x4 M = some (r, M1)) : Cn l yX8_bridge cX8_bridge 5 (some .int) 2 45 (fun E => [.ref (E.1 63), .int x1, .int x2, .int x3, .int x4]) M (some (.int r), M1) := by
  unfold f_X8_bridge at hf
  refine cn_of RX8 (fun E => [some (.ref (E.1 63)), some (.int x1), some (.int x2), some (.int x3), some (.int x4)]) (by decide +kernel) rfl (fun E => Nat.le_of_ble_eq_true rfl) (fun E => rfl) (fun X hr => ?_)
  refine g_iload_n dX8_bridge_0 rfl ?_
  refine g_cS_I_I (c_X8_isPlace rfl) cs_X8_124 ⟨by decide, by decide⟩ (Nat.le_of_ble_eq_true rfl) dX8_bridge_1 ?_
  refine g_if_eq (tgt := 44) dX8_bridge_4 (by decide) (fun hc => ?_) (fun hc => ?_)
  · have hf := ite_t hc hf
    refine g_aload_n dX8_bridge_44 rfl ?_
    refine g_bipush (v := (-2)) dX8_bridge_45 (by decide) ?_
    obtain ⟨r1, hq, hf⟩ := bnd hf
    refine g_cV_I_I (c_X8_bad (r := r1.1) (M1 := r1.2) hq) cv_X8_116 (by decide) (cel_63 _ _ _) rfl ⟨by decide, by decide⟩ (Nat.le_of_ble_eq_true rfl) dX8_bridge_47 ?_
    exact g_iret_w hr hf dX8_bridge_50
  · have hf := ite_f hc hf
    refine g_iload_n dX8_bridge_7 rfl ?_
    refine g_cS_I_I (c_X8_isPlace rfl) cs_X8_124 ⟨by decide, by decide⟩ (Nat.le_of_ble_eq_true rfl) dX8_bridge_8 ?_
    refine g_if_eq (tgt := 44) dX8_bridge_11 (by decide) (fun hc => ?_) (fun hc => ?_)
    · have hf := ite_t hc hf
      refine g_aload_n dX8_bridge_44 rfl ?_
      refine g_bipush (v := (-2)) dX8_bridge_45 (by decide) ?_
      obtain ⟨r2, hq, hf⟩ := bnd hf
      refine g_cV_I_I (c_X8_bad (r := r2.1) (M1 := r2.2) hq) cv_X8_116 (by decide) (cel_63 _ _ _) rfl ⟨by decide, by decide⟩ (Nat.le_of_ble_eq_true rfl) dX8_bridge_47 ?_
      exact g_iret_w hr hf dX8_bridge_50
    · have hf := ite_f hc hf
      refine g_iload_n dX8_bridge_14 rfl ?_
      refine g_iload_n dX8_bridge_15 rfl ?_
      refine g_icmp_eq (tgt := 44) dX8_bridge_16 (by decide) (fun hc => ?_) (fun hc => ?_)
      · have hf := ite_t hc hf
        refine g_aload_n dX8_bridge_44 rfl ?_
        refine g_bipush (v := (-2)) dX8_bridge_45 (by decide) ?_
        obtain ⟨r3, hq, hf⟩ := bnd hf
        refine g_cV_I_I (c_X8_bad (r := r3.1) (M1 := r3.2) hq) cv_X8_116 (by decide) (cel_63 _ _ _) rfl ⟨by decide, by decide⟩ (Nat.le_of_ble_eq_true rfl) dX8_bridge_47 ?_
        exact g_iret_w hr hf dX8_bridge_50
      · have hf := ite_f hc hf
        refine g_iload_n dX8_bridge_19 rfl ?_
        refine g_i2l dX8_bridge_20 ?_
        refine g_lconst (v := 0) dX8_bridge_21 (by decide) ?_
        refine g_ldc2 cl_X8_110 dX8_bridge_22 ?_
        refine g_cS_JJJ_I (c_X8_in rfl) cs_X8_106 ⟨by decide, by decide⟩ (Nat.le_of_ble_eq_true rfl) dX8_bridge_25 ?_
        refine g_if_eq (tgt := 44) dX8_bridge_28 (by decide) (fun hc => ?_) (fun hc => ?_)
        · have hf := ite_t hc hf
          refine g_aload_n dX8_bridge_44 rfl ?_
          refine g_bipush (v := (-2)) dX8_bridge_45 (by decide) ?_
          obtain ⟨r4, hq, hf⟩ := bnd hf
          refine g_cV_I_I (c_X8_bad (r := r4.1) (M1 := r4.2) hq) cv_X8_116 (by decide) (cel_63 _ _ _) rfl ⟨by decide, by decide⟩ (Nat.le_of_ble_eq_true rfl) dX8_bridge_47 ?_
          exact g_iret_w hr hf dX8_bridge_50
        · have hf := ite_f hc hf
          refine g_iload dX8_bridge_31 rfl ?_
          refine g_i2l dX8_bridge_33 ?_
          refine g_lconst (v := 0) dX8_bridge_34 (by decide) ?_
          refine g_ldc2 cl_X8_67 dX8_bridge_35 ?_
          refine g_cS_JJJ_I (c_X8_in rfl) cs_X8_106 ⟨by decide, by decide⟩ (Nat.le_of_ble_eq_true rfl) dX8_bridge_38 ?_
          refine g_if_ne (tgt := 51) dX8_bridge_41 (by decide) (fun hc => ?_) (fun hc => ?_)
          · have hf := ite_f hc hf
            refine g_aload_n dX8_bridge_51 rfl ?_
            refine g_cV_0_I (c_X8_bridges rfl) cv_X8_102 (by decide) (cel_63 _ _ _) rfl ⟨by decide, by decide⟩ (Nat.le_of_ble_eq_true rfl) dX8_bridge_52 ?_
            refine g_bipush (v := 8) dX8_bridge_55 (by decide) ?_
            refine g_icmp_ne (tgt := 65) dX8_bridge_57 (by decide) (fun hc => ?_) (fun hc => ?_)
            · have hf := ite_f hc hf
              refine g_aload_n dX8_bridge_65 rfl ?_
              refine g_get (kk := 63) (by decide) (cel_63 _ _ _) rfl inX8 fl_X8_7 (by decide) rfl dX8_bridge_66 ?_
              refine g_iload_n dX8_bridge_69 rfl ?_
              refine g_iload_n dX8_bridge_70 rfl ?_
              refine g_iload_n dX8_bridge_71 rfl ?_
              refine g_iload dX8_bridge_72 rfl ?_
              obtain ⟨r5, hq, hf⟩ := bnd hf
              refine g_cS_RIIII_V (c_X8_layBridge_64 hq) cs_X8_131 ⟨by decide, by decide⟩ (Nat.le_of_ble_eq_true rfl) dX8_bridge_74 ?_
              refine g_aload_n dX8_bridge_77 rfl ?_
              refine g_get (kk := 63) (by decide) (cel_63 _ _ _) rfl inX8 fl_X8_7 (by decide) rfl dX8_bridge_78 ?_
              refine g_iconst (v := 3) dX8_bridge_81 (by decide) ?_
              refine g_iconst (v := 0) dX8_bridge_82 (by decide) ?_
              refine g_iastore (kk := 64) (by decide) (fun f g => cel_64 _ f g) (vp_in_iff.mpr ⟨by decide, by decide⟩) (j := 3) (by decide) dX8_bridge_83 ?_
              refine g_aload_n dX8_bridge_84 rfl ?_
              refine g_cV_0_I (c_X8_bridges rfl) cv_X8_102 (by decide) (cel_63 _ _ _) rfl ⟨by decide, by decide⟩ (Nat.le_of_ble_eq_true rfl) dX8_bridge_85 ?_
              refine g_iconst (v := 1) dX8_bridge_88 (by decide) ?_
              refine g_isub dX8_bridge_89 ?_
              exact g_iret_w hr hf dX8_bridge_90
            · have hf := ite_t hc hf
              refine g_aload_n dX8_bridge_60 rfl ?_
              obtain ⟨r7, hq, hf⟩ := bnd hf
              refine g_cV_0_I (c_X8_full (r := r7.1) (M1 := r7.2) hq) cv_X8_128 (by decide) (cel_63 _ _ _) rfl ⟨by decide, by decide⟩ (Nat.le_of_ble_eq_true rfl) dX8_bridge_61 ?_
              exact g_iret_w hr hf dX8_bridge_64
          · have hf := ite_t hc hf
            refine g_aload_n dX8_bridge_44 rfl ?_
            refine g_bipush (v := (-2)) dX8_bridge_45 (by decide) ?_
            obtain ⟨r8, hq, hf⟩ := bnd hf
            refine g_cV_I_I (c_X8_bad (r := r8.1) (M1 := r8.2) hq) cv_X8_116 (by decide) (cel_63 _ _ _) rfl ⟨by decide, by decide⟩ (Nat.le_of_ble_eq_true rfl) dX8_bridge_47 ?_
            exact g_iret_w hr hf dX8_bridge_50
-- X8_isBridge
def f_X8_isBridge (M : Mem) (x1 : Int32) : Int32 :=
  (f_X8_in x1.toInt64 (0 : Int64) ((f_X8_bridges M) - (1 : Int32)).toInt64)
set_option maxHeartbeats 4000000 in
set_option maxRecDepth 100000 in
theorem c_X8_isBridge {l : Launch} {x1 : Int32} {M : Mem} {r : Int32} (hf : f_X8_isBridge M x1 = r) : Cn l yX8_isBridge cX8_isBridge 2 (some .boolean) 1 25 (fun E => [.ref (E.1 63), .int x1]) M (some (.int r), M) := by
  unfold f_X8_isBridge at hf
  refine cn_of RX8 (fun E => [some (.ref (E.1 63)), some (.int x1)]) (by decide +kernel) rfl (fun E => Nat.le_of_ble_eq_true rfl) (fun E => rfl) (fun X hr => ?_)
  refine g_iload_n dX8_isBridge_0 rfl ?_
  refine g_i2l dX8_isBridge_1 ?_
  refine g_lconst (v := 0) dX8_isBridge_2 (by decide) ?_
  refine g_aload_n dX8_isBridge_3 rfl ?_
  refine g_cV_0_I (c_X8_bridges rfl) cv_X8_102 (by decide) (cel_63 _ _ _) rfl ⟨by decide, by decide⟩ (Nat.le_of_ble_eq_true rfl) dX8_isBridge_4 ?_
  refine g_iconst (v := 1) dX8_isBridge_7 (by decide) ?_
  refine g_isub dX8_isBridge_8 ?_
  refine g_i2l dX8_isBridge_9 ?_
  refine g_cS_JJJ_I (c_X8_in rfl) cs_X8_106 ⟨by decide, by decide⟩ (Nat.le_of_ble_eq_true rfl) dX8_isBridge_10 ?_
  exact g_zret_t hr (z_X8_in) hf dX8_isBridge_13
theorem z_X8_isBridge {M : Mem} {x1 : Int32} : f_X8_isBridge M x1 = 0 ∨ f_X8_isBridge M x1 = 1 := by
  unfold f_X8_isBridge
  first | exact z_X8_in | (repeat' split) <;> first | exact Or.inl rfl | exact Or.inr rfl | exact z_X8_in
-- X8_get
def f_X8_get (M : Mem) (x1 : Int32) (x2 : Int32) : Option Int32 :=
  ck (((4 : Int32) + ((4 : Int32) * x1)) + x2) 188 <|
  some (M.1 64 (((4 : Int32) + ((4 : Int32) * x1)) + x2).toNatClampNeg)
set_option maxHeartbeats 4000000 in
set_option maxRecDepth 100000 in
theorem c_X8_get {l : Launch} {x1 : Int32} {x2 : Int32} {M : Mem} {r : Int32} (hf : f_X8_get M x1 x2 = some r) : Cn l yX8_get cX8_get 3 (some .int) 0 0 (fun E => [.ref (E.1 63), .int x1, .int x2]) M (some (.int r), M) := by
  unfold f_X8_get at hf
  refine cn_of RX8 (fun E => [some (.ref (E.1 63)), some (.int x1), some (.int x2)]) (by decide +kernel) rfl (fun E => Nat.le_of_ble_eq_true rfl) (fun E => rfl) (fun X hr => ?_)
  refine g_aload_n dX8_get_0 rfl ?_
  refine g_get (kk := 63) (by decide) (cel_63 _ _ _) rfl inX8 fl_X8_7 (by decide) rfl dX8_get_1 ?_
  refine g_iconst (v := 4) dX8_get_4 (by decide) ?_
  refine g_iconst (v := 4) dX8_get_5 (by decide) ?_
  refine g_iload_n dX8_get_6 rfl ?_
  refine g_imul dX8_get_7 ?_
  refine g_iadd dX8_get_8 ?_
  refine g_iload_n dX8_get_9 rfl ?_
  refine g_iadd dX8_get_10 ?_
  obtain ⟨hi, hf⟩ := ck_s hf
  refine g_iaload (kk := 64) (by decide) (fun f g => cel_64 _ f g) hi rfl dX8_get_11 ?_
  exact g_iret_p hr hf dX8_get_12
-- X8_keep
def b_X8_keep_112   (x1 : Int32) (M : Mem) : Option Mem :=
  ck (x1 + (16 : Int32)) 188 <|
  let M1 := mI M 64 ((x1 + (16 : Int32)).toNatClampNeg) (M.1 64 1)
  let M2 := mI M1 64 3 ((M1.1 64 3) + (1 : Int32))
  some M2
set_option maxHeartbeats 4000000 in
set_option maxRecDepth 100000 in
theorem w_X8_keep_112 {X : Cx} {M1 : Mem}      {x1 : Int32} {M : Mem} (hr : X.meth.sig.returnType = none) (hf : b_X8_keep_112 x1 M = some M1) : G X (none, M1) RX8 cX8_keep 3 1 22 112 [some (.ref (X.1.1 63)), some (.int x1), none] [] M := by
  unfold b_X8_keep_112 at hf
  refine g_aload_n dX8_keep_112 rfl ?_
  refine g_get (kk := 63) (by decide) (cel_63 _ _ _) rfl inX8 fl_X8_7 (by decide) rfl dX8_keep_113 ?_
  refine g_iload_n dX8_keep_116 rfl ?_
  refine g_bipush (v := 16) dX8_keep_117 (by decide) ?_
  refine g_iadd dX8_keep_119 ?_
  refine g_aload_n dX8_keep_120 rfl ?_
  refine g_get (kk := 63) (by decide) (cel_63 _ _ _) rfl inX8 fl_X8_7 (by decide) rfl dX8_keep_121 ?_
  refine g_iconst (v := 1) dX8_keep_124 (by decide) ?_
  refine g_iaload (kk := 64) (by decide) (fun f g => cel_64 _ f g) (vp_in_iff.mpr ⟨by decide, by decide⟩) (j := 1) (by decide) dX8_keep_125 ?_
  obtain ⟨hi, hf⟩ := ck_s hf
  refine g_iastore (kk := 64) (by decide) (fun f g => cel_64 _ f g) hi rfl dX8_keep_126 ?_
  refine g_aload_n dX8_keep_127 rfl ?_
  refine g_get (kk := 63) (by decide) (cel_63 _ _ _) rfl inX8 fl_X8_7 (by decide) rfl dX8_keep_128 ?_
  refine g_iconst (v := 3) dX8_keep_131 (by decide) ?_
  refine g_dup2 dX8_keep_132 rfl rfl ?_
  refine g_iaload (kk := 64) (by decide) (fun f g => cel_64 _ f g) (vp_in_iff.mpr ⟨by decide, by decide⟩) (j := 3) (by decide) dX8_keep_133 ?_
  refine g_iconst (v := 1) dX8_keep_134 (by decide) ?_
  refine g_iadd dX8_keep_135 ?_
  refine g_iastore (kk := 64) (by decide) (fun f g => cel_64 _ f g) (vp_in_iff.mpr ⟨by decide, by decide⟩) (j := 3) (by decide) dX8_keep_136 ?_
  exact g_vret_w hr hf dX8_keep_137
def b_X8_keep_66   (x1 : Int32) : Nat → Int32 → Mem → Option Mem
  | 0, _, _ => none
  | n + 1, x2, M =>
    if (8 : Int32) ≤ x2 then (b_X8_keep_112 x1 M)
    else ((f_X8_get M x2 (2 : Int32)).bind fun r3 =>
    ck (x1 + ((2 : Int32) * x2)) 188 <|
    let M4 := mI M 64 ((x1 + ((2 : Int32) * x2)).toNatClampNeg) r3
    (f_X8_get M4 x2 (3 : Int32)).bind fun r5 =>
    ck ((x1 + ((2 : Int32) * x2)) + (1 : Int32)) 188 <|
    let M6 := mI M4 64 (((x1 + ((2 : Int32) * x2)) + (1 : Int32)).toNatClampNeg) r5
    b_X8_keep_66 x1 n (x2 + (1 : Int32)) M6)
set_option maxHeartbeats 4000000 in
set_option maxRecDepth 100000 in
theorem w_X8_keep_66 {X : Cx} {M1 : Mem}   {x1 : Int32}   (hr : X.meth.sig.returnType = none) : ∀ (n : Nat) {x2 : Int32} {M : Mem}, b_X8_keep_66 x1 n x2 M = some M1 → G X (none, M1) RX8 cX8_keep 3 1 22 66 [some (.ref (X.1.1 63)), some (.int x1), some (.int x2)] [] M := by
  intro n
  induction n with
  | zero => intro x2 M hf; cases hf
  | succ n ih =>
    intro x2 M hf
    rw [b_X8_keep_66.eq_2] at hf
    refine g_iload_n dX8_keep_66 rfl ?_
    refine g_bipush (v := 8) dX8_keep_67 (by decide) ?_
    refine g_icmp_ge (tgt := 112) dX8_keep_69 (by decide) (fun hc => ?_) (fun hc => ?_)
    · have hf := ite_t hc hf
      exact g_weakr (w_X8_keep_112 hr hf) (lsk (lsk (lsd lsz)))
    · have hf := ite_f hc hf
      refine g_aload_n dX8_keep_72 rfl ?_
      refine g_get (kk := 63) (by decide) (cel_63 _ _ _) rfl inX8 fl_X8_7 (by decide) rfl dX8_keep_73 ?_
      refine g_iload_n dX8_keep_76 rfl ?_
      refine g_iconst (v := 2) dX8_keep_77 (by decide) ?_
      refine g_iload_n dX8_keep_78 rfl ?_
      refine g_imul dX8_keep_79 ?_
      refine g_iadd dX8_keep_80 ?_
      refine g_aload_n dX8_keep_81 rfl ?_
      refine g_iload_n dX8_keep_82 rfl ?_
      refine g_iconst (v := 2) dX8_keep_83 (by decide) ?_
      obtain ⟨r3, hq, hf⟩ := bnd hf
      refine g_cV_II_I (c_X8_get hq) cv_X8_135 (by decide) (cel_63 _ _ _) rfl ⟨by decide, by decide⟩ (Nat.le_of_ble_eq_true rfl) dX8_keep_84 ?_
      obtain ⟨hi, hf⟩ := ck_s hf
      refine g_iastore (kk := 64) (by decide) (fun f g => cel_64 _ f g) hi rfl dX8_keep_87 ?_
      refine g_aload_n dX8_keep_88 rfl ?_
      refine g_get (kk := 63) (by decide) (cel_63 _ _ _) rfl inX8 fl_X8_7 (by decide) rfl dX8_keep_89 ?_
      refine g_iload_n dX8_keep_92 rfl ?_
      refine g_iconst (v := 2) dX8_keep_93 (by decide) ?_
      refine g_iload_n dX8_keep_94 rfl ?_
      refine g_imul dX8_keep_95 ?_
      refine g_iadd dX8_keep_96 ?_
      refine g_iconst (v := 1) dX8_keep_97 (by decide) ?_
      refine g_iadd dX8_keep_98 ?_
      refine g_aload_n dX8_keep_99 rfl ?_
      refine g_iload_n dX8_keep_100 rfl ?_
      refine g_iconst (v := 3) dX8_keep_101 (by decide) ?_
      obtain ⟨r5, hq, hf⟩ := bnd hf
      refine g_cV_II_I (c_X8_get hq) cv_X8_135 (by decide) (cel_63 _ _ _) rfl ⟨by decide, by decide⟩ (Nat.le_of_ble_eq_true rfl) dX8_keep_102 ?_
      obtain ⟨hi, hf⟩ := ck_s hf
      refine g_iastore (kk := 64) (by decide) (fun f g => cel_64 _ f g) hi rfl dX8_keep_105 ?_
      refine g_iinc2 (v := (x2 + (1 : Int32))) dX8_keep_106 (by decide) lnl_i rfl ?_
      refine g_goto (tgt := 66) dX8_keep_109 (by decide) ?_
      exact ih hf
def b_X8_keep_51    (M : Mem) : Option Mem :=
  b_X8_keep_66 ((52 : Int32) + ((17 : Int32) * (M.1 64 3))) fu (0 : Int32) M
set_option maxHeartbeats 4000000 in
set_option maxRecDepth 100000 in
theorem w_X8_keep_51 {X : Cx} {M1 : Mem}       {M : Mem} (hr : X.meth.sig.returnType = none) (hf : b_X8_keep_51 M = some M1) : G X (none, M1) RX8 cX8_keep 3 1 22 51 [some (.ref (X.1.1 63)), none, none] [] M := by
  unfold b_X8_keep_51 at hf
  refine g_bipush (v := 52) dX8_keep_51 (by decide) ?_
  refine g_bipush (v := 17) dX8_keep_53 (by decide) ?_
  refine g_aload_n dX8_keep_55 rfl ?_
  refine g_get (kk := 63) (by decide) (cel_63 _ _ _) rfl inX8 fl_X8_7 (by decide) rfl dX8_keep_56 ?_
  refine g_iconst (v := 3) dX8_keep_59 (by decide) ?_
  refine g_iaload (kk := 64) (by decide) (fun f g => cel_64 _ f g) (vp_in_iff.mpr ⟨by decide, by decide⟩) (j := 3) (by decide) dX8_keep_60 ?_
  refine g_imul dX8_keep_61 ?_
  refine g_iadd dX8_keep_62 ?_
  refine g_ist1 dX8_keep_63 (by decide) lnl_r ?_
  refine g_iconst (v := 0) dX8_keep_64 (by decide) ?_
  refine g_ist2 dX8_keep_65 (by decide) lnl_i ?_
  exact w_X8_keep_66 hr fu hf
def b_X8_keep_43 (k51 : Mem → Option Mem)   (M : Mem) : Option Mem :=
  let M7 := mI M 64 3 (7 : Int32)
  k51 M7
set_option maxHeartbeats 4000000 in
set_option maxRecDepth 100000 in
theorem w_X8_keep_43 {X : Cx} {M1 : Mem}  {k51 : Mem → Option Mem}     {M : Mem} (hr : X.meth.sig.returnType = none) (hk51 : ∀  {M_ : Mem}, k51  M_ = some M1 → G X (none, M1) RX8 cX8_keep 3 1 22 51 [some (.ref (X.1.1 63)), none, none] [] M_) (hf : b_X8_keep_43 k51 M = some M1) : G X (none, M1) RX8 cX8_keep 3 1 22 43 [some (.ref (X.1.1 63)), none, none] [] M := by
  unfold b_X8_keep_43 at hf
  refine g_aload_n dX8_keep_43 rfl ?_
  refine g_get (kk := 63) (by decide) (cel_63 _ _ _) rfl inX8 fl_X8_7 (by decide) rfl dX8_keep_44 ?_
  refine g_iconst (v := 3) dX8_keep_47 (by decide) ?_
  refine g_bipush (v := 7) dX8_keep_48 (by decide) ?_
  refine g_iastore (kk := 64) (by decide) (fun f g => cel_64 _ f g) (vp_in_iff.mpr ⟨by decide, by decide⟩) (j := 3) (by decide) dX8_keep_50 ?_
  exact hk51 hf
def b_X8_keep_13 (k51 : Mem → Option Mem)   : Nat → Int32 → Mem → Option Mem
  | 0, _, _ => none
  | n + 1, x1, M =>
    if (119 : Int32) ≤ x1 then (b_X8_keep_43 k51 M)
    else (ck ((69 : Int32) + x1) 188 <|
    ck ((52 : Int32) + x1) 188 <|
    let M8 := mI M 64 (((52 : Int32) + x1).toNatClampNeg) (M.1 64 ((69 : Int32) + x1).toNatClampNeg)
    b_X8_keep_13 k51 n (x1 + (1 : Int32)) M8)
set_option maxHeartbeats 4000000 in
set_option maxRecDepth 100000 in
theorem w_X8_keep_13 {X : Cx} {M1 : Mem}  {k51 : Mem → Option Mem}    (hr : X.meth.sig.returnType = none) (hk51 : ∀  {M_ : Mem}, k51  M_ = some M1 → G X (none, M1) RX8 cX8_keep 3 1 22 51 [some (.ref (X.1.1 63)), none, none] [] M_) : ∀ (n : Nat) {x1 : Int32} {M : Mem}, b_X8_keep_13 k51 n x1 M = some M1 → G X (none, M1) RX8 cX8_keep 3 1 22 13 [some (.ref (X.1.1 63)), some (.int x1), none] [] M := by
  intro n
  induction n with
  | zero => intro x1 M hf; cases hf
  | succ n ih =>
    intro x1 M hf
    rw [b_X8_keep_13.eq_2] at hf
    refine g_iload_n dX8_keep_13 rfl ?_
    refine g_bipush (v := 119) dX8_keep_14 (by decide) ?_
    refine g_icmp_ge (tgt := 43) dX8_keep_16 (by decide) (fun hc => ?_) (fun hc => ?_)
    · have hf := ite_t hc hf
      exact g_weakr (w_X8_keep_43 hr hk51 hf) (lsk (lsd (lsd lsz)))
    · have hf := ite_f hc hf
      refine g_aload_n dX8_keep_19 rfl ?_
      refine g_get (kk := 63) (by decide) (cel_63 _ _ _) rfl inX8 fl_X8_7 (by decide) rfl dX8_keep_20 ?_
      refine g_bipush (v := 52) dX8_keep_23 (by decide) ?_
      refine g_iload_n dX8_keep_25 rfl ?_
      refine g_iadd dX8_keep_26 ?_
      refine g_aload_n dX8_keep_27 rfl ?_
      refine g_get (kk := 63) (by decide) (cel_63 _ _ _) rfl inX8 fl_X8_7 (by decide) rfl dX8_keep_28 ?_
      refine g_bipush (v := 69) dX8_keep_31 (by decide) ?_
      refine g_iload_n dX8_keep_33 rfl ?_
      refine g_iadd dX8_keep_34 ?_
      obtain ⟨hi, hf⟩ := ck_s hf
      refine g_iaload (kk := 64) (by decide) (fun f g => cel_64 _ f g) hi rfl dX8_keep_35 ?_
      obtain ⟨hi, hf⟩ := ck_s hf
      refine g_iastore (kk := 64) (by decide) (fun f g => cel_64 _ f g) hi rfl dX8_keep_36 ?_
      refine g_iinc1 (v := (x1 + (1 : Int32))) dX8_keep_37 (by decide) lnl_r rfl ?_
      refine g_goto (tgt := 13) dX8_keep_40 (by decide) ?_
      exact ih hf
def f_X8_keep  (M : Mem) : Option Mem :=
  if (M.1 64 3) = (8 : Int32) then (b_X8_keep_13 (fun M_ => b_X8_keep_51 M_) fu (0 : Int32) M)
  else (b_X8_keep_51 M)
set_option maxHeartbeats 4000000 in
set_option maxRecDepth 100000 in
theorem c_X8_keep {l : Launch}  {M : Mem} {M1 : Mem} (hf : f_X8_keep M = some M1) : Cn l yX8_keep cX8_keep 3 none 1 22 (fun E => [.ref (E.1 63)]) M (none, M1) := by
  unfold f_X8_keep at hf
  refine cn_of RX8 (fun E => [some (.ref (E.1 63)), none, none]) (by decide +kernel) rfl (fun E => Nat.le_of_ble_eq_true rfl) (fun E => rfl) (fun X hr => ?_)
  refine g_aload_n dX8_keep_0 rfl ?_
  refine g_get (kk := 63) (by decide) (cel_63 _ _ _) rfl inX8 fl_X8_7 (by decide) rfl dX8_keep_1 ?_
  refine g_iconst (v := 3) dX8_keep_4 (by decide) ?_
  refine g_iaload (kk := 64) (by decide) (fun f g => cel_64 _ f g) (vp_in_iff.mpr ⟨by decide, by decide⟩) (j := 3) (by decide) dX8_keep_5 ?_
  refine g_bipush (v := 8) dX8_keep_6 (by decide) ?_
  refine g_icmp_ne (tgt := 51) dX8_keep_8 (by decide) (fun hc => ?_) (fun hc => ?_)
  · have hf := ite_f hc hf
    exact w_X8_keep_51 hr hf
  · have hf := ite_t hc hf
    refine g_iconst (v := 0) dX8_keep_11 (by decide) ?_
    refine g_ist1 dX8_keep_12 (by decide) lnl_r ?_
    exact w_X8_keep_13 hr (fun hf => w_X8_keep_51 hr hf) fu hf
-- X8_rule
def f_X8_rule (x1 : Int32) (x2 : Int32) (x3 : Int32) (M : Mem) : Option (Int32 × Mem) :=
  if (f_X8_isBridge M x1) = 0 then ((f_X8_bad (-2 : Int32) M).bind fun r1 =>
  some (r1.1, r1.2))
  else (if (f_X8_in x2.toInt64 (0 : Int64) (5 : Int64)) = 0 then ((f_X8_bad (-2 : Int32) M).bind fun r2 =>
  some (r2.1, r2.2))
  else (if (f_X8_in x3.toInt64 (0 : Int64) (15 : Int64)) = 0 then ((f_X8_bad (-2 : Int32) M).bind fun r8 =>
  some (r8.1, r8.2))
  else ((f_X8_get M x1 (2 : Int32)).bind fun r3 =>
  (f_X8_get M x1 (3 : Int32)).bind fun r4 =>
  (f_X8_keep M).bind fun r5 =>
  ck (((4 : Int32) + ((4 : Int32) * x1)) + (2 : Int32)) 188 <|
  let M6 := mI r5 64 ((((4 : Int32) + ((4 : Int32) * x1)) + (2 : Int32)).toNatClampNeg) x2
  ck (((4 : Int32) + ((4 : Int32) * x1)) + (3 : Int32)) 188 <|
  let M7 := mI M6 64 ((((4 : Int32) + ((4 : Int32) * x1)) + (3 : Int32)).toNatClampNeg) x3
  some ((((16 : Int32) * r3) + r4), M7))))
set_option maxHeartbeats 4000000 in
set_option maxRecDepth 100000 in
theorem c_X8_rule {l : Launch} {x1 : Int32} {x2 : Int32} {x3 : Int32} {M : Mem} {r : Int32} {M1 : Mem} (hf : f_X8_rule x1 x2 x3 M = some (r, M1)) : Cn l yX8_rule cX8_rule 5 (some .int) 2 46 (fun E => [.ref (E.1 63), .int x1, .int x2, .int x3]) M (some (.int r), M1) := by
  unfold f_X8_rule at hf
  refine cn_of RX8 (fun E => [some (.ref (E.1 63)), some (.int x1), some (.int x2), some (.int x3), none]) (by decide +kernel) rfl (fun E => Nat.le_of_ble_eq_true rfl) (fun E => rfl) (fun X hr => ?_)
  refine g_aload_n dX8_rule_0 rfl ?_
  refine g_iload_n dX8_rule_1 rfl ?_
  refine g_cV_I_I (c_X8_isBridge rfl) cv_X8_139 (by decide) (cel_63 _ _ _) rfl ⟨by decide, by decide⟩ (Nat.le_of_ble_eq_true rfl) dX8_rule_2 ?_
  refine g_if_eq (tgt := 32) dX8_rule_5 (by decide) (fun hc => ?_) (fun hc => ?_)
  · have hf := ite_t hc hf
    refine g_aload_n dX8_rule_32 rfl ?_
    refine g_bipush (v := (-2)) dX8_rule_33 (by decide) ?_
    obtain ⟨r1, hq, hf⟩ := bnd hf
    refine g_cV_I_I (c_X8_bad (r := r1.1) (M1 := r1.2) hq) cv_X8_116 (by decide) (cel_63 _ _ _) rfl ⟨by decide, by decide⟩ (Nat.le_of_ble_eq_true rfl) dX8_rule_35 ?_
    exact g_iret_w hr hf dX8_rule_38
  · have hf := ite_f hc hf
    refine g_iload_n dX8_rule_8 rfl ?_
    refine g_i2l dX8_rule_9 ?_
    refine g_lconst (v := 0) dX8_rule_10 (by decide) ?_
    refine g_ldc2 cl_X8_110 dX8_rule_11 ?_
    refine g_cS_JJJ_I (c_X8_in rfl) cs_X8_106 ⟨by decide, by decide⟩ (Nat.le_of_ble_eq_true rfl) dX8_rule_14 ?_
    refine g_if_eq (tgt := 32) dX8_rule_17 (by decide) (fun hc => ?_) (fun hc => ?_)
    · have hf := ite_t hc hf
      refine g_aload_n dX8_rule_32 rfl ?_
      refine g_bipush (v := (-2)) dX8_rule_33 (by decide) ?_
      obtain ⟨r2, hq, hf⟩ := bnd hf
      refine g_cV_I_I (c_X8_bad (r := r2.1) (M1 := r2.2) hq) cv_X8_116 (by decide) (cel_63 _ _ _) rfl ⟨by decide, by decide⟩ (Nat.le_of_ble_eq_true rfl) dX8_rule_35 ?_
      exact g_iret_w hr hf dX8_rule_38
    · have hf := ite_f hc hf
      refine g_iload_n dX8_rule_20 rfl ?_
      refine g_i2l dX8_rule_21 ?_
      refine g_lconst (v := 0) dX8_rule_22 (by decide) ?_
      refine g_ldc2 cl_X8_67 dX8_rule_23 ?_
      refine g_cS_JJJ_I (c_X8_in rfl) cs_X8_106 ⟨by decide, by decide⟩ (Nat.le_of_ble_eq_true rfl) dX8_rule_26 ?_
      refine g_if_ne (tgt := 39) dX8_rule_29 (by decide) (fun hc => ?_) (fun hc => ?_)
      · have hf := ite_f hc hf
        refine g_bipush (v := 16) dX8_rule_39 (by decide) ?_
        refine g_aload_n dX8_rule_41 rfl ?_
        refine g_iload_n dX8_rule_42 rfl ?_
        refine g_iconst (v := 2) dX8_rule_43 (by decide) ?_
        obtain ⟨r3, hq, hf⟩ := bnd hf
        refine g_cV_II_I (c_X8_get hq) cv_X8_135 (by decide) (cel_63 _ _ _) rfl ⟨by decide, by decide⟩ (Nat.le_of_ble_eq_true rfl) dX8_rule_44 ?_
        refine g_imul dX8_rule_47 ?_
        refine g_aload_n dX8_rule_48 rfl ?_
        refine g_iload_n dX8_rule_49 rfl ?_
        refine g_iconst (v := 3) dX8_rule_50 (by decide) ?_
        obtain ⟨r4, hq, hf⟩ := bnd hf
        refine g_cV_II_I (c_X8_get hq) cv_X8_135 (by decide) (cel_63 _ _ _) rfl ⟨by decide, by decide⟩ (Nat.le_of_ble_eq_true rfl) dX8_rule_51 ?_
        refine g_iadd dX8_rule_54 ?_
        refine g_ist4 dX8_rule_55 (by decide) lnl_i ?_
        refine g_aload_n dX8_rule_57 rfl ?_
        obtain ⟨r5, hq, hf⟩ := bnd hf
        refine g_cV_0_V (c_X8_keep hq) cv_X8_142 (by decide) (cel_63 _ _ _) rfl ⟨by decide, by decide⟩ (Nat.le_of_ble_eq_true rfl) dX8_rule_58 ?_
        refine g_aload_n dX8_rule_61 rfl ?_
        refine g_get (kk := 63) (by decide) (cel_63 _ _ _) rfl inX8 fl_X8_7 (by decide) rfl dX8_rule_62 ?_
        refine g_iconst (v := 4) dX8_rule_65 (by decide) ?_
        refine g_iconst (v := 4) dX8_rule_66 (by decide) ?_
        refine g_iload_n dX8_rule_67 rfl ?_
        refine g_imul dX8_rule_68 ?_
        refine g_iadd dX8_rule_69 ?_
        refine g_iconst (v := 2) dX8_rule_70 (by decide) ?_
        refine g_iadd dX8_rule_71 ?_
        refine g_iload_n dX8_rule_72 rfl ?_
        obtain ⟨hi, hf⟩ := ck_s hf
        refine g_iastore (kk := 64) (by decide) (fun f g => cel_64 _ f g) hi rfl dX8_rule_73 ?_
        refine g_aload_n dX8_rule_74 rfl ?_
        refine g_get (kk := 63) (by decide) (cel_63 _ _ _) rfl inX8 fl_X8_7 (by decide) rfl dX8_rule_75 ?_
        refine g_iconst (v := 4) dX8_rule_78 (by decide) ?_
        refine g_iconst (v := 4) dX8_rule_79 (by decide) ?_
        refine g_iload_n dX8_rule_80 rfl ?_
        refine g_imul dX8_rule_81 ?_
        refine g_iadd dX8_rule_82 ?_
        refine g_iconst (v := 3) dX8_rule_83 (by decide) ?_
        refine g_iadd dX8_rule_84 ?_
        refine g_iload_n dX8_rule_85 rfl ?_
        obtain ⟨hi, hf⟩ := ck_s hf
        refine g_iastore (kk := 64) (by decide) (fun f g => cel_64 _ f g) hi rfl dX8_rule_86 ?_
        refine g_iload dX8_rule_87 rfl ?_
        exact g_iret_w hr hf dX8_rule_89
      · have hf := ite_t hc hf
        refine g_aload_n dX8_rule_32 rfl ?_
        refine g_bipush (v := (-2)) dX8_rule_33 (by decide) ?_
        obtain ⟨r8, hq, hf⟩ := bnd hf
        refine g_cV_I_I (c_X8_bad (r := r8.1) (M1 := r8.2) hq) cv_X8_116 (by decide) (cel_63 _ _ _) rfl ⟨by decide, by decide⟩ (Nat.le_of_ble_eq_true rfl) dX8_rule_35 ?_
        exact g_iret_w hr hf dX8_rule_38
-- X8_month
def f_X8_month (x1 : Int32) (M : Mem) : Option (Int32 × Mem) :=
  if (f_X8_in x1.toInt64 (1 : Int64) (11 : Int64)) = 0 then ((f_X8_bad (-2 : Int32) M).bind fun r3 =>
  some (r3.1, r3.2))
  else ((f_X8_keep M).bind fun r1 =>
  let M2 := mI r1 64 1 (((r1.1 64 1) + x1) - ((r1.1 64 1) + x1) / (12 : Int32) * (12 : Int32))
  some ((M2.1 64 1), M2))
set_option maxHeartbeats 4000000 in
set_option maxRecDepth 100000 in
theorem c_X8_month {l : Launch} {x1 : Int32} {M : Mem} {r : Int32} {M1 : Mem} (hf : f_X8_month x1 M = some (r, M1)) : Cn l yX8_month cX8_month 2 (some .int) 2 44 (fun E => [.ref (E.1 63), .int x1]) M (some (.int r), M1) := by
  unfold f_X8_month at hf
  refine cn_of RX8 (fun E => [some (.ref (E.1 63)), some (.int x1)]) (by decide +kernel) rfl (fun E => Nat.le_of_ble_eq_true rfl) (fun E => rfl) (fun X hr => ?_)
  refine g_iload_n dX8_month_0 rfl ?_
  refine g_i2l dX8_month_1 ?_
  refine g_lconst (v := 1) dX8_month_2 (by decide) ?_
  refine g_ldc2 cl_X8_114 dX8_month_3 ?_
  refine g_cS_JJJ_I (c_X8_in rfl) cs_X8_106 ⟨by decide, by decide⟩ (Nat.le_of_ble_eq_true rfl) dX8_month_6 ?_
  refine g_if_ne (tgt := 19) dX8_month_9 (by decide) (fun hc => ?_) (fun hc => ?_)
  · have hf := ite_f hc hf
    refine g_aload_n dX8_month_19 rfl ?_
    obtain ⟨r1, hq, hf⟩ := bnd hf
    refine g_cV_0_V (c_X8_keep hq) cv_X8_142 (by decide) (cel_63 _ _ _) rfl ⟨by decide, by decide⟩ (Nat.le_of_ble_eq_true rfl) dX8_month_20 ?_
    refine g_aload_n dX8_month_23 rfl ?_
    refine g_get (kk := 63) (by decide) (cel_63 _ _ _) rfl inX8 fl_X8_7 (by decide) rfl dX8_month_24 ?_
    refine g_iconst (v := 1) dX8_month_27 (by decide) ?_
    refine g_aload_n dX8_month_28 rfl ?_
    refine g_get (kk := 63) (by decide) (cel_63 _ _ _) rfl inX8 fl_X8_7 (by decide) rfl dX8_month_29 ?_
    refine g_iconst (v := 1) dX8_month_32 (by decide) ?_
    refine g_iaload (kk := 64) (by decide) (fun f g => cel_64 _ f g) (vp_in_iff.mpr ⟨by decide, by decide⟩) (j := 1) (by decide) dX8_month_33 ?_
    refine g_iload_n dX8_month_34 rfl ?_
    refine g_iadd dX8_month_35 ?_
    refine g_bipush (v := 12) dX8_month_36 (by decide) ?_
    refine g_irem dX8_month_38 (by decide) ?_
    refine g_iastore (kk := 64) (by decide) (fun f g => cel_64 _ f g) (vp_in_iff.mpr ⟨by decide, by decide⟩) (j := 1) (by decide) dX8_month_39 ?_
    refine g_aload_n dX8_month_40 rfl ?_
    refine g_get (kk := 63) (by decide) (cel_63 _ _ _) rfl inX8 fl_X8_7 (by decide) rfl dX8_month_41 ?_
    refine g_iconst (v := 1) dX8_month_44 (by decide) ?_
    refine g_iaload (kk := 64) (by decide) (fun f g => cel_64 _ f g) (vp_in_iff.mpr ⟨by decide, by decide⟩) (j := 1) (by decide) dX8_month_45 ?_
    exact g_iret_w hr hf dX8_month_46
  · have hf := ite_t hc hf
    refine g_aload_n dX8_month_12 rfl ?_
    refine g_bipush (v := (-2)) dX8_month_13 (by decide) ?_
    obtain ⟨r3, hq, hf⟩ := bnd hf
    refine g_cV_I_I (c_X8_bad (r := r3.1) (M1 := r3.2) hq) cv_X8_116 (by decide) (cel_63 _ _ _) rfl ⟨by decide, by decide⟩ (Nat.le_of_ble_eq_true rfl) dX8_month_15 ?_
    exact g_iret_w hr hf dX8_month_18
-- X8_no
def f_X8_no  (M : Mem) : Option (Int32 × Mem) :=
  let M1 := mI M 69 1 ((M.1 69 1) + (1 : Int32))
  some ((-3 : Int32), M1)
set_option maxHeartbeats 4000000 in
set_option maxRecDepth 100000 in
theorem c_X8_no {l : Launch}  {M : Mem} {r : Int32} {M1 : Mem} (hf : f_X8_no M = some (r, M1)) : Cn l yX8_no cX8_no 1 (some .int) 0 0 (fun E => [.ref (E.1 63)]) M (some (.int r), M1) := by
  unfold f_X8_no at hf
  refine cn_of RX8 (fun E => [some (.ref (E.1 63))]) (by decide +kernel) rfl (fun E => Nat.le_of_ble_eq_true rfl) (fun E => rfl) (fun X hr => ?_)
  refine g_aload_n dX8_no_0 rfl ?_
  refine g_get (kk := 63) (by decide) (cel_63 _ _ _) rfl inX8 fl_X8_27 (by decide) rfl dX8_no_1 ?_
  refine g_iconst (v := 1) dX8_no_4 (by decide) ?_
  refine g_dup2 dX8_no_5 rfl rfl ?_
  refine g_iaload (kk := 69) (by decide) (fun f g => cel_69 _ f g) (vp_in_iff.mpr ⟨by decide, by decide⟩) (j := 1) (by decide) dX8_no_6 ?_
  refine g_iconst (v := 1) dX8_no_7 (by decide) ?_
  refine g_iadd dX8_no_8 ?_
  refine g_iastore (kk := 69) (by decide) (fun f g => cel_69 _ f g) (vp_in_iff.mpr ⟨by decide, by decide⟩) (j := 1) (by decide) dX8_no_9 ?_
  refine g_bipush (v := (-3)) dX8_no_10 (by decide) ?_
  exact g_iret_w hr hf dX8_no_12
-- X8_undo
def b_X8_undo_97   (x1 : Int32) (M : Mem) : Option (Int32 × Mem) :=
  ck (x1 + (16 : Int32)) 188 <|
  let M2 := mI M 64 1 (M.1 64 (x1 + (16 : Int32)).toNatClampNeg)
  some ((M2.1 64 1), M2)
set_option maxHeartbeats 4000000 in
set_option maxRecDepth 100000 in
theorem w_X8_undo_97 {X : Cx} {r : Int32} {M1 : Mem}      {x1 : Int32} {M : Mem} (hr : X.meth.sig.returnType = (some .int)) (hf : b_X8_undo_97 x1 M = some (r, M1)) : G X (some (.int r), M1) RX8 cX8_undo 3 1 20 97 [some (.ref (X.1.1 63)), some (.int x1), none] [] M := by
  unfold b_X8_undo_97 at hf
  refine g_aload_n dX8_undo_97 rfl ?_
  refine g_get (kk := 63) (by decide) (cel_63 _ _ _) rfl inX8 fl_X8_7 (by decide) rfl dX8_undo_98 ?_
  refine g_iconst (v := 1) dX8_undo_101 (by decide) ?_
  refine g_aload_n dX8_undo_102 rfl ?_
  refine g_get (kk := 63) (by decide) (cel_63 _ _ _) rfl inX8 fl_X8_7 (by decide) rfl dX8_undo_103 ?_
  refine g_iload_n dX8_undo_106 rfl ?_
  refine g_bipush (v := 16) dX8_undo_107 (by decide) ?_
  refine g_iadd dX8_undo_109 ?_
  obtain ⟨hi, hf⟩ := ck_s hf
  refine g_iaload (kk := 64) (by decide) (fun f g => cel_64 _ f g) hi rfl dX8_undo_110 ?_
  refine g_iastore (kk := 64) (by decide) (fun f g => cel_64 _ f g) (vp_in_iff.mpr ⟨by decide, by decide⟩) (j := 1) (by decide) dX8_undo_111 ?_
  refine g_aload_n dX8_undo_112 rfl ?_
  refine g_get (kk := 63) (by decide) (cel_63 _ _ _) rfl inX8 fl_X8_7 (by decide) rfl dX8_undo_113 ?_
  refine g_iconst (v := 1) dX8_undo_116 (by decide) ?_
  refine g_iaload (kk := 64) (by decide) (fun f g => cel_64 _ f g) (vp_in_iff.mpr ⟨by decide, by decide⟩) (j := 1) (by decide) dX8_undo_117 ?_
  exact g_iret_w hr hf dX8_undo_118
def b_X8_undo_39   (x1 : Int32) : Nat → Int32 → Mem → Option (Int32 × Mem)
  | 0, _, _ => none
  | n + 1, x2, M =>
    if (8 : Int32) ≤ x2 then (b_X8_undo_97 x1 M)
    else (ck (x1 + ((2 : Int32) * x2)) 188 <|
    ck (((4 : Int32) + ((4 : Int32) * x2)) + (2 : Int32)) 188 <|
    let M3 := mI M 64 ((((4 : Int32) + ((4 : Int32) * x2)) + (2 : Int32)).toNatClampNeg) (M.1 64 (x1 + ((2 : Int32) * x2)).toNatClampNeg)
    ck ((x1 + ((2 : Int32) * x2)) + (1 : Int32)) 188 <|
    ck (((4 : Int32) + ((4 : Int32) * x2)) + (3 : Int32)) 188 <|
    let M4 := mI M3 64 ((((4 : Int32) + ((4 : Int32) * x2)) + (3 : Int32)).toNatClampNeg) (M3.1 64 ((x1 + ((2 : Int32) * x2)) + (1 : Int32)).toNatClampNeg)
    b_X8_undo_39 x1 n (x2 + (1 : Int32)) M4)
set_option maxHeartbeats 4000000 in
set_option maxRecDepth 100000 in
theorem w_X8_undo_39 {X : Cx} {r : Int32} {M1 : Mem}   {x1 : Int32}   (hr : X.meth.sig.returnType = (some .int)) : ∀ (n : Nat) {x2 : Int32} {M : Mem}, b_X8_undo_39 x1 n x2 M = some (r, M1) → G X (some (.int r), M1) RX8 cX8_undo 3 1 20 39 [some (.ref (X.1.1 63)), some (.int x1), some (.int x2)] [] M := by
  intro n
  induction n with
  | zero => intro x2 M hf; cases hf
  | succ n ih =>
    intro x2 M hf
    rw [b_X8_undo_39.eq_2] at hf
    refine g_iload_n dX8_undo_39 rfl ?_
    refine g_bipush (v := 8) dX8_undo_40 (by decide) ?_
    refine g_icmp_ge (tgt := 97) dX8_undo_42 (by decide) (fun hc => ?_) (fun hc => ?_)
    · have hf := ite_t hc hf
      exact g_weakr (w_X8_undo_97 hr hf) (lsk (lsk (lsd lsz)))
    · have hf := ite_f hc hf
      refine g_aload_n dX8_undo_45 rfl ?_
      refine g_get (kk := 63) (by decide) (cel_63 _ _ _) rfl inX8 fl_X8_7 (by decide) rfl dX8_undo_46 ?_
      refine g_iconst (v := 4) dX8_undo_49 (by decide) ?_
      refine g_iconst (v := 4) dX8_undo_50 (by decide) ?_
      refine g_iload_n dX8_undo_51 rfl ?_
      refine g_imul dX8_undo_52 ?_
      refine g_iadd dX8_undo_53 ?_
      refine g_iconst (v := 2) dX8_undo_54 (by decide) ?_
      refine g_iadd dX8_undo_55 ?_
      refine g_aload_n dX8_undo_56 rfl ?_
      refine g_get (kk := 63) (by decide) (cel_63 _ _ _) rfl inX8 fl_X8_7 (by decide) rfl dX8_undo_57 ?_
      refine g_iload_n dX8_undo_60 rfl ?_
      refine g_iconst (v := 2) dX8_undo_61 (by decide) ?_
      refine g_iload_n dX8_undo_62 rfl ?_
      refine g_imul dX8_undo_63 ?_
      refine g_iadd dX8_undo_64 ?_
      obtain ⟨hi, hf⟩ := ck_s hf
      refine g_iaload (kk := 64) (by decide) (fun f g => cel_64 _ f g) hi rfl dX8_undo_65 ?_
      obtain ⟨hi, hf⟩ := ck_s hf
      refine g_iastore (kk := 64) (by decide) (fun f g => cel_64 _ f g) hi rfl dX8_undo_66 ?_
      refine g_aload_n dX8_undo_67 rfl ?_
      refine g_get (kk := 63) (by decide) (cel_63 _ _ _) rfl inX8 fl_X8_7 (by decide) rfl dX8_undo_68 ?_
      refine g_iconst (v := 4) dX8_undo_71 (by decide) ?_
      refine g_iconst (v := 4) dX8_undo_72 (by decide) ?_
      refine g_iload_n dX8_undo_73 rfl ?_
      refine g_imul dX8_undo_74 ?_
      refine g_iadd dX8_undo_75 ?_
      refine g_iconst (v := 3) dX8_undo_76 (by decide) ?_
      refine g_iadd dX8_undo_77 ?_
      refine g_aload_n dX8_undo_78 rfl ?_
      refine g_get (kk := 63) (by decide) (cel_63 _ _ _) rfl inX8 fl_X8_7 (by decide) rfl dX8_undo_79 ?_
      refine g_iload_n dX8_undo_82 rfl ?_
      refine g_iconst (v := 2) dX8_undo_83 (by decide) ?_
      refine g_iload_n dX8_undo_84 rfl ?_
      refine g_imul dX8_undo_85 ?_
      refine g_iadd dX8_undo_86 ?_
      refine g_iconst (v := 1) dX8_undo_87 (by decide) ?_
      refine g_iadd dX8_undo_88 ?_
      obtain ⟨hi, hf⟩ := ck_s hf
      refine g_iaload (kk := 64) (by decide) (fun f g => cel_64 _ f g) hi rfl dX8_undo_89 ?_
      obtain ⟨hi, hf⟩ := ck_s hf
      refine g_iastore (kk := 64) (by decide) (fun f g => cel_64 _ f g) hi rfl dX8_undo_90 ?_
      refine g_iinc2 (v := (x2 + (1 : Int32))) dX8_undo_91 (by decide) lnl_i rfl ?_
      refine g_goto (tgt := 39) dX8_undo_94 (by decide) ?_
      exact ih hf
def f_X8_undo  (M : Mem) : Option (Int32 × Mem) :=
  if (M.1 64 3) = 0 then ((f_X8_no M).bind fun r5 =>
  some (r5.1, r5.2))
  else (let M1 := mI M 64 3 ((M.1 64 3) - (1 : Int32))
  b_X8_undo_39 ((52 : Int32) + ((17 : Int32) * (M1.1 64 3))) fu (0 : Int32) M1)
set_option maxHeartbeats 4000000 in
set_option maxRecDepth 100000 in
theorem c_X8_undo {l : Launch}  {M : Mem} {r : Int32} {M1 : Mem} (hf : f_X8_undo M = some (r, M1)) : Cn l yX8_undo cX8_undo 3 (some .int) 1 20 (fun E => [.ref (E.1 63)]) M (some (.int r), M1) := by
  unfold f_X8_undo at hf
  refine cn_of RX8 (fun E => [some (.ref (E.1 63)), none, none]) (by decide +kernel) rfl (fun E => Nat.le_of_ble_eq_true rfl) (fun E => rfl) (fun X hr => ?_)
  refine g_aload_n dX8_undo_0 rfl ?_
  refine g_get (kk := 63) (by decide) (cel_63 _ _ _) rfl inX8 fl_X8_7 (by decide) rfl dX8_undo_1 ?_
  refine g_iconst (v := 3) dX8_undo_4 (by decide) ?_
  refine g_iaload (kk := 64) (by decide) (fun f g => cel_64 _ f g) (vp_in_iff.mpr ⟨by decide, by decide⟩) (j := 3) (by decide) dX8_undo_5 ?_
  refine g_if_ne (tgt := 14) dX8_undo_6 (by decide) (fun hc => ?_) (fun hc => ?_)
  · have hf := ite_f hc hf
    refine g_aload_n dX8_undo_14 rfl ?_
    refine g_get (kk := 63) (by decide) (cel_63 _ _ _) rfl inX8 fl_X8_7 (by decide) rfl dX8_undo_15 ?_
    refine g_iconst (v := 3) dX8_undo_18 (by decide) ?_
    refine g_dup2 dX8_undo_19 rfl rfl ?_
    refine g_iaload (kk := 64) (by decide) (fun f g => cel_64 _ f g) (vp_in_iff.mpr ⟨by decide, by decide⟩) (j := 3) (by decide) dX8_undo_20 ?_
    refine g_iconst (v := 1) dX8_undo_21 (by decide) ?_
    refine g_isub dX8_undo_22 ?_
    refine g_iastore (kk := 64) (by decide) (fun f g => cel_64 _ f g) (vp_in_iff.mpr ⟨by decide, by decide⟩) (j := 3) (by decide) dX8_undo_23 ?_
    refine g_bipush (v := 52) dX8_undo_24 (by decide) ?_
    refine g_bipush (v := 17) dX8_undo_26 (by decide) ?_
    refine g_aload_n dX8_undo_28 rfl ?_
    refine g_get (kk := 63) (by decide) (cel_63 _ _ _) rfl inX8 fl_X8_7 (by decide) rfl dX8_undo_29 ?_
    refine g_iconst (v := 3) dX8_undo_32 (by decide) ?_
    refine g_iaload (kk := 64) (by decide) (fun f g => cel_64 _ f g) (vp_in_iff.mpr ⟨by decide, by decide⟩) (j := 3) (by decide) dX8_undo_33 ?_
    refine g_imul dX8_undo_34 ?_
    refine g_iadd dX8_undo_35 ?_
    refine g_ist1 dX8_undo_36 (by decide) lnl_r ?_
    refine g_iconst (v := 0) dX8_undo_37 (by decide) ?_
    refine g_ist2 dX8_undo_38 (by decide) lnl_i ?_
    exact w_X8_undo_39 hr fu hf
  · have hf := ite_t hc hf
    refine g_aload_n dX8_undo_9 rfl ?_
    obtain ⟨r5, hq, hf⟩ := bnd hf
    refine g_cV_0_I (c_X8_no (r := r5.1) (M1 := r5.2) hq) cv_X8_145 (by decide) (cel_63 _ _ _) rfl ⟨by decide, by decide⟩ (Nat.le_of_ble_eq_true rfl) dX8_undo_10 ?_
    exact g_iret_w hr hf dX8_undo_13
-- X8_isRow
def f_X8_isRow (x0 : Int32) : Int32 :=
  (f_X8_in x0.toInt64 (0 : Int64) (3 : Int64))
set_option maxHeartbeats 4000000 in
set_option maxRecDepth 100000 in
theorem c_X8_isRow {l : Launch} {x0 : Int32} {M : Mem} {r : Int32} (hf : f_X8_isRow x0 = r) : Cn l yX8_isRow cX8_isRow 1 (some .boolean) 1 25 (fun E => [.int x0]) M (some (.int r), M) := by
  unfold f_X8_isRow at hf
  refine cn_of RX8 (fun E => [some (.int x0)]) (by decide +kernel) rfl (fun E => Nat.le_of_ble_eq_true rfl) (fun E => rfl) (fun X hr => ?_)
  refine g_iload_n dX8_isRow_0 rfl ?_
  refine g_i2l dX8_isRow_1 ?_
  refine g_lconst (v := 0) dX8_isRow_2 (by decide) ?_
  refine g_ldc2 cl_X8_112 dX8_isRow_3 ?_
  refine g_cS_JJJ_I (c_X8_in rfl) cs_X8_106 ⟨by decide, by decide⟩ (Nat.le_of_ble_eq_true rfl) dX8_isRow_6 ?_
  exact g_zret_t hr (z_X8_in) hf dX8_isRow_9
theorem z_X8_isRow  {x0 : Int32} : f_X8_isRow x0 = 0 ∨ f_X8_isRow x0 = 1 := by
  unfold f_X8_isRow
  first | exact z_X8_in | (repeat' split) <;> first | exact Or.inl rfl | exact Or.inr rfl | exact z_X8_in
-- X8_many
def f_X8_many (x0 : Int64) : Int32 :=
  (x0 >>> ((48 : Int32).toInt64 &&& 63)).toInt32
set_option maxHeartbeats 4000000 in
set_option maxRecDepth 100000 in
theorem c_X8_many {l : Launch} {x0 : Int64} {M : Mem} {r : Int32} (hf : f_X8_many x0 = r) : Cn l yX8_many cX8_many 2 (some .int) 0 0 (fun E => [.long x0]) M (some (.int r), M) := by
  unfold f_X8_many at hf
  refine cn_of RX8 (fun E => [some (.long x0), none]) (by decide +kernel) rfl (fun E => Nat.le_of_ble_eq_true rfl) (fun E => rfl) (fun X hr => ?_)
  refine g_lload_n dX8_many_0 rfl ?_
  refine g_bipush (v := 48) dX8_many_1 (by decide) ?_
  refine g_lshr dX8_many_3 ?_
  refine g_l2i dX8_many_4 ?_
  exact g_iret_t hr hf dX8_many_5
-- X8_behind
def f_X8_behind (x0 : Int64) (x2 : Int32) : Int64 :=
  ((x0 + (281474976710656 : Int64)) + (x2.toInt64 <<< (((4 : Int32) * (f_X8_many x0)).toInt64 &&& 63)))
set_option maxHeartbeats 4000000 in
set_option maxRecDepth 100000 in
theorem c_X8_behind {l : Launch} {x0 : Int64} {x2 : Int32} {M : Mem} {r : Int64} (hf : f_X8_behind x0 x2 = r) : Cn l yX8_behind cX8_behind 3 (some .long) 1 21 (fun E => [.long x0, .int x2]) M (some (.long r), M) := by
  unfold f_X8_behind at hf
  refine cn_of RX8 (fun E => [some (.long x0), none, some (.int x2)]) (by decide +kernel) rfl (fun E => Nat.le_of_ble_eq_true rfl) (fun E => rfl) (fun X hr => ?_)
  refine g_lload_n dX8_behind_0 rfl ?_
  refine g_ldc2 cl_X8_69 dX8_behind_1 ?_
  refine g_ladd dX8_behind_4 ?_
  refine g_iload_n dX8_behind_5 rfl ?_
  refine g_i2l dX8_behind_6 ?_
  refine g_iconst (v := 4) dX8_behind_7 (by decide) ?_
  refine g_lload_n dX8_behind_8 rfl ?_
  refine g_cS_J_I (c_X8_many rfl) cs_X8_71 ⟨by decide, by decide⟩ (Nat.le_of_ble_eq_true rfl) dX8_behind_9 ?_
  refine g_imul dX8_behind_12 ?_
  refine g_lshl dX8_behind_13 ?_
  refine g_ladd dX8_behind_14 ?_
  exact g_lret_t hr hf dX8_behind_15
-- X8_say
def f_X8_say (x1 : Int32) (x2 : Int32) (M : Mem) : Option (Int32 × Mem) :=
  if (f_X8_isRow x1) = 0 then ((f_X8_bad (-2 : Int32) M).bind fun r1 =>
  some (r1.1, r1.2))
  else (if (f_X8_in x2.toInt64 (0 : Int64) (15 : Int64)) = 0 then ((f_X8_bad (-2 : Int32) M).bind fun r4 =>
  some (r4.1, r4.2))
  else (ck x1 20 <|
  if (f_X8_many (M.2 66 x1.toNatClampNeg)) = (12 : Int32) then ((f_X8_full M).bind fun r3 =>
  some (r3.1, r3.2))
  else (ck x1 20 <|
  ck x1 20 <|
  let M2 := mL M 66 (x1.toNatClampNeg) (f_X8_behind (M.2 66 x1.toNatClampNeg) x2)
  ck x1 20 <|
  some ((f_X8_many (M2.2 66 x1.toNatClampNeg)), M2))))
set_option maxHeartbeats 4000000 in
set_option maxRecDepth 100000 in
theorem c_X8_say {l : Launch} {x1 : Int32} {x2 : Int32} {M : Mem} {r : Int32} {M1 : Mem} (hf : f_X8_say x1 x2 M = some (r, M1)) : Cn l yX8_say cX8_say 3 (some .int) 2 45 (fun E => [.ref (E.1 63), .int x1, .int x2]) M (some (.int r), M1) := by
  unfold f_X8_say at hf
  refine cn_of RX8 (fun E => [some (.ref (E.1 63)), some (.int x1), some (.int x2)]) (by decide +kernel) rfl (fun E => Nat.le_of_ble_eq_true rfl) (fun E => rfl) (fun X hr => ?_)
  refine g_iload_n dX8_say_0 rfl ?_
  refine g_cS_I_I (c_X8_isRow rfl) cs_X8_148 ⟨by decide, by decide⟩ (Nat.le_of_ble_eq_true rfl) dX8_say_1 ?_
  refine g_if_eq (tgt := 19) dX8_say_4 (by decide) (fun hc => ?_) (fun hc => ?_)
  · have hf := ite_t hc hf
    refine g_aload_n dX8_say_19 rfl ?_
    refine g_bipush (v := (-2)) dX8_say_20 (by decide) ?_
    obtain ⟨r1, hq, hf⟩ := bnd hf
    refine g_cV_I_I (c_X8_bad (r := r1.1) (M1 := r1.2) hq) cv_X8_116 (by decide) (cel_63 _ _ _) rfl ⟨by decide, by decide⟩ (Nat.le_of_ble_eq_true rfl) dX8_say_22 ?_
    exact g_iret_w hr hf dX8_say_25
  · have hf := ite_f hc hf
    refine g_iload_n dX8_say_7 rfl ?_
    refine g_i2l dX8_say_8 ?_
    refine g_lconst (v := 0) dX8_say_9 (by decide) ?_
    refine g_ldc2 cl_X8_67 dX8_say_10 ?_
    refine g_cS_JJJ_I (c_X8_in rfl) cs_X8_106 ⟨by decide, by decide⟩ (Nat.le_of_ble_eq_true rfl) dX8_say_13 ?_
    refine g_if_ne (tgt := 26) dX8_say_16 (by decide) (fun hc => ?_) (fun hc => ?_)
    · have hf := ite_f hc hf
      refine g_aload_n dX8_say_26 rfl ?_
      refine g_get (kk := 63) (by decide) (cel_63 _ _ _) rfl inX8 fl_X8_16 (by decide) rfl dX8_say_27 ?_
      refine g_iload_n dX8_say_30 rfl ?_
      obtain ⟨hi, hf⟩ := ck_s hf
      refine g_laload (kk := 66) (by decide) (fun f g => cel_66 _ f g) hi rfl dX8_say_31 ?_
      refine g_cS_J_I (c_X8_many rfl) cs_X8_71 ⟨by decide, by decide⟩ (Nat.le_of_ble_eq_true rfl) dX8_say_32 ?_
      refine g_bipush (v := 12) dX8_say_35 (by decide) ?_
      refine g_icmp_ne (tgt := 45) dX8_say_37 (by decide) (fun hc => ?_) (fun hc => ?_)
      · have hf := ite_f hc hf
        refine g_aload_n dX8_say_45 rfl ?_
        refine g_get (kk := 63) (by decide) (cel_63 _ _ _) rfl inX8 fl_X8_16 (by decide) rfl dX8_say_46 ?_
        refine g_iload_n dX8_say_49 rfl ?_
        refine g_aload_n dX8_say_50 rfl ?_
        refine g_get (kk := 63) (by decide) (cel_63 _ _ _) rfl inX8 fl_X8_16 (by decide) rfl dX8_say_51 ?_
        refine g_iload_n dX8_say_54 rfl ?_
        obtain ⟨hi, hf⟩ := ck_s hf
        refine g_laload (kk := 66) (by decide) (fun f g => cel_66 _ f g) hi rfl dX8_say_55 ?_
        refine g_iload_n dX8_say_56 rfl ?_
        refine g_cS_JI_J (c_X8_behind rfl) cs_X8_79 ⟨by decide, by decide⟩ (Nat.le_of_ble_eq_true rfl) dX8_say_57 ?_
        obtain ⟨hi, hf⟩ := ck_s hf
        refine g_lastore (kk := 66) (by decide) (fun f g => cel_66 _ f g) hi rfl dX8_say_60 ?_
        refine g_aload_n dX8_say_61 rfl ?_
        refine g_get (kk := 63) (by decide) (cel_63 _ _ _) rfl inX8 fl_X8_16 (by decide) rfl dX8_say_62 ?_
        refine g_iload_n dX8_say_65 rfl ?_
        obtain ⟨hi, hf⟩ := ck_s hf
        refine g_laload (kk := 66) (by decide) (fun f g => cel_66 _ f g) hi rfl dX8_say_66 ?_
        refine g_cS_J_I (c_X8_many rfl) cs_X8_71 ⟨by decide, by decide⟩ (Nat.le_of_ble_eq_true rfl) dX8_say_67 ?_
        exact g_iret_w hr hf dX8_say_70
      · have hf := ite_t hc hf
        refine g_aload_n dX8_say_40 rfl ?_
        obtain ⟨r3, hq, hf⟩ := bnd hf
        refine g_cV_0_I (c_X8_full (r := r3.1) (M1 := r3.2) hq) cv_X8_128 (by decide) (cel_63 _ _ _) rfl ⟨by decide, by decide⟩ (Nat.le_of_ble_eq_true rfl) dX8_say_41 ?_
        exact g_iret_w hr hf dX8_say_44
    · have hf := ite_t hc hf
      refine g_aload_n dX8_say_19 rfl ?_
      refine g_bipush (v := (-2)) dX8_say_20 (by decide) ?_
      obtain ⟨r4, hq, hf⟩ := bnd hf
      refine g_cV_I_I (c_X8_bad (r := r4.1) (M1 := r4.2) hq) cv_X8_116 (by decide) (cel_63 _ _ _) rfl ⟨by decide, by decide⟩ (Nat.le_of_ble_eq_true rfl) dX8_say_22 ?_
      exact g_iret_w hr hf dX8_say_25
-- X8_hush
def f_X8_hush (x1 : Int32) (M : Mem) : Option (Int32 × Mem) :=
  if (f_X8_isRow x1) = 0 then ((f_X8_bad (-2 : Int32) M).bind fun r2 =>
  some (r2.1, r2.2))
  else (ck x1 20 <|
  ck x1 20 <|
  let M1 := mL M 66 (x1.toNatClampNeg) (0 : Int64)
  some ((f_X8_many (M.2 66 x1.toNatClampNeg)), M1))
set_option maxHeartbeats 4000000 in
set_option maxRecDepth 100000 in
theorem c_X8_hush {l : Launch} {x1 : Int32} {M : Mem} {r : Int32} {M1 : Mem} (hf : f_X8_hush x1 M = some (r, M1)) : Cn l yX8_hush cX8_hush 3 (some .int) 2 45 (fun E => [.ref (E.1 63), .int x1]) M (some (.int r), M1) := by
  unfold f_X8_hush at hf
  refine cn_of RX8 (fun E => [some (.ref (E.1 63)), some (.int x1), none]) (by decide +kernel) rfl (fun E => Nat.le_of_ble_eq_true rfl) (fun E => rfl) (fun X hr => ?_)
  refine g_iload_n dX8_hush_0 rfl ?_
  refine g_cS_I_I (c_X8_isRow rfl) cs_X8_148 ⟨by decide, by decide⟩ (Nat.le_of_ble_eq_true rfl) dX8_hush_1 ?_
  refine g_if_ne (tgt := 14) dX8_hush_4 (by decide) (fun hc => ?_) (fun hc => ?_)
  · have hf := ite_f hc hf
    refine g_aload_n dX8_hush_14 rfl ?_
    refine g_get (kk := 63) (by decide) (cel_63 _ _ _) rfl inX8 fl_X8_16 (by decide) rfl dX8_hush_15 ?_
    refine g_iload_n dX8_hush_18 rfl ?_
    obtain ⟨hi, hf⟩ := ck_s hf
    refine g_laload (kk := 66) (by decide) (fun f g => cel_66 _ f g) hi rfl dX8_hush_19 ?_
    refine g_cS_J_I (c_X8_many rfl) cs_X8_71 ⟨by decide, by decide⟩ (Nat.le_of_ble_eq_true rfl) dX8_hush_20 ?_
    refine g_ist2 dX8_hush_23 (by decide) lnl_i ?_
    refine g_aload_n dX8_hush_24 rfl ?_
    refine g_get (kk := 63) (by decide) (cel_63 _ _ _) rfl inX8 fl_X8_16 (by decide) rfl dX8_hush_25 ?_
    refine g_iload_n dX8_hush_28 rfl ?_
    refine g_lconst (v := 0) dX8_hush_29 (by decide) ?_
    obtain ⟨hi, hf⟩ := ck_s hf
    refine g_lastore (kk := 66) (by decide) (fun f g => cel_66 _ f g) hi rfl dX8_hush_30 ?_
    refine g_iload_n dX8_hush_31 rfl ?_
    exact g_iret_w hr hf dX8_hush_32
  · have hf := ite_t hc hf
    refine g_aload_n dX8_hush_7 rfl ?_
    refine g_bipush (v := (-2)) dX8_hush_8 (by decide) ?_
    obtain ⟨r2, hq, hf⟩ := bnd hf
    refine g_cV_I_I (c_X8_bad (r := r2.1) (M1 := r2.2) hq) cv_X8_116 (by decide) (cel_63 _ _ _) rfl ⟨by decide, by decide⟩ (Nat.le_of_ble_eq_true rfl) dX8_hush_10 ?_
    exact g_iret_w hr hf dX8_hush_13
-- X8_type
def f_X8_type (x1 : Int32) (M : Mem) : Option (Int32 × Mem) :=
  if (f_X8_in x1.toInt64 (0 : Int64) (127 : Int64)) = 0 then ((f_X8_bad (-2 : Int32) M).bind fun r4 =>
  some (r4.1, r4.2))
  else (if (M.1 63 20) = (150 : Int32) then ((f_X8_full M).bind fun r3 =>
  some (r3.1, r3.2))
  else (ck (M.1 63 20) 150 <|
  let M1 := mI M 77 ((M.1 63 20).toNatClampNeg) x1
  let M2 := mI M1 63 20 ((M1.1 63 20) + (1 : Int32))
  some ((M2.1 63 20), M2)))
set_option maxHeartbeats 4000000 in
set_option maxRecDepth 100000 in
theorem c_X8_type {l : Launch} {x1 : Int32} {M : Mem} {r : Int32} {M1 : Mem} (hf : f_X8_type x1 M = some (r, M1)) : Cn l yX8_type cX8_type 2 (some .int) 1 25 (fun E => [.ref (E.1 63), .int x1]) M (some (.int r), M1) := by
  unfold f_X8_type at hf
  refine cn_of RX8 (fun E => [some (.ref (E.1 63)), some (.int x1)]) (by decide +kernel) rfl (fun E => Nat.le_of_ble_eq_true rfl) (fun E => rfl) (fun X hr => ?_)
  refine g_iload_n dX8_type_0 rfl ?_
  refine g_i2l dX8_type_1 ?_
  refine g_lconst (v := 0) dX8_type_2 (by decide) ?_
  refine g_ldc2 cl_X8_251 dX8_type_3 ?_
  refine g_cS_JJJ_I (c_X8_in rfl) cs_X8_106 ⟨by decide, by decide⟩ (Nat.le_of_ble_eq_true rfl) dX8_type_6 ?_
  refine g_if_ne (tgt := 19) dX8_type_9 (by decide) (fun hc => ?_) (fun hc => ?_)
  · have hf := ite_f hc hf
    refine g_aload_n dX8_type_19 rfl ?_
    refine g_get (kk := 63) (by decide) (cel_63 _ _ _) rfl inX8 fl_X8_253 (by decide) rfl dX8_type_20 ?_
    refine g_sipush (v := 150) dX8_type_23 (by decide) ?_
    refine g_icmp_ne (tgt := 34) dX8_type_26 (by decide) (fun hc => ?_) (fun hc => ?_)
    · have hf := ite_f hc hf
      refine g_aload_n dX8_type_34 rfl ?_
      refine g_get (kk := 63) (by decide) (cel_63 _ _ _) rfl inX8 fl_X8_55 (by decide) rfl dX8_type_35 ?_
      refine g_aload_n dX8_type_38 rfl ?_
      refine g_get (kk := 63) (by decide) (cel_63 _ _ _) rfl inX8 fl_X8_253 (by decide) rfl dX8_type_39 ?_
      refine g_iload_n dX8_type_42 rfl ?_
      obtain ⟨hi, hf⟩ := ck_s hf
      refine g_iastore (kk := 77) (by decide) (fun f g => cel_77 _ f g) hi rfl dX8_type_43 ?_
      refine g_aload_n dX8_type_44 rfl ?_
      refine g_dup dX8_type_45 rfl ?_
      refine g_get (kk := 63) (by decide) (cel_63 _ _ _) rfl inX8 fl_X8_253 (by decide) rfl dX8_type_46 ?_
      refine g_iconst (v := 1) dX8_type_49 (by decide) ?_
      refine g_iadd dX8_type_50 ?_
      refine g_putI (kk := 63) (by decide) (cel_63 _ _ _) (pI_63_20 _ _ _ _) rfl inX8 tyX8_ok nmX8 fl_X8_253 (by decide) (Nat.le_of_ble_eq_true rfl) rfl (by decide +kernel) dX8_type_51 ?_
      refine g_aload_n dX8_type_54 rfl ?_
      refine g_get (kk := 63) (by decide) (cel_63 _ _ _) rfl inX8 fl_X8_253 (by decide) rfl dX8_type_55 ?_
      exact g_iret_w hr hf dX8_type_58
    · have hf := ite_t hc hf
      refine g_aload_n dX8_type_29 rfl ?_
      obtain ⟨r3, hq, hf⟩ := bnd hf
      refine g_cV_0_I (c_X8_full (r := r3.1) (M1 := r3.2) hq) cv_X8_128 (by decide) (cel_63 _ _ _) rfl ⟨by decide, by decide⟩ (Nat.le_of_ble_eq_true rfl) dX8_type_30 ?_
      exact g_iret_w hr hf dX8_type_33
  · have hf := ite_t hc hf
    refine g_aload_n dX8_type_12 rfl ?_
    refine g_bipush (v := (-2)) dX8_type_13 (by decide) ?_
    obtain ⟨r4, hq, hf⟩ := bnd hf
    refine g_cV_I_I (c_X8_bad (r := r4.1) (M1 := r4.2) hq) cv_X8_116 (by decide) (cel_63 _ _ _) rfl ⟨by decide, by decide⟩ (Nat.le_of_ble_eq_true rfl) dX8_type_15 ?_
    exact g_iret_w hr hf dX8_type_18
-- X8_clear
def f_X8_clear  (M : Mem) : Option (Int32 × Mem) :=
  let M1 := mI M 63 20 (0 : Int32)
  some ((M.1 63 20), M1)
set_option maxHeartbeats 4000000 in
set_option maxRecDepth 100000 in
theorem c_X8_clear {l : Launch}  {M : Mem} {r : Int32} {M1 : Mem} (hf : f_X8_clear M = some (r, M1)) : Cn l yX8_clear cX8_clear 2 (some .int) 0 0 (fun E => [.ref (E.1 63)]) M (some (.int r), M1) := by
  unfold f_X8_clear at hf
  refine cn_of RX8 (fun E => [some (.ref (E.1 63)), none]) (by decide +kernel) rfl (fun E => Nat.le_of_ble_eq_true rfl) (fun E => rfl) (fun X hr => ?_)
  refine g_aload_n dX8_clear_0 rfl ?_
  refine g_get (kk := 63) (by decide) (cel_63 _ _ _) rfl inX8 fl_X8_253 (by decide) rfl dX8_clear_1 ?_
  refine g_ist1 dX8_clear_4 (by decide) lnl_r ?_
  refine g_aload_n dX8_clear_5 rfl ?_
  refine g_iconst (v := 0) dX8_clear_6 (by decide) ?_
  refine g_putI (kk := 63) (by decide) (cel_63 _ _ _) (pI_63_20 _ _ _ _) rfl inX8 tyX8_ok nmX8 fl_X8_253 (by decide) (Nat.le_of_ble_eq_true rfl) rfl (by decide +kernel) dX8_clear_7 ?_
  refine g_iload_n dX8_clear_10 rfl ?_
  exact g_iret_w hr hf dX8_clear_11
-- X8_isSmall
def f_X8_isSmall (x0 : Int32) : Int32 :=
  (f_X8_in x0.toInt64 (97 : Int64) (122 : Int64))
set_option maxHeartbeats 4000000 in
set_option maxRecDepth 100000 in
theorem c_X8_isSmall {l : Launch} {x0 : Int32} {M : Mem} {r : Int32} (hf : f_X8_isSmall x0 = r) : Cn l yX8_isSmall cX8_isSmall 1 (some .boolean) 1 25 (fun E => [.int x0]) M (some (.int r), M) := by
  unfold f_X8_isSmall at hf
  refine cn_of RX8 (fun E => [some (.int x0)]) (by decide +kernel) rfl (fun E => Nat.le_of_ble_eq_true rfl) (fun E => rfl) (fun X hr => ?_)
  refine g_iload_n dX8_isSmall_0 rfl ?_
  refine g_i2l dX8_isSmall_1 ?_
  refine g_ldc2 cl_X8_256 dX8_isSmall_2 ?_
  refine g_ldc2 cl_X8_258 dX8_isSmall_5 ?_
  refine g_cS_JJJ_I (c_X8_in rfl) cs_X8_106 ⟨by decide, by decide⟩ (Nat.le_of_ble_eq_true rfl) dX8_isSmall_8 ?_
  exact g_zret_t hr (z_X8_in) hf dX8_isSmall_11
theorem z_X8_isSmall  {x0 : Int32} : f_X8_isSmall x0 = 0 ∨ f_X8_isSmall x0 = 1 := by
  unfold f_X8_isSmall
  first | exact z_X8_in | (repeat' split) <;> first | exact Or.inl rfl | exact Or.inr rfl | exact z_X8_in
-- X8_isFigure
def f_X8_isFigure (x0 : Int32) : Int32 :=
  (f_X8_in x0.toInt64 (48 : Int64) (57 : Int64))
set_option maxHeartbeats 4000000 in
set_option maxRecDepth 100000 in
theorem c_X8_isFigure {l : Launch} {x0 : Int32} {M : Mem} {r : Int32} (hf : f_X8_isFigure x0 = r) : Cn l yX8_isFigure cX8_isFigure 1 (some .boolean) 1 25 (fun E => [.int x0]) M (some (.int r), M) := by
  unfold f_X8_isFigure at hf
  refine cn_of RX8 (fun E => [some (.int x0)]) (by decide +kernel) rfl (fun E => Nat.le_of_ble_eq_true rfl) (fun E => rfl) (fun X hr => ?_)
  refine g_iload_n dX8_isFigure_0 rfl ?_
  refine g_i2l dX8_isFigure_1 ?_
  refine g_ldc2 cl_X8_260 dX8_isFigure_2 ?_
  refine g_ldc2 cl_X8_262 dX8_isFigure_5 ?_
  refine g_cS_JJJ_I (c_X8_in rfl) cs_X8_106 ⟨by decide, by decide⟩ (Nat.le_of_ble_eq_true rfl) dX8_isFigure_8 ?_
  exact g_zret_t hr (z_X8_in) hf dX8_isFigure_11
theorem z_X8_isFigure  {x0 : Int32} : f_X8_isFigure x0 = 0 ∨ f_X8_isFigure x0 = 1 := by
  unfold f_X8_isFigure
  first | exact z_X8_in | (repeat' split) <;> first | exact Or.inl rfl | exact Or.inr rfl | exact z_X8_in
-- X8_lookAt
def b_X8_lookAt_274    (M : Mem) : Option Mem :=
  if (M.1 63 23) = (2 : Int32) then (if (M.1 63 22) ≤ (2 : Int32) then (let M8 := mI M 63 23 (M.1 63 23)
  some M8)
  else (let M9 := mI M 63 23 (4 : Int32)
  some M9))
  else (let M7 := mI M 63 23 (M.1 63 23)
  some M7)
set_option maxHeartbeats 4000000 in
set_option maxRecDepth 100000 in
theorem w_X8_lookAt_274 {X : Cx} {M1 : Mem}       {M : Mem} (hr : X.meth.sig.returnType = none) (hf : b_X8_lookAt_274 M = some M1) : G X (none, M1) RX8 cX8_lookAt 5 2 45 274 [some (.ref (X.1.1 63)), none, none, none, none] [] M := by
  unfold b_X8_lookAt_274 at hf
  refine g_aload_n dX8_lookAt_274 rfl ?_
  refine g_aload_n dX8_lookAt_275 rfl ?_
  refine g_get (kk := 63) (by decide) (cel_63 _ _ _) rfl inX8 fl_X8_270 (by decide) rfl dX8_lookAt_276 ?_
  refine g_iconst (v := 2) dX8_lookAt_279 (by decide) ?_
  refine g_icmp_ne (tgt := 295) dX8_lookAt_280 (by decide) (fun hc => ?_) (fun hc => ?_)
  · have hf := ite_f hc hf
    refine g_aload_n dX8_lookAt_295 rfl ?_
    refine g_get (kk := 63) (by decide) (cel_63 _ _ _) rfl inX8 fl_X8_270 (by decide) rfl dX8_lookAt_296 ?_
    refine g_putI (kk := 63) (by decide) (cel_63 _ _ _) (pI_63_23 _ _ _ _) rfl inX8 tyX8_ok nmX8 fl_X8_270 (by decide) (Nat.le_of_ble_eq_true rfl) rfl (by decide +kernel) dX8_lookAt_299 ?_
    exact g_vret_w hr hf dX8_lookAt_302
  · have hf := ite_t hc hf
    refine g_aload_n dX8_lookAt_283 rfl ?_
    refine g_get (kk := 63) (by decide) (cel_63 _ _ _) rfl inX8 fl_X8_267 (by decide) rfl dX8_lookAt_284 ?_
    refine g_iconst (v := 2) dX8_lookAt_287 (by decide) ?_
    refine g_icmp_le (tgt := 295) dX8_lookAt_288 (by decide) (fun hc => ?_) (fun hc => ?_)
    · have hf := ite_t hc hf
      refine g_aload_n dX8_lookAt_295 rfl ?_
      refine g_get (kk := 63) (by decide) (cel_63 _ _ _) rfl inX8 fl_X8_270 (by decide) rfl dX8_lookAt_296 ?_
      refine g_putI (kk := 63) (by decide) (cel_63 _ _ _) (pI_63_23 _ _ _ _) rfl inX8 tyX8_ok nmX8 fl_X8_270 (by decide) (Nat.le_of_ble_eq_true rfl) rfl (by decide +kernel) dX8_lookAt_299 ?_
      exact g_vret_w hr hf dX8_lookAt_302
    · have hf := ite_f hc hf
      refine g_iconst (v := 4) dX8_lookAt_291 (by decide) ?_
      refine g_goto (tgt := 299) dX8_lookAt_292 (by decide) ?_
      refine g_putI (kk := 63) (by decide) (cel_63 _ _ _) (pI_63_23 _ _ _ _) rfl inX8 tyX8_ok nmX8 fl_X8_270 (by decide) (Nat.le_of_ble_eq_true rfl) rfl (by decide +kernel) dX8_lookAt_299 ?_
      exact g_vret_w hr hf dX8_lookAt_302
def b_X8_lookAt_218    : Nat → Int32 → Mem → Option Mem
  | 0, _, _ => none
  | n + 1, x4, M =>
    if (M.1 63 22) ≤ x4 then (b_X8_lookAt_274 M)
    else (if (2 : Int32) ≤ x4 then (b_X8_lookAt_274 M)
    else (if (M.1 63 23) = (2 : Int32) then (ck ((M.1 63 21) + x4) 150 <|
    let M10 := mI M 63 24 ((((10 : Int32) * (M.1 63 24)) + (M.1 77 ((M.1 63 21) + x4).toNatClampNeg)) - (48 : Int32))
    b_X8_lookAt_218 n (x4 + (1 : Int32)) M10)
    else (b_X8_lookAt_274 M)))
set_option maxHeartbeats 4000000 in
set_option maxRecDepth 100000 in
theorem w_X8_lookAt_218 {X : Cx} {M1 : Mem}      (hr : X.meth.sig.returnType = none) : ∀ (n : Nat) {x4 : Int32} {M : Mem}, b_X8_lookAt_218  n x4 M = some M1 → G X (none, M1) RX8 cX8_lookAt 5 2 45 218 [some (.ref (X.1.1 63)), none, none, none, some (.int x4)] [] M := by
  intro n
  induction n with
  | zero => intro x4 M hf; cases hf
  | succ n ih =>
    intro x4 M hf
    rw [b_X8_lookAt_218.eq_2] at hf
    refine g_iload dX8_lookAt_218 rfl ?_
    refine g_aload_n dX8_lookAt_220 rfl ?_
    refine g_get (kk := 63) (by decide) (cel_63 _ _ _) rfl inX8 fl_X8_267 (by decide) rfl dX8_lookAt_221 ?_
    refine g_icmp_ge (tgt := 274) dX8_lookAt_224 (by decide) (fun hc => ?_) (fun hc => ?_)
    · have hf := ite_t hc hf
      exact g_weakr (w_X8_lookAt_274 hr hf) (lsk (lsd (lsd (lsd (lsd lsz)))))
    · have hf := ite_f hc hf
      refine g_iload dX8_lookAt_227 rfl ?_
      refine g_iconst (v := 2) dX8_lookAt_229 (by decide) ?_
      refine g_icmp_ge (tgt := 274) dX8_lookAt_230 (by decide) (fun hc => ?_) (fun hc => ?_)
      · have hf := ite_t hc hf
        exact g_weakr (w_X8_lookAt_274 hr hf) (lsk (lsd (lsd (lsd (lsd lsz)))))
      · have hf := ite_f hc hf
        refine g_aload_n dX8_lookAt_233 rfl ?_
        refine g_get (kk := 63) (by decide) (cel_63 _ _ _) rfl inX8 fl_X8_270 (by decide) rfl dX8_lookAt_234 ?_
        refine g_iconst (v := 2) dX8_lookAt_237 (by decide) ?_
        refine g_icmp_ne (tgt := 274) dX8_lookAt_238 (by decide) (fun hc => ?_) (fun hc => ?_)
        · have hf := ite_f hc hf
          exact g_weakr (w_X8_lookAt_274 hr hf) (lsk (lsd (lsd (lsd (lsd lsz)))))
        · have hf := ite_t hc hf
          refine g_aload_n dX8_lookAt_241 rfl ?_
          refine g_bipush (v := 10) dX8_lookAt_242 (by decide) ?_
          refine g_aload_n dX8_lookAt_244 rfl ?_
          refine g_get (kk := 63) (by decide) (cel_63 _ _ _) rfl inX8 fl_X8_273 (by decide) rfl dX8_lookAt_245 ?_
          refine g_imul dX8_lookAt_248 ?_
          refine g_aload_n dX8_lookAt_249 rfl ?_
          refine g_get (kk := 63) (by decide) (cel_63 _ _ _) rfl inX8 fl_X8_55 (by decide) rfl dX8_lookAt_250 ?_
          refine g_aload_n dX8_lookAt_253 rfl ?_
          refine g_get (kk := 63) (by decide) (cel_63 _ _ _) rfl inX8 fl_X8_264 (by decide) rfl dX8_lookAt_254 ?_
          refine g_iload dX8_lookAt_257 rfl ?_
          refine g_iadd dX8_lookAt_259 ?_
          obtain ⟨hi, hf⟩ := ck_s hf
          refine g_iaload (kk := 77) (by decide) (fun f g => cel_77 _ f g) hi rfl dX8_lookAt_260 ?_
          refine g_iadd dX8_lookAt_261 ?_
          refine g_bipush (v := 48) dX8_lookAt_262 (by decide) ?_
          refine g_isub dX8_lookAt_264 ?_
          refine g_putI (kk := 63) (by decide) (cel_63 _ _ _) (pI_63_24 _ _ _ _) rfl inX8 tyX8_ok nmX8 fl_X8_273 (by decide) (Nat.le_of_ble_eq_true rfl) rfl (by decide +kernel) dX8_lookAt_265 ?_
          refine g_iinc4 (v := (x4 + (1 : Int32))) dX8_lookAt_268 (by decide) lnl_n rfl ?_
          refine g_goto (tgt := 218) dX8_lookAt_271 (by decide) ?_
          exact ih hf
def b_X8_lookAt_215    (M : Mem) : Option Mem :=
  b_X8_lookAt_218 fu (0 : Int32) M
set_option maxHeartbeats 4000000 in
set_option maxRecDepth 100000 in
theorem w_X8_lookAt_215 {X : Cx} {M1 : Mem}       {M : Mem} (hr : X.meth.sig.returnType = none) (hf : b_X8_lookAt_215 M = some M1) : G X (none, M1) RX8 cX8_lookAt 5 2 45 215 [some (.ref (X.1.1 63)), none, none, none, none] [] M := by
  unfold b_X8_lookAt_215 at hf
  refine g_iconst (v := 0) dX8_lookAt_215 (by decide) ?_
  refine g_ist4 dX8_lookAt_216 (by decide) lnl_n ?_
  exact w_X8_lookAt_218 hr fu hf
def b_X8_lookAt_208 (k136 : Int32 → Mem → Option Mem)  (x3 : Int32) (t0 : Int32) (t1 : Int32) (M : Mem) : Option Mem :=
  let M11 := mI M 63 22 (t1 + t0)
  k136 x3 M11
set_option maxHeartbeats 4000000 in
set_option maxRecDepth 100000 in
theorem w_X8_lookAt_208 {X : Cx} {M1 : Mem}  {k136 : Int32 → Mem → Option Mem}    {x3 : Int32} {t0 : Int32} {t1 : Int32} {M : Mem} (hr : X.meth.sig.returnType = none) (hk136 : ∀ {x3_ : Int32} {M_ : Mem}, k136 x3_ M_ = some M1 → G X (none, M1) RX8 cX8_lookAt 5 2 45 136 [some (.ref (X.1.1 63)), none, none, some (.int x3_), none] [] M_) (hf : b_X8_lookAt_208 k136 x3 t0 t1 M = some M1) : G X (none, M1) RX8 cX8_lookAt 5 2 45 208 [some (.ref (X.1.1 63)), none, none, some (.int x3), none] [.int t0, .int t1, .ref (X.1.1 63)] M := by
  unfold b_X8_lookAt_208 at hf
  refine g_iadd dX8_lookAt_208 ?_
  refine g_putI (kk := 63) (by decide) (cel_63 _ _ _) (pI_63_22 _ _ _ _) rfl inX8 tyX8_ok nmX8 fl_X8_267 (by decide) (Nat.le_of_ble_eq_true rfl) rfl (by decide +kernel) dX8_lookAt_209 ?_
  refine g_goto (tgt := 136) dX8_lookAt_212 (by decide) ?_
  exact hk136 hf
def b_X8_lookAt_193 (k136 : Int32 → Mem → Option Mem)  (t0 : Int32) (M : Mem) : Option Mem :=
  if t0 = 0 then (b_X8_lookAt_208 k136 t0 (0 : Int32) (M.1 63 22) M)
  else (b_X8_lookAt_208 k136 t0 (1 : Int32) (M.1 63 22) M)
set_option maxHeartbeats 4000000 in
set_option maxRecDepth 100000 in
theorem w_X8_lookAt_193 {X : Cx} {M1 : Mem}  {k136 : Int32 → Mem → Option Mem}    {t0 : Int32} {M : Mem} (hr : X.meth.sig.returnType = none) (hk136 : ∀ {x3_ : Int32} {M_ : Mem}, k136 x3_ M_ = some M1 → G X (none, M1) RX8 cX8_lookAt 5 2 45 136 [some (.ref (X.1.1 63)), none, none, some (.int x3_), none] [] M_) (hf : b_X8_lookAt_193 k136 t0 M = some M1) : G X (none, M1) RX8 cX8_lookAt 5 2 45 193 [some (.ref (X.1.1 63)), none, none, none, none] [.int t0] M := by
  unfold b_X8_lookAt_193 at hf
  refine g_ist3 dX8_lookAt_193 (by decide) lnl_n ?_
  refine g_aload_n dX8_lookAt_194 rfl ?_
  refine g_dup dX8_lookAt_195 rfl ?_
  refine g_get (kk := 63) (by decide) (cel_63 _ _ _) rfl inX8 fl_X8_267 (by decide) rfl dX8_lookAt_196 ?_
  refine g_iload_n dX8_lookAt_199 rfl ?_
  refine g_if_eq (tgt := 207) dX8_lookAt_200 (by decide) (fun hc => ?_) (fun hc => ?_)
  · have hf := ite_t hc hf
    refine g_iconst (v := 0) dX8_lookAt_207 (by decide) ?_
    exact w_X8_lookAt_208 hr hk136 hf
  · have hf := ite_f hc hf
    refine g_iconst (v := 1) dX8_lookAt_203 (by decide) ?_
    refine g_goto (tgt := 208) dX8_lookAt_204 (by decide) ?_
    exact w_X8_lookAt_208 hr hk136 hf
def b_X8_lookAt_136    : Nat → Int32 → Mem → Option Mem
  | 0, _, _ => none
  | n + 1, x3, M =>
    if x3 = 0 then (b_X8_lookAt_215 M)
    else (if (M.1 63 20) ≤ ((M.1 63 21) + (M.1 63 22)) then (b_X8_lookAt_215 M)
    else (ck ((M.1 63 21) + (M.1 63 22)) 150 <|
    if (M.1 63 23) = (1 : Int32) then (b_X8_lookAt_193 (fun x3_ M_ => b_X8_lookAt_136 n x3_ M_) (f_X8_isSmall (M.1 77 ((M.1 63 21) + (M.1 63 22)).toNatClampNeg)) M)
    else (b_X8_lookAt_193 (fun x3_ M_ => b_X8_lookAt_136 n x3_ M_) (f_X8_isFigure (M.1 77 ((M.1 63 21) + (M.1 63 22)).toNatClampNeg)) M)))
set_option maxHeartbeats 4000000 in
set_option maxRecDepth 100000 in
theorem w_X8_lookAt_136 {X : Cx} {M1 : Mem}      (hr : X.meth.sig.returnType = none) : ∀ (n : Nat) {x3 : Int32} {M : Mem}, b_X8_lookAt_136  n x3 M = some M1 → G X (none, M1) RX8 cX8_lookAt 5 2 45 136 [some (.ref (X.1.1 63)), none, none, some (.int x3), none] [] M := by
  intro n
  induction n with
  | zero => intro x3 M hf; cases hf
  | succ n ih =>
    intro x3 M hf
    rw [b_X8_lookAt_136.eq_2] at hf
    refine g_iload_n dX8_lookAt_136 rfl ?_
    refine g_if_eq (tgt := 215) dX8_lookAt_137 (by decide) (fun hc => ?_) (fun hc => ?_)
    · have hf := ite_t hc hf
      exact g_weakr (w_X8_lookAt_215 hr hf) (lsk (lsd (lsd (lsd (lsd lsz)))))
    · have hf := ite_f hc hf
      refine g_aload_n dX8_lookAt_140 rfl ?_
      refine g_get (kk := 63) (by decide) (cel_63 _ _ _) rfl inX8 fl_X8_264 (by decide) rfl dX8_lookAt_141 ?_
      refine g_aload_n dX8_lookAt_144 rfl ?_
      refine g_get (kk := 63) (by decide) (cel_63 _ _ _) rfl inX8 fl_X8_267 (by decide) rfl dX8_lookAt_145 ?_
      refine g_iadd dX8_lookAt_148 ?_
      refine g_aload_n dX8_lookAt_149 rfl ?_
      refine g_get (kk := 63) (by decide) (cel_63 _ _ _) rfl inX8 fl_X8_253 (by decide) rfl dX8_lookAt_150 ?_
      refine g_icmp_ge (tgt := 215) dX8_lookAt_153 (by decide) (fun hc => ?_) (fun hc => ?_)
      · have hf := ite_t hc hf
        exact g_weakr (w_X8_lookAt_215 hr hf) (lsk (lsd (lsd (lsd (lsd lsz)))))
      · have hf := ite_f hc hf
        refine g_aload_n dX8_lookAt_156 rfl ?_
        refine g_get (kk := 63) (by decide) (cel_63 _ _ _) rfl inX8 fl_X8_55 (by decide) rfl dX8_lookAt_157 ?_
        refine g_aload_n dX8_lookAt_160 rfl ?_
        refine g_get (kk := 63) (by decide) (cel_63 _ _ _) rfl inX8 fl_X8_264 (by decide) rfl dX8_lookAt_161 ?_
        refine g_aload_n dX8_lookAt_164 rfl ?_
        refine g_get (kk := 63) (by decide) (cel_63 _ _ _) rfl inX8 fl_X8_267 (by decide) rfl dX8_lookAt_165 ?_
        refine g_iadd dX8_lookAt_168 ?_
        obtain ⟨hi, hf⟩ := ck_s hf
        refine g_iaload (kk := 77) (by decide) (fun f g => cel_77 _ f g) hi rfl dX8_lookAt_169 ?_
        refine g_ist4 dX8_lookAt_170 (by decide) lnl_i ?_
        refine g_aload_n dX8_lookAt_172 rfl ?_
        refine g_get (kk := 63) (by decide) (cel_63 _ _ _) rfl inX8 fl_X8_270 (by decide) rfl dX8_lookAt_173 ?_
        refine g_iconst (v := 1) dX8_lookAt_176 (by decide) ?_
        refine g_icmp_ne (tgt := 188) dX8_lookAt_177 (by decide) (fun hc => ?_) (fun hc => ?_)
        · have hf := ite_f hc hf
          refine g_iload dX8_lookAt_188 rfl ?_
          refine g_cS_I_I (c_X8_isFigure rfl) cs_X8_279 ⟨by decide, by decide⟩ (Nat.le_of_ble_eq_true rfl) dX8_lookAt_190 ?_
          exact g_weakr (w_X8_lookAt_193 hr (fun hf => ih hf) hf) (lsk (lsd (lsd (lsd (lsd lsz)))))
        · have hf := ite_t hc hf
          refine g_iload dX8_lookAt_180 rfl ?_
          refine g_cS_I_I (c_X8_isSmall rfl) cs_X8_276 ⟨by decide, by decide⟩ (Nat.le_of_ble_eq_true rfl) dX8_lookAt_182 ?_
          refine g_goto (tgt := 193) dX8_lookAt_185 (by decide) ?_
          exact g_weakr (w_X8_lookAt_193 hr (fun hf => ih hf) hf) (lsk (lsd (lsd (lsd (lsd lsz)))))
def b_X8_lookAt_135   (t0 : Int32) (M : Mem) : Option Mem :=
  b_X8_lookAt_136 fu t0 M
set_option maxHeartbeats 4000000 in
set_option maxRecDepth 100000 in
theorem w_X8_lookAt_135 {X : Cx} {M1 : Mem}      {t0 : Int32} {M : Mem} (hr : X.meth.sig.returnType = none) (hf : b_X8_lookAt_135 t0 M = some M1) : G X (none, M1) RX8 cX8_lookAt 5 2 45 135 [some (.ref (X.1.1 63)), none, none, none, none] [.int t0] M := by
  unfold b_X8_lookAt_135 at hf
  refine g_ist3 dX8_lookAt_135 (by decide) lnl_n ?_
  exact w_X8_lookAt_136 hr fu hf
def b_X8_lookAt_114   (t0 : Int32) (M : Mem) : Option Mem :=
  let M5 := mI M 63 23 t0
  let M6 := mI M5 63 22 (1 : Int32)
  if (3 : Int32) ≤ (M6.1 63 23) then (b_X8_lookAt_135 (0 : Int32) M6)
  else (b_X8_lookAt_135 (1 : Int32) M6)
set_option maxHeartbeats 4000000 in
set_option maxRecDepth 100000 in
theorem w_X8_lookAt_114 {X : Cx} {M1 : Mem}      {t0 : Int32} {M : Mem} (hr : X.meth.sig.returnType = none) (hf : b_X8_lookAt_114 t0 M = some M1) : G X (none, M1) RX8 cX8_lookAt 5 2 45 114 [some (.ref (X.1.1 63)), none, none, none, none] [.int t0, .ref (X.1.1 63)] M := by
  unfold b_X8_lookAt_114 at hf
  refine g_putI (kk := 63) (by decide) (cel_63 _ _ _) (pI_63_23 _ _ _ _) rfl inX8 tyX8_ok nmX8 fl_X8_270 (by decide) (Nat.le_of_ble_eq_true rfl) rfl (by decide +kernel) dX8_lookAt_114 ?_
  refine g_aload_n dX8_lookAt_117 rfl ?_
  refine g_iconst (v := 1) dX8_lookAt_118 (by decide) ?_
  refine g_putI (kk := 63) (by decide) (cel_63 _ _ _) (pI_63_22 _ _ _ _) rfl inX8 tyX8_ok nmX8 fl_X8_267 (by decide) (Nat.le_of_ble_eq_true rfl) rfl (by decide +kernel) dX8_lookAt_119 ?_
  refine g_aload_n dX8_lookAt_122 rfl ?_
  refine g_get (kk := 63) (by decide) (cel_63 _ _ _) rfl inX8 fl_X8_270 (by decide) rfl dX8_lookAt_123 ?_
  refine g_iconst (v := 3) dX8_lookAt_126 (by decide) ?_
  refine g_icmp_ge (tgt := 134) dX8_lookAt_127 (by decide) (fun hc => ?_) (fun hc => ?_)
  · have hf := ite_t hc hf
    refine g_iconst (v := 0) dX8_lookAt_134 (by decide) ?_
    exact w_X8_lookAt_135 hr hf
  · have hf := ite_f hc hf
    refine g_iconst (v := 1) dX8_lookAt_130 (by decide) ?_
    refine g_goto (tgt := 135) dX8_lookAt_131 (by decide) ?_
    exact w_X8_lookAt_135 hr hf
def b_X8_lookAt_43    (M : Mem) : Option Mem :=
  let M2 := mI M 63 22 (0 : Int32)
  let M3 := mI M2 63 23 (0 : Int32)
  let M4 := mI M3 63 24 (0 : Int32)
  if (M4.1 63 21) = (M4.1 63 20) then (some M4)
  else (ck (M4.1 63 21) 150 <|
  if (f_X8_isSmall (M4.1 77 (M4.1 63 21).toNatClampNeg)) = 0 then (if (f_X8_isFigure (M4.1 77 (M4.1 63 21).toNatClampNeg)) = 0 then (if (M4.1 77 (M4.1 63 21).toNatClampNeg) = (59 : Int32) then (b_X8_lookAt_114 (3 : Int32) M4)
  else (b_X8_lookAt_114 (4 : Int32) M4))
  else (b_X8_lookAt_114 (2 : Int32) M4))
  else (b_X8_lookAt_114 (1 : Int32) M4))
set_option maxHeartbeats 4000000 in
set_option maxRecDepth 100000 in
theorem w_X8_lookAt_43 {X : Cx} {M1 : Mem}       {M : Mem} (hr : X.meth.sig.returnType = none) (hf : b_X8_lookAt_43 M = some M1) : G X (none, M1) RX8 cX8_lookAt 5 2 45 43 [some (.ref (X.1.1 63)), none, none, none, none] [] M := by
  unfold b_X8_lookAt_43 at hf
  refine g_aload_n dX8_lookAt_43 rfl ?_
  refine g_iconst (v := 0) dX8_lookAt_44 (by decide) ?_
  refine g_putI (kk := 63) (by decide) (cel_63 _ _ _) (pI_63_22 _ _ _ _) rfl inX8 tyX8_ok nmX8 fl_X8_267 (by decide) (Nat.le_of_ble_eq_true rfl) rfl (by decide +kernel) dX8_lookAt_45 ?_
  refine g_aload_n dX8_lookAt_48 rfl ?_
  refine g_iconst (v := 0) dX8_lookAt_49 (by decide) ?_
  refine g_putI (kk := 63) (by decide) (cel_63 _ _ _) (pI_63_23 _ _ _ _) rfl inX8 tyX8_ok nmX8 fl_X8_270 (by decide) (Nat.le_of_ble_eq_true rfl) rfl (by decide +kernel) dX8_lookAt_50 ?_
  refine g_aload_n dX8_lookAt_53 rfl ?_
  refine g_iconst (v := 0) dX8_lookAt_54 (by decide) ?_
  refine g_putI (kk := 63) (by decide) (cel_63 _ _ _) (pI_63_24 _ _ _ _) rfl inX8 tyX8_ok nmX8 fl_X8_273 (by decide) (Nat.le_of_ble_eq_true rfl) rfl (by decide +kernel) dX8_lookAt_55 ?_
  refine g_aload_n dX8_lookAt_58 rfl ?_
  refine g_get (kk := 63) (by decide) (cel_63 _ _ _) rfl inX8 fl_X8_264 (by decide) rfl dX8_lookAt_59 ?_
  refine g_aload_n dX8_lookAt_62 rfl ?_
  refine g_get (kk := 63) (by decide) (cel_63 _ _ _) rfl inX8 fl_X8_253 (by decide) rfl dX8_lookAt_63 ?_
  refine g_icmp_ne (tgt := 70) dX8_lookAt_66 (by decide) (fun hc => ?_) (fun hc => ?_)
  · have hf := ite_f hc hf
    refine g_aload_n dX8_lookAt_70 rfl ?_
    refine g_get (kk := 63) (by decide) (cel_63 _ _ _) rfl inX8 fl_X8_55 (by decide) rfl dX8_lookAt_71 ?_
    refine g_aload_n dX8_lookAt_74 rfl ?_
    refine g_get (kk := 63) (by decide) (cel_63 _ _ _) rfl inX8 fl_X8_264 (by decide) rfl dX8_lookAt_75 ?_
    obtain ⟨hi, hf⟩ := ck_s hf
    refine g_iaload (kk := 77) (by decide) (fun f g => cel_77 _ f g) hi rfl dX8_lookAt_78 ?_
    refine g_ist2 dX8_lookAt_79 (by decide) lnl_n ?_
    refine g_aload_n dX8_lookAt_80 rfl ?_
    refine g_iload_n dX8_lookAt_81 rfl ?_
    refine g_cS_I_I (c_X8_isSmall rfl) cs_X8_276 ⟨by decide, by decide⟩ (Nat.le_of_ble_eq_true rfl) dX8_lookAt_82 ?_
    refine g_if_eq (tgt := 92) dX8_lookAt_85 (by decide) (fun hc => ?_) (fun hc => ?_)
    · have hf := ite_t hc hf
      refine g_iload_n dX8_lookAt_92 rfl ?_
      refine g_cS_I_I (c_X8_isFigure rfl) cs_X8_279 ⟨by decide, by decide⟩ (Nat.le_of_ble_eq_true rfl) dX8_lookAt_93 ?_
      refine g_if_eq (tgt := 103) dX8_lookAt_96 (by decide) (fun hc => ?_) (fun hc => ?_)
      · have hf := ite_t hc hf
        refine g_iload_n dX8_lookAt_103 rfl ?_
        refine g_bipush (v := 59) dX8_lookAt_104 (by decide) ?_
        refine g_icmp_ne (tgt := 113) dX8_lookAt_106 (by decide) (fun hc => ?_) (fun hc => ?_)
        · have hf := ite_f hc hf
          refine g_iconst (v := 4) dX8_lookAt_113 (by decide) ?_
          exact g_weakr (w_X8_lookAt_114 hr hf) (lsk (lsd (lsd (lsd (lsd lsz)))))
        · have hf := ite_t hc hf
          refine g_iconst (v := 3) dX8_lookAt_109 (by decide) ?_
          refine g_goto (tgt := 114) dX8_lookAt_110 (by decide) ?_
          exact g_weakr (w_X8_lookAt_114 hr hf) (lsk (lsd (lsd (lsd (lsd lsz)))))
      · have hf := ite_f hc hf
        refine g_iconst (v := 2) dX8_lookAt_99 (by decide) ?_
        refine g_goto (tgt := 114) dX8_lookAt_100 (by decide) ?_
        exact g_weakr (w_X8_lookAt_114 hr hf) (lsk (lsd (lsd (lsd (lsd lsz)))))
    · have hf := ite_f hc hf
      refine g_iconst (v := 1) dX8_lookAt_88 (by decide) ?_
      refine g_goto (tgt := 114) dX8_lookAt_89 (by decide) ?_
      exact g_weakr (w_X8_lookAt_114 hr hf) (lsk (lsd (lsd (lsd (lsd lsz)))))
  · have hf := ite_t hc hf
    exact g_vret_w hr hf dX8_lookAt_69
def b_X8_lookAt_5    : Nat → Mem → Option Mem
  | 0, _ => none
  | n + 1, M =>
    if (M.1 63 20) ≤ (M.1 63 21) then (b_X8_lookAt_43 M)
    else (ck (M.1 63 21) 150 <|
    if (M.1 77 (M.1 63 21).toNatClampNeg) = (32 : Int32) then (let M12 := mI M 63 21 ((M.1 63 21) + (1 : Int32))
    b_X8_lookAt_5 n M12)
    else (b_X8_lookAt_43 M))
set_option maxHeartbeats 4000000 in
set_option maxRecDepth 100000 in
theorem w_X8_lookAt_5 {X : Cx} {M1 : Mem}      (hr : X.meth.sig.returnType = none) : ∀ (n : Nat)  {M : Mem}, b_X8_lookAt_5  n M = some M1 → G X (none, M1) RX8 cX8_lookAt 5 2 45 5 [some (.ref (X.1.1 63)), none, none, none, none] [] M := by
  intro n
  induction n with
  | zero => intro M hf; cases hf
  | succ n ih =>
    intro M hf
    rw [b_X8_lookAt_5.eq_2] at hf
    refine g_aload_n dX8_lookAt_5 rfl ?_
    refine g_get (kk := 63) (by decide) (cel_63 _ _ _) rfl inX8 fl_X8_264 (by decide) rfl dX8_lookAt_6 ?_
    refine g_aload_n dX8_lookAt_9 rfl ?_
    refine g_get (kk := 63) (by decide) (cel_63 _ _ _) rfl inX8 fl_X8_253 (by decide) rfl dX8_lookAt_10 ?_
    refine g_icmp_ge (tgt := 43) dX8_lookAt_13 (by decide) (fun hc => ?_) (fun hc => ?_)
    · have hf := ite_t hc hf
      exact w_X8_lookAt_43 hr hf
    · have hf := ite_f hc hf
      refine g_aload_n dX8_lookAt_16 rfl ?_
      refine g_get (kk := 63) (by decide) (cel_63 _ _ _) rfl inX8 fl_X8_55 (by decide) rfl dX8_lookAt_17 ?_
      refine g_aload_n dX8_lookAt_20 rfl ?_
      refine g_get (kk := 63) (by decide) (cel_63 _ _ _) rfl inX8 fl_X8_264 (by decide) rfl dX8_lookAt_21 ?_
      obtain ⟨hi, hf⟩ := ck_s hf
      refine g_iaload (kk := 77) (by decide) (fun f g => cel_77 _ f g) hi rfl dX8_lookAt_24 ?_
      refine g_bipush (v := 32) dX8_lookAt_25 (by decide) ?_
      refine g_icmp_ne (tgt := 43) dX8_lookAt_27 (by decide) (fun hc => ?_) (fun hc => ?_)
      · have hf := ite_f hc hf
        exact w_X8_lookAt_43 hr hf
      · have hf := ite_t hc hf
        refine g_aload_n dX8_lookAt_30 rfl ?_
        refine g_dup dX8_lookAt_31 rfl ?_
        refine g_get (kk := 63) (by decide) (cel_63 _ _ _) rfl inX8 fl_X8_264 (by decide) rfl dX8_lookAt_32 ?_
        refine g_iconst (v := 1) dX8_lookAt_35 (by decide) ?_
        refine g_iadd dX8_lookAt_36 ?_
        refine g_putI (kk := 63) (by decide) (cel_63 _ _ _) (pI_63_21 _ _ _ _) rfl inX8 tyX8_ok nmX8 fl_X8_264 (by decide) (Nat.le_of_ble_eq_true rfl) rfl (by decide +kernel) dX8_lookAt_37 ?_
        refine g_goto (tgt := 5) dX8_lookAt_40 (by decide) ?_
        exact ih hf
def f_X8_lookAt (x1 : Int32) (M : Mem) : Option Mem :=
  let M1 := mI M 63 21 x1
  b_X8_lookAt_5 fu M1
set_option maxHeartbeats 4000000 in
set_option maxRecDepth 100000 in
theorem c_X8_lookAt {l : Launch} {x1 : Int32} {M : Mem} {M1 : Mem} (hf : f_X8_lookAt x1 M = some M1) : Cn l yX8_lookAt cX8_lookAt 5 none 2 45 (fun E => [.ref (E.1 63), .int x1]) M (none, M1) := by
  unfold f_X8_lookAt at hf
  refine cn_of RX8 (fun E => [some (.ref (E.1 63)), some (.int x1), none, none, none]) (by decide +kernel) rfl (fun E => Nat.le_of_ble_eq_true rfl) (fun E => rfl) (fun X hr => ?_)
  refine g_aload_n dX8_lookAt_0 rfl ?_
  refine g_iload_n dX8_lookAt_1 rfl ?_
  refine g_putI (kk := 63) (by decide) (cel_63 _ _ _) (pI_63_21 _ _ _ _) rfl inX8 tyX8_ok nmX8 fl_X8_264 (by decide) (Nat.le_of_ble_eq_true rfl) rfl (by decide +kernel) dX8_lookAt_2 ?_
  exact g_weakr (w_X8_lookAt_5 hr fu hf) (lsk (lsd (lsd (lsd (lsd lsz)))))
-- X8_isWord
def b_X8_isWord_111 (k26 : Int32 → Int32 → Option Int32) (M : Mem) (x1 : Int32) (x2 : Int32) (x3 : Int32) (x4 : Int32) (x5 : Int32) (x6 : Int32) (x7 : Int32) (x9 : Int32) (t0 : Int32) : Option Int32 :=
  k26 t0 (x9 + (1 : Int32))
set_option maxHeartbeats 4000000 in
set_option maxRecDepth 100000 in
theorem w_X8_isWord_111 {X : Cx} {r : Int32} {M : Mem} {k26 : Int32 → Int32 → Option Int32} {x1 : Int32} {x2 : Int32} {x3 : Int32} {x4 : Int32} {x5 : Int32} {x6 : Int32} {x7 : Int32}   {x9 : Int32} {t0 : Int32} (hr : X.meth.sig.returnType = (some .boolean)) (hk26 : ∀ {x8_ : Int32} {x9_ : Int32}, k26 x8_ x9_ = some r → G X (some (.int r), M) RX8 cX8_isWord 10 0 0 26 [some (.ref (X.1.1 63)), some (.int x1), some (.int x2), some (.int x3), some (.int x4), some (.int x5), some (.int x6), some (.int x7), some (.int x8_), some (.int x9_)] [] M) (hf : b_X8_isWord_111 k26 M x1 x2 x3 x4 x5 x6 x7 x9 t0 = some r) : G X (some (.int r), M) RX8 cX8_isWord 10 0 0 111 [some (.ref (X.1.1 63)), some (.int x1), some (.int x2), some (.int x3), some (.int x4), some (.int x5), some (.int x6), some (.int x7), none, some (.int x9)] [.int t0] M := by
  unfold b_X8_isWord_111 at hf
  refine g_ist8 dX8_isWord_111 (by decide) lnl_i ?_
  refine g_iinc9 (v := (x9 + (1 : Int32))) dX8_isWord_113 (by decide) lnl_i rfl ?_
  refine g_goto (tgt := 26) dX8_isWord_116 (by decide) ?_
  exact hk26 hf
def b_X8_isWord_103 (k26 : Int32 → Int32 → Option Int32) (M : Mem) (x1 : Int32) (x2 : Int32) (x3 : Int32) (x4 : Int32) (x5 : Int32) (x6 : Int32) (x7 : Int32) (x9 : Int32) (t0 : Int32) (t1 : Int32) : Option Int32 :=
  if t1 = t0 then (b_X8_isWord_111 k26 M x1 x2 x3 x4 x5 x6 x7 x9 (1 : Int32))
  else (b_X8_isWord_111 k26 M x1 x2 x3 x4 x5 x6 x7 x9 (0 : Int32))
set_option maxHeartbeats 4000000 in
set_option maxRecDepth 100000 in
theorem w_X8_isWord_103 {X : Cx} {r : Int32} {M : Mem} {k26 : Int32 → Int32 → Option Int32} {x1 : Int32} {x2 : Int32} {x3 : Int32} {x4 : Int32} {x5 : Int32} {x6 : Int32} {x7 : Int32}   {x9 : Int32} {t0 : Int32} {t1 : Int32} (hr : X.meth.sig.returnType = (some .boolean)) (hk26 : ∀ {x8_ : Int32} {x9_ : Int32}, k26 x8_ x9_ = some r → G X (some (.int r), M) RX8 cX8_isWord 10 0 0 26 [some (.ref (X.1.1 63)), some (.int x1), some (.int x2), some (.int x3), some (.int x4), some (.int x5), some (.int x6), some (.int x7), some (.int x8_), some (.int x9_)] [] M) (hf : b_X8_isWord_103 k26 M x1 x2 x3 x4 x5 x6 x7 x9 t0 t1 = some r) : G X (some (.int r), M) RX8 cX8_isWord 10 0 0 103 [some (.ref (X.1.1 63)), some (.int x1), some (.int x2), some (.int x3), some (.int x4), some (.int x5), some (.int x6), some (.int x7), none, some (.int x9)] [.int t0, .int t1] M := by
  unfold b_X8_isWord_103 at hf
  refine g_icmp_ne (tgt := 110) dX8_isWord_103 (by decide) (fun hc => ?_) (fun hc => ?_)
  · have hf := ite_f hc hf
    refine g_iconst (v := 0) dX8_isWord_110 (by decide) ?_
    exact w_X8_isWord_111 hr hk26 hf
  · have hf := ite_t hc hf
    refine g_iconst (v := 1) dX8_isWord_106 (by decide) ?_
    refine g_goto (tgt := 111) dX8_isWord_107 (by decide) ?_
    exact w_X8_isWord_111 hr hk26 hf
def b_X8_isWord_26  (M : Mem) (x1 : Int32) (x2 : Int32) (x3 : Int32) (x4 : Int32) (x5 : Int32) (x6 : Int32) (x7 : Int32) : Nat → Int32 → Int32 → Option Int32
  | 0, _, _ => none
  | n + 1, x8, x9 =>
    if x1 ≤ x9 then (ckB x8 (some x8))
    else (if x8 = 0 then (ckB x8 (some x8))
    else (ck ((M.1 63 21) + x9) 150 <|
    if x9 = 0 then (b_X8_isWord_103 (fun x8_ x9_ => b_X8_isWord_26 M x1 x2 x3 x4 x5 x6 x7 n x8_ x9_) M x1 x2 x3 x4 x5 x6 x7 x9 x2 (M.1 77 ((M.1 63 21) + x9).toNatClampNeg))
    else (if x9 = (1 : Int32) then (b_X8_isWord_103 (fun x8_ x9_ => b_X8_isWord_26 M x1 x2 x3 x4 x5 x6 x7 n x8_ x9_) M x1 x2 x3 x4 x5 x6 x7 x9 x3 (M.1 77 ((M.1 63 21) + x9).toNatClampNeg))
    else (if x9 = (2 : Int32) then (b_X8_isWord_103 (fun x8_ x9_ => b_X8_isWord_26 M x1 x2 x3 x4 x5 x6 x7 n x8_ x9_) M x1 x2 x3 x4 x5 x6 x7 x9 x4 (M.1 77 ((M.1 63 21) + x9).toNatClampNeg))
    else (if x9 = (3 : Int32) then (b_X8_isWord_103 (fun x8_ x9_ => b_X8_isWord_26 M x1 x2 x3 x4 x5 x6 x7 n x8_ x9_) M x1 x2 x3 x4 x5 x6 x7 x9 x5 (M.1 77 ((M.1 63 21) + x9).toNatClampNeg))
    else (if x9 = (4 : Int32) then (b_X8_isWord_103 (fun x8_ x9_ => b_X8_isWord_26 M x1 x2 x3 x4 x5 x6 x7 n x8_ x9_) M x1 x2 x3 x4 x5 x6 x7 x9 x6 (M.1 77 ((M.1 63 21) + x9).toNatClampNeg))
    else (b_X8_isWord_103 (fun x8_ x9_ => b_X8_isWord_26 M x1 x2 x3 x4 x5 x6 x7 n x8_ x9_) M x1 x2 x3 x4 x5 x6 x7 x9 x7 (M.1 77 ((M.1 63 21) + x9).toNatClampNeg))))))))
set_option maxHeartbeats 4000000 in
set_option maxRecDepth 100000 in
theorem w_X8_isWord_26 {X : Cx} {r : Int32} {M : Mem}  {x1 : Int32} {x2 : Int32} {x3 : Int32} {x4 : Int32} {x5 : Int32} {x6 : Int32} {x7 : Int32}   (hr : X.meth.sig.returnType = (some .boolean)) : ∀ (n : Nat) {x8 : Int32} {x9 : Int32}, b_X8_isWord_26 M x1 x2 x3 x4 x5 x6 x7 n x8 x9 = some r → G X (some (.int r), M) RX8 cX8_isWord 10 0 0 26 [some (.ref (X.1.1 63)), some (.int x1), some (.int x2), some (.int x3), some (.int x4), some (.int x5), some (.int x6), some (.int x7), some (.int x8), some (.int x9)] [] M := by
  intro n
  induction n with
  | zero => intro x8 x9 hf; cases hf
  | succ n ih =>
    intro x8 x9 hf
    rw [b_X8_isWord_26.eq_2] at hf
    refine g_iload dX8_isWord_26 rfl ?_
    refine g_iload_n dX8_isWord_28 rfl ?_
    refine g_icmp_ge (tgt := 119) dX8_isWord_29 (by decide) (fun hc => ?_) (fun hc => ?_)
    · have hf := ite_t hc hf
      refine g_iload dX8_isWord_119 rfl ?_
      obtain ⟨hz, hf⟩ := ckB_s hf
      exact g_zret_p hr hz hf dX8_isWord_121
    · have hf := ite_f hc hf
      refine g_iload dX8_isWord_32 rfl ?_
      refine g_if_eq (tgt := 119) dX8_isWord_34 (by decide) (fun hc => ?_) (fun hc => ?_)
      · have hf := ite_t hc hf
        refine g_iload dX8_isWord_119 rfl ?_
        obtain ⟨hz, hf⟩ := ckB_s hf
        exact g_zret_p hr hz hf dX8_isWord_121
      · have hf := ite_f hc hf
        refine g_aload_n dX8_isWord_37 rfl ?_
        refine g_get (kk := 63) (by decide) (cel_63 _ _ _) rfl inX8 fl_X8_55 (by decide) rfl dX8_isWord_38 ?_
        refine g_aload_n dX8_isWord_41 rfl ?_
        refine g_get (kk := 63) (by decide) (cel_63 _ _ _) rfl inX8 fl_X8_264 (by decide) rfl dX8_isWord_42 ?_
        refine g_iload dX8_isWord_45 rfl ?_
        refine g_iadd dX8_isWord_47 ?_
        obtain ⟨hi, hf⟩ := ck_s hf
        refine g_iaload (kk := 77) (by decide) (fun f g => cel_77 _ f g) hi rfl dX8_isWord_48 ?_
        refine g_iload dX8_isWord_49 rfl ?_
        refine g_if_ne (tgt := 58) dX8_isWord_51 (by decide) (fun hc => ?_) (fun hc => ?_)
        · have hf := ite_f hc hf
          refine g_iload dX8_isWord_58 rfl ?_
          refine g_iconst (v := 1) dX8_isWord_60 (by decide) ?_
          refine g_icmp_ne (tgt := 68) dX8_isWord_61 (by decide) (fun hc => ?_) (fun hc => ?_)
          · have hf := ite_f hc hf
            refine g_iload dX8_isWord_68 rfl ?_
            refine g_iconst (v := 2) dX8_isWord_70 (by decide) ?_
            refine g_icmp_ne (tgt := 79) dX8_isWord_71 (by decide) (fun hc => ?_) (fun hc => ?_)
            · have hf := ite_f hc hf
              refine g_iload dX8_isWord_79 rfl ?_
              refine g_iconst (v := 3) dX8_isWord_81 (by decide) ?_
              refine g_icmp_ne (tgt := 90) dX8_isWord_82 (by decide) (fun hc => ?_) (fun hc => ?_)
              · have hf := ite_f hc hf
                refine g_iload dX8_isWord_90 rfl ?_
                refine g_iconst (v := 4) dX8_isWord_92 (by decide) ?_
                refine g_icmp_ne (tgt := 101) dX8_isWord_93 (by decide) (fun hc => ?_) (fun hc => ?_)
                · have hf := ite_f hc hf
                  refine g_iload dX8_isWord_101 rfl ?_
                  exact g_weakr (w_X8_isWord_103 hr (fun hf => ih hf) hf) (lsk (lsk (lsk (lsk (lsk (lsk (lsk (lsk (lsd (lsk lsz))))))))))
                · have hf := ite_t hc hf
                  refine g_iload dX8_isWord_96 rfl ?_
                  refine g_goto (tgt := 103) dX8_isWord_98 (by decide) ?_
                  exact g_weakr (w_X8_isWord_103 hr (fun hf => ih hf) hf) (lsk (lsk (lsk (lsk (lsk (lsk (lsk (lsk (lsd (lsk lsz))))))))))
              · have hf := ite_t hc hf
                refine g_iload dX8_isWord_85 rfl ?_
                refine g_goto (tgt := 103) dX8_isWord_87 (by decide) ?_
                exact g_weakr (w_X8_isWord_103 hr (fun hf => ih hf) hf) (lsk (lsk (lsk (lsk (lsk (lsk (lsk (lsk (lsd (lsk lsz))))))))))
            · have hf := ite_t hc hf
              refine g_iload dX8_isWord_74 rfl ?_
              refine g_goto (tgt := 103) dX8_isWord_76 (by decide) ?_
              exact g_weakr (w_X8_isWord_103 hr (fun hf => ih hf) hf) (lsk (lsk (lsk (lsk (lsk (lsk (lsk (lsk (lsd (lsk lsz))))))))))
          · have hf := ite_t hc hf
            refine g_iload_n dX8_isWord_64 rfl ?_
            refine g_goto (tgt := 103) dX8_isWord_65 (by decide) ?_
            exact g_weakr (w_X8_isWord_103 hr (fun hf => ih hf) hf) (lsk (lsk (lsk (lsk (lsk (lsk (lsk (lsk (lsd (lsk lsz))))))))))
        · have hf := ite_t hc hf
          refine g_iload_n dX8_isWord_54 rfl ?_
          refine g_goto (tgt := 103) dX8_isWord_55 (by decide) ?_
          exact g_weakr (w_X8_isWord_103 hr (fun hf => ih hf) hf) (lsk (lsk (lsk (lsk (lsk (lsk (lsk (lsk (lsd (lsk lsz))))))))))
def b_X8_isWord_21  (M : Mem) (x1 : Int32) (x2 : Int32) (x3 : Int32) (x4 : Int32) (x5 : Int32) (x6 : Int32) (x7 : Int32) (t0 : Int32) : Option Int32 :=
  b_X8_isWord_26 M x1 x2 x3 x4 x5 x6 x7 fu t0 (0 : Int32)
set_option maxHeartbeats 4000000 in
set_option maxRecDepth 100000 in
theorem w_X8_isWord_21 {X : Cx} {r : Int32} {M : Mem}     {x1 : Int32} {x2 : Int32} {x3 : Int32} {x4 : Int32} {x5 : Int32} {x6 : Int32} {x7 : Int32} {t0 : Int32} (hr : X.meth.sig.returnType = (some .boolean)) (hf : b_X8_isWord_21 M x1 x2 x3 x4 x5 x6 x7 t0 = some r) : G X (some (.int r), M) RX8 cX8_isWord 10 0 0 21 [some (.ref (X.1.1 63)), some (.int x1), some (.int x2), some (.int x3), some (.int x4), some (.int x5), some (.int x6), some (.int x7), none, none] [.int t0] M := by
  unfold b_X8_isWord_21 at hf
  refine g_ist8 dX8_isWord_21 (by decide) lnl_i ?_
  refine g_iconst (v := 0) dX8_isWord_23 (by decide) ?_
  refine g_ist9 dX8_isWord_24 (by decide) lnl_i ?_
  exact w_X8_isWord_26 hr fu hf
def f_X8_isWord (M : Mem) (x1 : Int32) (x2 : Int32) (x3 : Int32) (x4 : Int32) (x5 : Int32) (x6 : Int32) (x7 : Int32) : Option Int32 :=
  if (M.1 63 23) = (1 : Int32) then (if (M.1 63 22) = x1 then (b_X8_isWord_21 M x1 x2 x3 x4 x5 x6 x7 (1 : Int32))
  else (b_X8_isWord_21 M x1 x2 x3 x4 x5 x6 x7 (0 : Int32)))
  else (b_X8_isWord_21 M x1 x2 x3 x4 x5 x6 x7 (0 : Int32))
set_option maxHeartbeats 4000000 in
set_option maxRecDepth 100000 in
theorem c_X8_isWord {l : Launch} {x1 : Int32} {x2 : Int32} {x3 : Int32} {x4 : Int32} {x5 : Int32} {x6 : Int32} {x7 : Int32} {M : Mem} {r : Int32} (hf : f_X8_isWord M x1 x2 x3 x4 x5 x6 x7 = some r) : Cn l yX8_isWord cX8_isWord 10 (some .boolean) 0 0 (fun E => [.ref (E.1 63), .int x1, .int x2, .int x3, .int x4, .int x5, .int x6, .int x7]) M (some (.int r), M) := by
  unfold f_X8_isWord at hf
  refine cn_of RX8 (fun E => [some (.ref (E.1 63)), some (.int x1), some (.int x2), some (.int x3), some (.int x4), some (.int x5), some (.int x6), some (.int x7), none, none]) (by decide +kernel) rfl (fun E => Nat.le_of_ble_eq_true rfl) (fun E => rfl) (fun X hr => ?_)
  refine g_aload_n dX8_isWord_0 rfl ?_
  refine g_get (kk := 63) (by decide) (cel_63 _ _ _) rfl inX8 fl_X8_270 (by decide) rfl dX8_isWord_1 ?_
  refine g_iconst (v := 1) dX8_isWord_4 (by decide) ?_
  refine g_icmp_ne (tgt := 20) dX8_isWord_5 (by decide) (fun hc => ?_) (fun hc => ?_)
  · have hf := ite_f hc hf
    refine g_iconst (v := 0) dX8_isWord_20 (by decide) ?_
    exact w_X8_isWord_21 hr hf
  · have hf := ite_t hc hf
    refine g_aload_n dX8_isWord_8 rfl ?_
    refine g_get (kk := 63) (by decide) (cel_63 _ _ _) rfl inX8 fl_X8_267 (by decide) rfl dX8_isWord_9 ?_
    refine g_iload_n dX8_isWord_12 rfl ?_
    refine g_icmp_ne (tgt := 20) dX8_isWord_13 (by decide) (fun hc => ?_) (fun hc => ?_)
    · have hf := ite_f hc hf
      refine g_iconst (v := 0) dX8_isWord_20 (by decide) ?_
      exact w_X8_isWord_21 hr hf
    · have hf := ite_t hc hf
      refine g_iconst (v := 1) dX8_isWord_16 (by decide) ?_
      refine g_goto (tgt := 21) dX8_isWord_17 (by decide) ?_
      exact w_X8_isWord_21 hr hf
-- X8_goBehind
def f_X8_goBehind  (M : Mem) : Option Mem :=
  (f_X8_lookAt ((M.1 63 21) + (M.1 63 22)) M).bind fun r1 =>
  some r1
set_option maxHeartbeats 4000000 in
set_option maxRecDepth 100000 in
theorem c_X8_goBehind {l : Launch}  {M : Mem} {M1 : Mem} (hf : f_X8_goBehind M = some M1) : Cn l yX8_goBehind cX8_goBehind 1 none 3 69 (fun E => [.ref (E.1 63)]) M (none, M1) := by
  unfold f_X8_goBehind at hf
  refine cn_of RX8 (fun E => [some (.ref (E.1 63))]) (by decide +kernel) rfl (fun E => Nat.le_of_ble_eq_true rfl) (fun E => rfl) (fun X hr => ?_)
  refine g_aload_n dX8_goBehind_0 rfl ?_
  refine g_aload_n dX8_goBehind_1 rfl ?_
  refine g_get (kk := 63) (by decide) (cel_63 _ _ _) rfl inX8 fl_X8_264 (by decide) rfl dX8_goBehind_2 ?_
  refine g_aload_n dX8_goBehind_5 rfl ?_
  refine g_get (kk := 63) (by decide) (cel_63 _ _ _) rfl inX8 fl_X8_267 (by decide) rfl dX8_goBehind_6 ?_
  refine g_iadd dX8_goBehind_9 ?_
  obtain ⟨r1, hq, hf⟩ := bnd hf
  refine g_cV_I_V (c_X8_lookAt hq) cv_X8_282 (by decide) (cel_63 _ _ _) rfl ⟨by decide, by decide⟩ (Nat.le_of_ble_eq_true rfl) dX8_goBehind_10 ?_
  exact g_vret_w hr hf dX8_goBehind_13
-- X8_takes
def f_X8_takes (x1 : Int32) (x2 : Int32) (x3 : Int32) (M : Mem) : Option (Int32 × Mem) :=
  if (M.1 63 23) = (2 : Int32) then (if (f_X8_in (M.1 63 24).toInt64 x2.toInt64 x3.toInt64) = 0 then (some ((0 : Int32), M))
  else (ck x1 4 <|
  let M1 := mI M 80 (x1.toNatClampNeg) (M.1 63 24)
  (f_X8_goBehind M1).bind fun r2 =>
  some ((1 : Int32), r2)))
  else (some ((0 : Int32), M))
set_option maxHeartbeats 4000000 in
set_option maxRecDepth 100000 in
theorem c_X8_takes {l : Launch} {x1 : Int32} {x2 : Int32} {x3 : Int32} {M : Mem} {r : Int32} {M1 : Mem} (hf : f_X8_takes x1 x2 x3 M = some (r, M1)) : Cn l yX8_takes cX8_takes 4 (some .boolean) 4 89 (fun E => [.ref (E.1 63), .int x1, .int x2, .int x3]) M (some (.int r), M1) := by
  unfold f_X8_takes at hf
  refine cn_of RX8 (fun E => [some (.ref (E.1 63)), some (.int x1), some (.int x2), some (.int x3)]) (by decide +kernel) rfl (fun E => Nat.le_of_ble_eq_true rfl) (fun E => rfl) (fun X hr => ?_)
  refine g_aload_n dX8_takes_0 rfl ?_
  refine g_get (kk := 63) (by decide) (cel_63 _ _ _) rfl inX8 fl_X8_270 (by decide) rfl dX8_takes_1 ?_
  refine g_iconst (v := 2) dX8_takes_4 (by decide) ?_
  refine g_icmp_ne (tgt := 23) dX8_takes_5 (by decide) (fun hc => ?_) (fun hc => ?_)
  · have hf := ite_f hc hf
    refine g_iconst (v := 0) dX8_takes_23 (by decide) ?_
    exact g_zret_w hr (Or.inl rfl) hf dX8_takes_24
  · have hf := ite_t hc hf
    refine g_aload_n dX8_takes_8 rfl ?_
    refine g_get (kk := 63) (by decide) (cel_63 _ _ _) rfl inX8 fl_X8_273 (by decide) rfl dX8_takes_9 ?_
    refine g_i2l dX8_takes_12 ?_
    refine g_iload_n dX8_takes_13 rfl ?_
    refine g_i2l dX8_takes_14 ?_
    refine g_iload_n dX8_takes_15 rfl ?_
    refine g_i2l dX8_takes_16 ?_
    refine g_cS_JJJ_I (c_X8_in rfl) cs_X8_106 ⟨by decide, by decide⟩ (Nat.le_of_ble_eq_true rfl) dX8_takes_17 ?_
    refine g_if_ne (tgt := 25) dX8_takes_20 (by decide) (fun hc => ?_) (fun hc => ?_)
    · have hf := ite_f hc hf
      refine g_aload_n dX8_takes_25 rfl ?_
      refine g_get (kk := 63) (by decide) (cel_63 _ _ _) rfl inX8 fl_X8_64 (by decide) rfl dX8_takes_26 ?_
      refine g_iload_n dX8_takes_29 rfl ?_
      refine g_aload_n dX8_takes_30 rfl ?_
      refine g_get (kk := 63) (by decide) (cel_63 _ _ _) rfl inX8 fl_X8_273 (by decide) rfl dX8_takes_31 ?_
      obtain ⟨hi, hf⟩ := ck_s hf
      refine g_iastore (kk := 80) (by decide) (fun f g => cel_80 _ f g) hi rfl dX8_takes_34 ?_
      refine g_aload_n dX8_takes_35 rfl ?_
      obtain ⟨r2, hq, hf⟩ := bnd hf
      refine g_cV_0_V (c_X8_goBehind hq) cv_X8_286 (by decide) (cel_63 _ _ _) rfl ⟨by decide, by decide⟩ (Nat.le_of_ble_eq_true rfl) dX8_takes_36 ?_
      refine g_iconst (v := 1) dX8_takes_39 (by decide) ?_
      exact g_zret_w hr (Or.inr rfl) hf dX8_takes_40
    · have hf := ite_t hc hf
      refine g_iconst (v := 0) dX8_takes_23 (by decide) ?_
      exact g_zret_w hr (Or.inl rfl) hf dX8_takes_24
-- X8_begin_78
def b_X8_begin_78_2   (x1 : Int32) : Nat → Int32 → Mem → Option Mem
  | 0, _, _ => none
  | n + 1, x2, M =>
    if (52 : Int32) ≤ x2 then (let M1 := mI M 78 1 x1
    some M1)
    else (ck x2 52 <|
    let M2 := mI M 78 (x2.toNatClampNeg) (0 : Int32)
    b_X8_begin_78_2 x1 n (x2 + (1 : Int32)) M2)
set_option maxHeartbeats 4000000 in
set_option maxRecDepth 100000 in
theorem w_X8_begin_78_2 {X : Cx} {M1 : Mem}   {x1 : Int32}   (hr : X.meth.sig.returnType = none) : ∀ (n : Nat) {x2 : Int32} {M : Mem}, b_X8_begin_78_2 x1 n x2 M = some M1 → G X (none, M1) RX8 cX8_begin 3 0 0 2 [some (.ref (X.1.1 78)), some (.int x1), some (.int x2)] [] M := by
  intro n
  induction n with
  | zero => intro x2 M hf; cases hf
  | succ n ih =>
    intro x2 M hf
    rw [b_X8_begin_78_2.eq_2] at hf
    refine g_iload_n dX8_begin_2 rfl ?_
    refine g_bipush (v := 52) dX8_begin_3 (by decide) ?_
    refine g_icmp_ge (tgt := 18) dX8_begin_5 (by decide) (fun hc => ?_) (fun hc => ?_)
    · have hf := ite_t hc hf
      refine g_aload_n dX8_begin_18 rfl ?_
      refine g_iconst (v := 1) dX8_begin_19 (by decide) ?_
      refine g_iload_n dX8_begin_20 rfl ?_
      refine g_iastore (kk := 78) (by decide) (fun f g => cel_78 _ f g) (vp_in_iff.mpr ⟨by decide, by decide⟩) (j := 1) (by decide) dX8_begin_21 ?_
      exact g_vret_w hr hf dX8_begin_22
    · have hf := ite_f hc hf
      refine g_aload_n dX8_begin_8 rfl ?_
      refine g_iload_n dX8_begin_9 rfl ?_
      refine g_iconst (v := 0) dX8_begin_10 (by decide) ?_
      obtain ⟨hi, hf⟩ := ck_s hf
      refine g_iastore (kk := 78) (by decide) (fun f g => cel_78 _ f g) hi rfl dX8_begin_11 ?_
      refine g_iinc2 (v := (x2 + (1 : Int32))) dX8_begin_12 (by decide) lnl_i rfl ?_
      refine g_goto (tgt := 2) dX8_begin_15 (by decide) ?_
      exact ih hf
def f_X8_begin_78 (x1 : Int32) (M : Mem) : Option Mem :=
  b_X8_begin_78_2 x1 fu (0 : Int32) M
set_option maxHeartbeats 4000000 in
set_option maxRecDepth 100000 in
theorem c_X8_begin_78 {l : Launch} {x1 : Int32} {M : Mem} {M1 : Mem} (hf : f_X8_begin_78 x1 M = some M1) : Cn l yX8_begin cX8_begin 3 none 0 0 (fun E => [.ref (E.1 78), .int x1]) M (none, M1) := by
  unfold f_X8_begin_78 at hf
  refine cn_of RX8 (fun E => [some (.ref (E.1 78)), some (.int x1), none]) (by decide +kernel) rfl (fun E => Nat.le_of_ble_eq_true rfl) (fun E => rfl) (fun X hr => ?_)
  refine g_iconst (v := 0) dX8_begin_0 (by decide) ?_
  refine g_ist2 dX8_begin_1 (by decide) lnl_i ?_
  exact w_X8_begin_78_2 hr fu hf
-- X8_takesFirst
def b_X8_takesFirst_53    : Nat → Int32 → Mem → Option (Int32 × Mem)
  | 0, _, _ => none
  | n + 1, x1, M =>
    if (4 : Int32) ≤ x1 then (if (M.1 63 23) = (3 : Int32) then (some ((1 : Int32), M))
    else (some ((0 : Int32), M)))
    else (ck x1 4 <|
    let M5 := mL M 79 (x1.toNatClampNeg) (0 : Int64)
    b_X8_takesFirst_53 n (x1 + (1 : Int32)) M5)
set_option maxHeartbeats 4000000 in
set_option maxRecDepth 100000 in
theorem w_X8_takesFirst_53 {X : Cx} {r : Int32} {M1 : Mem}      (hr : X.meth.sig.returnType = (some .boolean)) : ∀ (n : Nat) {x1 : Int32} {M : Mem}, b_X8_takesFirst_53  n x1 M = some (r, M1) → G X (some (.int r), M1) RX8 cX8_takesFirst 2 5 112 53 [some (.ref (X.1.1 63)), some (.int x1)] [] M := by
  intro n
  induction n with
  | zero => intro x1 M hf; cases hf
  | succ n ih =>
    intro x1 M hf
    rw [b_X8_takesFirst_53.eq_2] at hf
    refine g_iload_n dX8_takesFirst_53 rfl ?_
    refine g_iconst (v := 4) dX8_takesFirst_54 (by decide) ?_
    refine g_icmp_ge (tgt := 71) dX8_takesFirst_55 (by decide) (fun hc => ?_) (fun hc => ?_)
    · have hf := ite_t hc hf
      refine g_aload_n dX8_takesFirst_71 rfl ?_
      refine g_get (kk := 63) (by decide) (cel_63 _ _ _) rfl inX8 fl_X8_270 (by decide) rfl dX8_takesFirst_72 ?_
      refine g_iconst (v := 3) dX8_takesFirst_75 (by decide) ?_
      refine g_icmp_ne (tgt := 83) dX8_takesFirst_76 (by decide) (fun hc => ?_) (fun hc => ?_)
      · have hf := ite_f hc hf
        refine g_iconst (v := 0) dX8_takesFirst_83 (by decide) ?_
        exact g_zret_w hr (Or.inl rfl) hf dX8_takesFirst_84
      · have hf := ite_t hc hf
        refine g_iconst (v := 1) dX8_takesFirst_79 (by decide) ?_
        refine g_goto (tgt := 84) dX8_takesFirst_80 (by decide) ?_
        exact g_zret_w hr (Or.inr rfl) hf dX8_takesFirst_84
    · have hf := ite_f hc hf
      refine g_aload_n dX8_takesFirst_58 rfl ?_
      refine g_get (kk := 63) (by decide) (cel_63 _ _ _) rfl inX8 fl_X8_61 (by decide) rfl dX8_takesFirst_59 ?_
      refine g_iload_n dX8_takesFirst_62 rfl ?_
      refine g_lconst (v := 0) dX8_takesFirst_63 (by decide) ?_
      obtain ⟨hi, hf⟩ := ck_s hf
      refine g_lastore (kk := 79) (by decide) (fun f g => cel_79 _ f g) hi rfl dX8_takesFirst_64 ?_
      refine g_iinc1 (v := (x1 + (1 : Int32))) dX8_takesFirst_65 (by decide) lnl_r rfl ?_
      refine g_goto (tgt := 53) dX8_takesFirst_68 (by decide) ?_
      exact ih hf
def f_X8_takesFirst  (M : Mem) : Option (Int32 × Mem) :=
  (f_X8_isWord M (5 : Int32) (114 : Int32) (105 : Int32) (118 : Int32) (101 : Int32) (114 : Int32) (0 : Int32)).bind fun r1 =>
  if r1 = 0 then (some ((0 : Int32), M))
  else ((f_X8_goBehind M).bind fun r2 =>
  (f_X8_takes (0 : Int32) (0 : Int32) (11 : Int32) r2).bind fun r3 =>
  if r3.1 = 0 then (some ((0 : Int32), r3.2))
  else ((f_X8_begin_78 (r3.2.1 80 0) r3.2).bind fun r4 =>
  b_X8_takesFirst_53 fu (0 : Int32) r4))
set_option maxHeartbeats 4000000 in
set_option maxRecDepth 100000 in
theorem c_X8_takesFirst {l : Launch}  {M : Mem} {r : Int32} {M1 : Mem} (hf : f_X8_takesFirst M = some (r, M1)) : Cn l yX8_takesFirst cX8_takesFirst 2 (some .boolean) 5 112 (fun E => [.ref (E.1 63)]) M (some (.int r), M1) := by
  unfold f_X8_takesFirst at hf
  refine cn_of RX8 (fun E => [some (.ref (E.1 63)), none]) (by decide +kernel) rfl (fun E => Nat.le_of_ble_eq_true rfl) (fun E => rfl) (fun X hr => ?_)
  refine g_aload_n dX8_takesFirst_0 rfl ?_
  refine g_iconst (v := 5) dX8_takesFirst_1 (by decide) ?_
  refine g_bipush (v := 114) dX8_takesFirst_2 (by decide) ?_
  refine g_bipush (v := 105) dX8_takesFirst_4 (by decide) ?_
  refine g_bipush (v := 118) dX8_takesFirst_6 (by decide) ?_
  refine g_bipush (v := 101) dX8_takesFirst_8 (by decide) ?_
  refine g_bipush (v := 114) dX8_takesFirst_10 (by decide) ?_
  refine g_iconst (v := 0) dX8_takesFirst_12 (by decide) ?_
  obtain ⟨r1, hq, hf⟩ := bnd hf
  refine g_cV_IIIIIII_I (c_X8_isWord hq) cv_X8_289 (by decide) (cel_63 _ _ _) rfl ⟨by decide, by decide⟩ (Nat.le_of_ble_eq_true rfl) dX8_takesFirst_13 ?_
  refine g_if_ne (tgt := 21) dX8_takesFirst_16 (by decide) (fun hc => ?_) (fun hc => ?_)
  · have hf := ite_f hc hf
    refine g_aload_n dX8_takesFirst_21 rfl ?_
    obtain ⟨r2, hq, hf⟩ := bnd hf
    refine g_cV_0_V (c_X8_goBehind hq) cv_X8_286 (by decide) (cel_63 _ _ _) rfl ⟨by decide, by decide⟩ (Nat.le_of_ble_eq_true rfl) dX8_takesFirst_22 ?_
    refine g_aload_n dX8_takesFirst_25 rfl ?_
    refine g_iconst (v := 0) dX8_takesFirst_26 (by decide) ?_
    refine g_iconst (v := 0) dX8_takesFirst_27 (by decide) ?_
    refine g_bipush (v := 11) dX8_takesFirst_28 (by decide) ?_
    obtain ⟨r3, hq, hf⟩ := bnd hf
    refine g_cV_III_I (c_X8_takes (r := r3.1) (M1 := r3.2) hq) cv_X8_293 (by decide) (cel_63 _ _ _) rfl ⟨by decide, by decide⟩ (Nat.le_of_ble_eq_true rfl) dX8_takesFirst_30 ?_
    refine g_if_ne (tgt := 38) dX8_takesFirst_33 (by decide) (fun hc => ?_) (fun hc => ?_)
    · have hf := ite_f hc hf
      refine g_aload_n dX8_takesFirst_38 rfl ?_
      refine g_get (kk := 63) (by decide) (cel_63 _ _ _) rfl inX8 fl_X8_58 (by decide) rfl dX8_takesFirst_39 ?_
      refine g_aload_n dX8_takesFirst_42 rfl ?_
      refine g_get (kk := 63) (by decide) (cel_63 _ _ _) rfl inX8 fl_X8_64 (by decide) rfl dX8_takesFirst_43 ?_
      refine g_iconst (v := 0) dX8_takesFirst_46 (by decide) ?_
      refine g_iaload (kk := 80) (by decide) (fun f g => cel_80 _ f g) (vp_in_iff.mpr ⟨by decide, by decide⟩) (j := 0) (by decide) dX8_takesFirst_47 ?_
      obtain ⟨r4, hq, hf⟩ := bnd hf
      refine g_cS_RI_V (c_X8_begin_78 hq) cs_X8_120 ⟨by decide, by decide⟩ (Nat.le_of_ble_eq_true rfl) dX8_takesFirst_48 ?_
      refine g_iconst (v := 0) dX8_takesFirst_51 (by decide) ?_
      refine g_ist1 dX8_takesFirst_52 (by decide) lnl_r ?_
      exact w_X8_takesFirst_53 hr fu hf
    · have hf := ite_t hc hf
      refine g_iconst (v := 0) dX8_takesFirst_36 (by decide) ?_
      exact g_zret_w hr (Or.inl rfl) hf dX8_takesFirst_37
  · have hf := ite_t hc hf
    refine g_iconst (v := 0) dX8_takesFirst_19 (by decide) ?_
    exact g_zret_w hr (Or.inl rfl) hf dX8_takesFirst_20
-- X8_layBridge_78
def f_X8_layBridge_78 (x1 : Int32) (x2 : Int32) (x3 : Int32) (x4 : Int32) (M : Mem) : Option Mem :=
  ck (((4 : Int32) + ((4 : Int32) * (M.1 78 0))) + (0 : Int32)) 52 <|
  let M1 := mI M 78 ((((4 : Int32) + ((4 : Int32) * (M.1 78 0))) + (0 : Int32)).toNatClampNeg) x1
  ck (((4 : Int32) + ((4 : Int32) * (M.1 78 0))) + (1 : Int32)) 52 <|
  let M2 := mI M1 78 ((((4 : Int32) + ((4 : Int32) * (M.1 78 0))) + (1 : Int32)).toNatClampNeg) x2
  ck (((4 : Int32) + ((4 : Int32) * (M.1 78 0))) + (2 : Int32)) 52 <|
  let M3 := mI M2 78 ((((4 : Int32) + ((4 : Int32) * (M.1 78 0))) + (2 : Int32)).toNatClampNeg) x3
  ck (((4 : Int32) + ((4 : Int32) * (M.1 78 0))) + (3 : Int32)) 52 <|
  let M4 := mI M3 78 ((((4 : Int32) + ((4 : Int32) * (M.1 78 0))) + (3 : Int32)).toNatClampNeg) x4
  let M5 := mI M4 78 0 ((M4.1 78 0) + (1 : Int32))
  some M5
set_option maxHeartbeats 4000000 in
set_option maxRecDepth 100000 in
theorem c_X8_layBridge_78 {l : Launch} {x1 : Int32} {x2 : Int32} {x3 : Int32} {x4 : Int32} {M : Mem} {M1 : Mem} (hf : f_X8_layBridge_78 x1 x2 x3 x4 M = some M1) : Cn l yX8_layBridge cX8_layBridge 6 none 0 0 (fun E => [.ref (E.1 78), .int x1, .int x2, .int x3, .int x4]) M (none, M1) := by
  unfold f_X8_layBridge_78 at hf
  refine cn_of RX8 (fun E => [some (.ref (E.1 78)), some (.int x1), some (.int x2), some (.int x3), some (.int x4), none]) (by decide +kernel) rfl (fun E => Nat.le_of_ble_eq_true rfl) (fun E => rfl) (fun X hr => ?_)
  refine g_iconst (v := 4) dX8_layBridge_0 (by decide) ?_
  refine g_iconst (v := 4) dX8_layBridge_1 (by decide) ?_
  refine g_aload_n dX8_layBridge_2 rfl ?_
  refine g_iconst (v := 0) dX8_layBridge_3 (by decide) ?_
  refine g_iaload (kk := 78) (by decide) (fun f g => cel_78 _ f g) (vp_in_iff.mpr ⟨by decide, by decide⟩) (j := 0) (by decide) dX8_layBridge_4 ?_
  refine g_imul dX8_layBridge_5 ?_
  refine g_iadd dX8_layBridge_6 ?_
  refine g_ist5 dX8_layBridge_7 (by decide) lnl_i ?_
  refine g_aload_n dX8_layBridge_9 rfl ?_
  refine g_iload dX8_layBridge_10 rfl ?_
  refine g_iconst (v := 0) dX8_layBridge_12 (by decide) ?_
  refine g_iadd dX8_layBridge_13 ?_
  refine g_iload_n dX8_layBridge_14 rfl ?_
  obtain ⟨hi, hf⟩ := ck_s hf
  refine g_iastore (kk := 78) (by decide) (fun f g => cel_78 _ f g) hi rfl dX8_layBridge_15 ?_
  refine g_aload_n dX8_layBridge_16 rfl ?_
  refine g_iload dX8_layBridge_17 rfl ?_
  refine g_iconst (v := 1) dX8_layBridge_19 (by decide) ?_
  refine g_iadd dX8_layBridge_20 ?_
  refine g_iload_n dX8_layBridge_21 rfl ?_
  obtain ⟨hi, hf⟩ := ck_s hf
  refine g_iastore (kk := 78) (by decide) (fun f g => cel_78 _ f g) hi rfl dX8_layBridge_22 ?_
  refine g_aload_n dX8_layBridge_23 rfl ?_
  refine g_iload dX8_layBridge_24 rfl ?_
  refine g_iconst (v := 2) dX8_layBridge_26 (by decide) ?_
  refine g_iadd dX8_layBridge_27 ?_
  refine g_iload_n dX8_layBridge_28 rfl ?_
  obtain ⟨hi, hf⟩ := ck_s hf
  refine g_iastore (kk := 78) (by decide) (fun f g => cel_78 _ f g) hi rfl dX8_layBridge_29 ?_
  refine g_aload_n dX8_layBridge_30 rfl ?_
  refine g_iload dX8_layBridge_31 rfl ?_
  refine g_iconst (v := 3) dX8_layBridge_33 (by decide) ?_
  refine g_iadd dX8_layBridge_34 ?_
  refine g_iload dX8_layBridge_35 rfl ?_
  obtain ⟨hi, hf⟩ := ck_s hf
  refine g_iastore (kk := 78) (by decide) (fun f g => cel_78 _ f g) hi rfl dX8_layBridge_37 ?_
  refine g_aload_n dX8_layBridge_38 rfl ?_
  refine g_iconst (v := 0) dX8_layBridge_39 (by decide) ?_
  refine g_dup2 dX8_layBridge_40 rfl rfl ?_
  refine g_iaload (kk := 78) (by decide) (fun f g => cel_78 _ f g) (vp_in_iff.mpr ⟨by decide, by decide⟩) (j := 0) (by decide) dX8_layBridge_41 ?_
  refine g_iconst (v := 1) dX8_layBridge_42 (by decide) ?_
  refine g_iadd dX8_layBridge_43 ?_
  refine g_iastore (kk := 78) (by decide) (fun f g => cel_78 _ f g) (vp_in_iff.mpr ⟨by decide, by decide⟩) (j := 0) (by decide) dX8_layBridge_44 ?_
  exact g_vret_w hr hf dX8_layBridge_45
-- X8_takesBridge
def b_X8_takesBridge_48    (M : Mem) : Option (Int32 × Mem) :=
  (f_X8_takes (1 : Int32) (0 : Int32) (5 : Int32) M).bind fun r3 =>
  if r3.1 = 0 then (some ((0 : Int32), r3.2))
  else ((f_X8_takes (2 : Int32) (0 : Int32) (5 : Int32) r3.2).bind fun r4 =>
  if r4.1 = 0 then (some ((0 : Int32), r4.2))
  else ((f_X8_takes (3 : Int32) (0 : Int32) (15 : Int32) r4.2).bind fun r5 =>
  if r5.1 = 0 then (some ((0 : Int32), r5.2))
  else ((f_X8_layBridge_78 (r5.2.1 80 0) (r5.2.1 80 1) (r5.2.1 80 2) (r5.2.1 80 3) r5.2).bind fun r6 =>
  some ((1 : Int32), r6))))
set_option maxHeartbeats 4000000 in
set_option maxRecDepth 100000 in
theorem w_X8_takesBridge_48 {X : Cx} {r : Int32} {M1 : Mem}       {M : Mem} (hr : X.meth.sig.returnType = (some .boolean)) (hf : b_X8_takesBridge_48 M = some (r, M1)) : G X (some (.int r), M1) RX8 cX8_takesBridge 1 5 112 48 [some (.ref (X.1.1 63))] [] M := by
  unfold b_X8_takesBridge_48 at hf
  refine g_aload_n dX8_takesBridge_48 rfl ?_
  refine g_iconst (v := 1) dX8_takesBridge_49 (by decide) ?_
  refine g_iconst (v := 0) dX8_takesBridge_50 (by decide) ?_
  refine g_iconst (v := 5) dX8_takesBridge_51 (by decide) ?_
  obtain ⟨r3, hq, hf⟩ := bnd hf
  refine g_cV_III_I (c_X8_takes (r := r3.1) (M1 := r3.2) hq) cv_X8_293 (by decide) (cel_63 _ _ _) rfl ⟨by decide, by decide⟩ (Nat.le_of_ble_eq_true rfl) dX8_takesBridge_52 ?_
  refine g_if_eq (tgt := 79) dX8_takesBridge_55 (by decide) (fun hc => ?_) (fun hc => ?_)
  · have hf := ite_t hc hf
    refine g_iconst (v := 0) dX8_takesBridge_79 (by decide) ?_
    exact g_zret_w hr (Or.inl rfl) hf dX8_takesBridge_80
  · have hf := ite_f hc hf
    refine g_aload_n dX8_takesBridge_58 rfl ?_
    refine g_iconst (v := 2) dX8_takesBridge_59 (by decide) ?_
    refine g_iconst (v := 0) dX8_takesBridge_60 (by decide) ?_
    refine g_iconst (v := 5) dX8_takesBridge_61 (by decide) ?_
    obtain ⟨r4, hq, hf⟩ := bnd hf
    refine g_cV_III_I (c_X8_takes (r := r4.1) (M1 := r4.2) hq) cv_X8_293 (by decide) (cel_63 _ _ _) rfl ⟨by decide, by decide⟩ (Nat.le_of_ble_eq_true rfl) dX8_takesBridge_62 ?_
    refine g_if_eq (tgt := 79) dX8_takesBridge_65 (by decide) (fun hc => ?_) (fun hc => ?_)
    · have hf := ite_t hc hf
      refine g_iconst (v := 0) dX8_takesBridge_79 (by decide) ?_
      exact g_zret_w hr (Or.inl rfl) hf dX8_takesBridge_80
    · have hf := ite_f hc hf
      refine g_aload_n dX8_takesBridge_68 rfl ?_
      refine g_iconst (v := 3) dX8_takesBridge_69 (by decide) ?_
      refine g_iconst (v := 0) dX8_takesBridge_70 (by decide) ?_
      refine g_bipush (v := 15) dX8_takesBridge_71 (by decide) ?_
      obtain ⟨r5, hq, hf⟩ := bnd hf
      refine g_cV_III_I (c_X8_takes (r := r5.1) (M1 := r5.2) hq) cv_X8_293 (by decide) (cel_63 _ _ _) rfl ⟨by decide, by decide⟩ (Nat.le_of_ble_eq_true rfl) dX8_takesBridge_73 ?_
      refine g_if_ne (tgt := 81) dX8_takesBridge_76 (by decide) (fun hc => ?_) (fun hc => ?_)
      · have hf := ite_f hc hf
        refine g_aload_n dX8_takesBridge_81 rfl ?_
        refine g_get (kk := 63) (by decide) (cel_63 _ _ _) rfl inX8 fl_X8_58 (by decide) rfl dX8_takesBridge_82 ?_
        refine g_aload_n dX8_takesBridge_85 rfl ?_
        refine g_get (kk := 63) (by decide) (cel_63 _ _ _) rfl inX8 fl_X8_64 (by decide) rfl dX8_takesBridge_86 ?_
        refine g_iconst (v := 0) dX8_takesBridge_89 (by decide) ?_
        refine g_iaload (kk := 80) (by decide) (fun f g => cel_80 _ f g) (vp_in_iff.mpr ⟨by decide, by decide⟩) (j := 0) (by decide) dX8_takesBridge_90 ?_
        refine g_aload_n dX8_takesBridge_91 rfl ?_
        refine g_get (kk := 63) (by decide) (cel_63 _ _ _) rfl inX8 fl_X8_64 (by decide) rfl dX8_takesBridge_92 ?_
        refine g_iconst (v := 1) dX8_takesBridge_95 (by decide) ?_
        refine g_iaload (kk := 80) (by decide) (fun f g => cel_80 _ f g) (vp_in_iff.mpr ⟨by decide, by decide⟩) (j := 1) (by decide) dX8_takesBridge_96 ?_
        refine g_aload_n dX8_takesBridge_97 rfl ?_
        refine g_get (kk := 63) (by decide) (cel_63 _ _ _) rfl inX8 fl_X8_64 (by decide) rfl dX8_takesBridge_98 ?_
        refine g_iconst (v := 2) dX8_takesBridge_101 (by decide) ?_
        refine g_iaload (kk := 80) (by decide) (fun f g => cel_80 _ f g) (vp_in_iff.mpr ⟨by decide, by decide⟩) (j := 2) (by decide) dX8_takesBridge_102 ?_
        refine g_aload_n dX8_takesBridge_103 rfl ?_
        refine g_get (kk := 63) (by decide) (cel_63 _ _ _) rfl inX8 fl_X8_64 (by decide) rfl dX8_takesBridge_104 ?_
        refine g_iconst (v := 3) dX8_takesBridge_107 (by decide) ?_
        refine g_iaload (kk := 80) (by decide) (fun f g => cel_80 _ f g) (vp_in_iff.mpr ⟨by decide, by decide⟩) (j := 3) (by decide) dX8_takesBridge_108 ?_
        obtain ⟨r6, hq, hf⟩ := bnd hf
        refine g_cS_RIIII_V (c_X8_layBridge_78 hq) cs_X8_131 ⟨by decide, by decide⟩ (Nat.le_of_ble_eq_true rfl) dX8_takesBridge_109 ?_
        refine g_iconst (v := 1) dX8_takesBridge_112 (by decide) ?_
        exact g_zret_w hr (Or.inr rfl) hf dX8_takesBridge_113
      · have hf := ite_t hc hf
        refine g_iconst (v := 0) dX8_takesBridge_79 (by decide) ?_
        exact g_zret_w hr (Or.inl rfl) hf dX8_takesBridge_80
def f_X8_takesBridge  (M : Mem) : Option (Int32 × Mem) :=
  if (M.1 78 0) = (8 : Int32) then (some ((0 : Int32), M))
  else ((f_X8_goBehind M).bind fun r1 =>
  (f_X8_takes (0 : Int32) (0 : Int32) (5 : Int32) r1).bind fun r2 =>
  if r2.1 = 0 then (some ((0 : Int32), r2.2))
  else (if (r2.2.1 63 23) = (2 : Int32) then (if (r2.2.1 63 24) = (r2.2.1 80 0) then (some ((0 : Int32), r2.2))
  else (b_X8_takesBridge_48 r2.2))
  else (b_X8_takesBridge_48 r2.2)))
set_option maxHeartbeats 4000000 in
set_option maxRecDepth 100000 in
theorem c_X8_takesBridge {l : Launch}  {M : Mem} {r : Int32} {M1 : Mem} (hf : f_X8_takesBridge M = some (r, M1)) : Cn l yX8_takesBridge cX8_takesBridge 1 (some .boolean) 5 112 (fun E => [.ref (E.1 63)]) M (some (.int r), M1) := by
  unfold f_X8_takesBridge at hf
  refine cn_of RX8 (fun E => [some (.ref (E.1 63))]) (by decide +kernel) rfl (fun E => Nat.le_of_ble_eq_true rfl) (fun E => rfl) (fun X hr => ?_)
  refine g_aload_n dX8_takesBridge_0 rfl ?_
  refine g_get (kk := 63) (by decide) (cel_63 _ _ _) rfl inX8 fl_X8_58 (by decide) rfl dX8_takesBridge_1 ?_
  refine g_iconst (v := 0) dX8_takesBridge_4 (by decide) ?_
  refine g_iaload (kk := 78) (by decide) (fun f g => cel_78 _ f g) (vp_in_iff.mpr ⟨by decide, by decide⟩) (j := 0) (by decide) dX8_takesBridge_5 ?_
  refine g_bipush (v := 8) dX8_takesBridge_6 (by decide) ?_
  refine g_icmp_ne (tgt := 13) dX8_takesBridge_8 (by decide) (fun hc => ?_) (fun hc => ?_)
  · have hf := ite_f hc hf
    refine g_aload_n dX8_takesBridge_13 rfl ?_
    obtain ⟨r1, hq, hf⟩ := bnd hf
    refine g_cV_0_V (c_X8_goBehind hq) cv_X8_286 (by decide) (cel_63 _ _ _) rfl ⟨by decide, by decide⟩ (Nat.le_of_ble_eq_true rfl) dX8_takesBridge_14 ?_
    refine g_aload_n dX8_takesBridge_17 rfl ?_
    refine g_iconst (v := 0) dX8_takesBridge_18 (by decide) ?_
    refine g_iconst (v := 0) dX8_takesBridge_19 (by decide) ?_
    refine g_iconst (v := 5) dX8_takesBridge_20 (by decide) ?_
    obtain ⟨r2, hq, hf⟩ := bnd hf
    refine g_cV_III_I (c_X8_takes (r := r2.1) (M1 := r2.2) hq) cv_X8_293 (by decide) (cel_63 _ _ _) rfl ⟨by decide, by decide⟩ (Nat.le_of_ble_eq_true rfl) dX8_takesBridge_21 ?_
    refine g_if_eq (tgt := 79) dX8_takesBridge_24 (by decide) (fun hc => ?_) (fun hc => ?_)
    · have hf := ite_t hc hf
      refine g_iconst (v := 0) dX8_takesBridge_79 (by decide) ?_
      exact g_zret_w hr (Or.inl rfl) hf dX8_takesBridge_80
    · have hf := ite_f hc hf
      refine g_aload_n dX8_takesBridge_27 rfl ?_
      refine g_get (kk := 63) (by decide) (cel_63 _ _ _) rfl inX8 fl_X8_270 (by decide) rfl dX8_takesBridge_28 ?_
      refine g_iconst (v := 2) dX8_takesBridge_31 (by decide) ?_
      refine g_icmp_ne (tgt := 48) dX8_takesBridge_32 (by decide) (fun hc => ?_) (fun hc => ?_)
      · have hf := ite_f hc hf
        exact w_X8_takesBridge_48 hr hf
      · have hf := ite_t hc hf
        refine g_aload_n dX8_takesBridge_35 rfl ?_
        refine g_get (kk := 63) (by decide) (cel_63 _ _ _) rfl inX8 fl_X8_273 (by decide) rfl dX8_takesBridge_36 ?_
        refine g_aload_n dX8_takesBridge_39 rfl ?_
        refine g_get (kk := 63) (by decide) (cel_63 _ _ _) rfl inX8 fl_X8_64 (by decide) rfl dX8_takesBridge_40 ?_
        refine g_iconst (v := 0) dX8_takesBridge_43 (by decide) ?_
        refine g_iaload (kk := 80) (by decide) (fun f g => cel_80 _ f g) (vp_in_iff.mpr ⟨by decide, by decide⟩) (j := 0) (by decide) dX8_takesBridge_44 ?_
        refine g_icmp_eq (tgt := 79) dX8_takesBridge_45 (by decide) (fun hc => ?_) (fun hc => ?_)
        · have hf := ite_t hc hf
          refine g_iconst (v := 0) dX8_takesBridge_79 (by decide) ?_
          exact g_zret_w hr (Or.inl rfl) hf dX8_takesBridge_80
        · have hf := ite_f hc hf
          exact w_X8_takesBridge_48 hr hf
  · have hf := ite_t hc hf
    refine g_iconst (v := 0) dX8_takesBridge_11 (by decide) ?_
    exact g_zret_w hr (Or.inl rfl) hf dX8_takesBridge_12
-- X8_takesRow
def b_X8_takesRow_30   (x1 : Int32) : Nat → Mem → Option (Int32 × Mem)
  | 0, _ => none
  | n + 1, M =>
    if (M.1 63 23) = (2 : Int32) then (ck x1 4 <|
    if (f_X8_many (M.2 79 x1.toNatClampNeg)) = (12 : Int32) then (some ((0 : Int32), M))
    else ((f_X8_takes (1 : Int32) (0 : Int32) (15 : Int32) M).bind fun r4 =>
    if r4.1 = 0 then (some ((0 : Int32), r4.2))
    else (ck x1 4 <|
    ck x1 4 <|
    let M5 := mL r4.2 79 (x1.toNatClampNeg) (f_X8_behind (r4.2.2 79 x1.toNatClampNeg) (r4.2.1 80 1))
    b_X8_takesRow_30 x1 n M5)))
    else (some ((1 : Int32), M))
set_option maxHeartbeats 4000000 in
set_option maxRecDepth 100000 in
theorem w_X8_takesRow_30 {X : Cx} {r : Int32} {M1 : Mem}   {x1 : Int32}   (hr : X.meth.sig.returnType = (some .boolean)) : ∀ (n : Nat)  {M : Mem}, b_X8_takesRow_30 x1 n M = some (r, M1) → G X (some (.int r), M1) RX8 cX8_takesRow 2 5 112 30 [some (.ref (X.1.1 63)), some (.int x1)] [] M := by
  intro n
  induction n with
  | zero => intro M hf; cases hf
  | succ n ih =>
    intro M hf
    rw [b_X8_takesRow_30.eq_2] at hf
    refine g_aload_n dX8_takesRow_30 rfl ?_
    refine g_get (kk := 63) (by decide) (cel_63 _ _ _) rfl inX8 fl_X8_270 (by decide) rfl dX8_takesRow_31 ?_
    refine g_iconst (v := 2) dX8_takesRow_34 (by decide) ?_
    refine g_icmp_ne (tgt := 89) dX8_takesRow_35 (by decide) (fun hc => ?_) (fun hc => ?_)
    · have hf := ite_f hc hf
      refine g_iconst (v := 1) dX8_takesRow_89 (by decide) ?_
      exact g_zret_w hr (Or.inr rfl) hf dX8_takesRow_90
    · have hf := ite_t hc hf
      refine g_aload_n dX8_takesRow_38 rfl ?_
      refine g_get (kk := 63) (by decide) (cel_63 _ _ _) rfl inX8 fl_X8_61 (by decide) rfl dX8_takesRow_39 ?_
      refine g_iload_n dX8_takesRow_42 rfl ?_
      obtain ⟨hi, hf⟩ := ck_s hf
      refine g_laload (kk := 79) (by decide) (fun f g => cel_79 _ f g) hi rfl dX8_takesRow_43 ?_
      refine g_cS_J_I (c_X8_many rfl) cs_X8_71 ⟨by decide, by decide⟩ (Nat.le_of_ble_eq_true rfl) dX8_takesRow_44 ?_
      refine g_bipush (v := 12) dX8_takesRow_47 (by decide) ?_
      refine g_icmp_eq (tgt := 63) dX8_takesRow_49 (by decide) (fun hc => ?_) (fun hc => ?_)
      · have hf := ite_t hc hf
        refine g_iconst (v := 0) dX8_takesRow_63 (by decide) ?_
        exact g_zret_w hr (Or.inl rfl) hf dX8_takesRow_64
      · have hf := ite_f hc hf
        refine g_aload_n dX8_takesRow_52 rfl ?_
        refine g_iconst (v := 1) dX8_takesRow_53 (by decide) ?_
        refine g_iconst (v := 0) dX8_takesRow_54 (by decide) ?_
        refine g_bipush (v := 15) dX8_takesRow_55 (by decide) ?_
        obtain ⟨r4, hq, hf⟩ := bnd hf
        refine g_cV_III_I (c_X8_takes (r := r4.1) (M1 := r4.2) hq) cv_X8_293 (by decide) (cel_63 _ _ _) rfl ⟨by decide, by decide⟩ (Nat.le_of_ble_eq_true rfl) dX8_takesRow_57 ?_
        refine g_if_ne (tgt := 65) dX8_takesRow_60 (by decide) (fun hc => ?_) (fun hc => ?_)
        · have hf := ite_f hc hf
          refine g_aload_n dX8_takesRow_65 rfl ?_
          refine g_get (kk := 63) (by decide) (cel_63 _ _ _) rfl inX8 fl_X8_61 (by decide) rfl dX8_takesRow_66 ?_
          refine g_iload_n dX8_takesRow_69 rfl ?_
          refine g_aload_n dX8_takesRow_70 rfl ?_
          refine g_get (kk := 63) (by decide) (cel_63 _ _ _) rfl inX8 fl_X8_61 (by decide) rfl dX8_takesRow_71 ?_
          refine g_iload_n dX8_takesRow_74 rfl ?_
          obtain ⟨hi, hf⟩ := ck_s hf
          refine g_laload (kk := 79) (by decide) (fun f g => cel_79 _ f g) hi rfl dX8_takesRow_75 ?_
          refine g_aload_n dX8_takesRow_76 rfl ?_
          refine g_get (kk := 63) (by decide) (cel_63 _ _ _) rfl inX8 fl_X8_64 (by decide) rfl dX8_takesRow_77 ?_
          refine g_iconst (v := 1) dX8_takesRow_80 (by decide) ?_
          refine g_iaload (kk := 80) (by decide) (fun f g => cel_80 _ f g) (vp_in_iff.mpr ⟨by decide, by decide⟩) (j := 1) (by decide) dX8_takesRow_81 ?_
          refine g_cS_JI_J (c_X8_behind rfl) cs_X8_79 ⟨by decide, by decide⟩ (Nat.le_of_ble_eq_true rfl) dX8_takesRow_82 ?_
          obtain ⟨hi, hf⟩ := ck_s hf
          refine g_lastore (kk := 79) (by decide) (fun f g => cel_79 _ f g) hi rfl dX8_takesRow_85 ?_
          refine g_goto (tgt := 30) dX8_takesRow_86 (by decide) ?_
          exact ih hf
        · have hf := ite_t hc hf
          refine g_iconst (v := 0) dX8_takesRow_63 (by decide) ?_
          exact g_zret_w hr (Or.inl rfl) hf dX8_takesRow_64
def f_X8_takesRow  (M : Mem) : Option (Int32 × Mem) :=
  (f_X8_goBehind M).bind fun r1 =>
  (f_X8_takes (0 : Int32) (0 : Int32) (3 : Int32) r1).bind fun r2 =>
  if r2.1 = 0 then (some ((0 : Int32), r2.2))
  else (ck (r2.2.1 80 0) 4 <|
  let M3 := mL r2.2 79 ((r2.2.1 80 0).toNatClampNeg) (0 : Int64)
  b_X8_takesRow_30 (r2.2.1 80 0) fu M3)
set_option maxHeartbeats 4000000 in
set_option maxRecDepth 100000 in
theorem c_X8_takesRow {l : Launch}  {M : Mem} {r : Int32} {M1 : Mem} (hf : f_X8_takesRow M = some (r, M1)) : Cn l yX8_takesRow cX8_takesRow 2 (some .boolean) 5 112 (fun E => [.ref (E.1 63)]) M (some (.int r), M1) := by
  unfold f_X8_takesRow at hf
  refine cn_of RX8 (fun E => [some (.ref (E.1 63)), none]) (by decide +kernel) rfl (fun E => Nat.le_of_ble_eq_true rfl) (fun E => rfl) (fun X hr => ?_)
  refine g_aload_n dX8_takesRow_0 rfl ?_
  obtain ⟨r1, hq, hf⟩ := bnd hf
  refine g_cV_0_V (c_X8_goBehind hq) cv_X8_286 (by decide) (cel_63 _ _ _) rfl ⟨by decide, by decide⟩ (Nat.le_of_ble_eq_true rfl) dX8_takesRow_1 ?_
  refine g_aload_n dX8_takesRow_4 rfl ?_
  refine g_iconst (v := 0) dX8_takesRow_5 (by decide) ?_
  refine g_iconst (v := 0) dX8_takesRow_6 (by decide) ?_
  refine g_iconst (v := 3) dX8_takesRow_7 (by decide) ?_
  obtain ⟨r2, hq, hf⟩ := bnd hf
  refine g_cV_III_I (c_X8_takes (r := r2.1) (M1 := r2.2) hq) cv_X8_293 (by decide) (cel_63 _ _ _) rfl ⟨by decide, by decide⟩ (Nat.le_of_ble_eq_true rfl) dX8_takesRow_8 ?_
  refine g_if_ne (tgt := 16) dX8_takesRow_11 (by decide) (fun hc => ?_) (fun hc => ?_)
  · have hf := ite_f hc hf
    refine g_aload_n dX8_takesRow_16 rfl ?_
    refine g_get (kk := 63) (by decide) (cel_63 _ _ _) rfl inX8 fl_X8_64 (by decide) rfl dX8_takesRow_17 ?_
    refine g_iconst (v := 0) dX8_takesRow_20 (by decide) ?_
    refine g_iaload (kk := 80) (by decide) (fun f g => cel_80 _ f g) (vp_in_iff.mpr ⟨by decide, by decide⟩) (j := 0) (by decide) dX8_takesRow_21 ?_
    refine g_ist1 dX8_takesRow_22 (by decide) lnl_r ?_
    refine g_aload_n dX8_takesRow_23 rfl ?_
    refine g_get (kk := 63) (by decide) (cel_63 _ _ _) rfl inX8 fl_X8_61 (by decide) rfl dX8_takesRow_24 ?_
    refine g_iload_n dX8_takesRow_27 rfl ?_
    refine g_lconst (v := 0) dX8_takesRow_28 (by decide) ?_
    obtain ⟨hi, hf⟩ := ck_s hf
    refine g_lastore (kk := 79) (by decide) (fun f g => cel_79 _ f g) hi rfl dX8_takesRow_29 ?_
    exact w_X8_takesRow_30 hr fu hf
  · have hf := ite_t hc hf
    refine g_iconst (v := 0) dX8_takesRow_14 (by decide) ?_
    exact g_zret_w hr (Or.inl rfl) hf dX8_takesRow_15
-- X8_takesItem
def f_X8_takesItem  (M : Mem) : Option (Int32 × Mem) :=
  (f_X8_isWord M (6 : Int32) (98 : Int32) (114 : Int32) (105 : Int32) (100 : Int32) (103 : Int32) (101 : Int32)).bind fun r1 =>
  if r1 = 0 then ((f_X8_isWord M (3 : Int32) (114 : Int32) (111 : Int32) (119 : Int32) (0 : Int32) (0 : Int32) (0 : Int32)).bind fun r2 =>
  if r2 = 0 then (some ((0 : Int32), M))
  else ((f_X8_takesRow M).bind fun r3 =>
  if r3.1 = 0 then (some ((0 : Int32), r3.2))
  else (some ((1 : Int32), r3.2))))
  else ((f_X8_takesBridge M).bind fun r4 =>
  ckB r4.1 (some (r4.1, r4.2)))
set_option maxHeartbeats 4000000 in
set_option maxRecDepth 100000 in
theorem c_X8_takesItem {l : Launch}  {M : Mem} {r : Int32} {M1 : Mem} (hf : f_X8_takesItem M = some (r, M1)) : Cn l yX8_takesItem cX8_takesItem 1 (some .boolean) 6 133 (fun E => [.ref (E.1 63)]) M (some (.int r), M1) := by
  unfold f_X8_takesItem at hf
  refine cn_of RX8 (fun E => [some (.ref (E.1 63))]) (by decide +kernel) rfl (fun E => Nat.le_of_ble_eq_true rfl) (fun E => rfl) (fun X hr => ?_)
  refine g_aload_n dX8_takesItem_0 rfl ?_
  refine g_bipush (v := 6) dX8_takesItem_1 (by decide) ?_
  refine g_bipush (v := 98) dX8_takesItem_3 (by decide) ?_
  refine g_bipush (v := 114) dX8_takesItem_5 (by decide) ?_
  refine g_bipush (v := 105) dX8_takesItem_7 (by decide) ?_
  refine g_bipush (v := 100) dX8_takesItem_9 (by decide) ?_
  refine g_bipush (v := 103) dX8_takesItem_11 (by decide) ?_
  refine g_bipush (v := 101) dX8_takesItem_13 (by decide) ?_
  obtain ⟨r1, hq, hf⟩ := bnd hf
  refine g_cV_IIIIIII_I (c_X8_isWord hq) cv_X8_289 (by decide) (cel_63 _ _ _) rfl ⟨by decide, by decide⟩ (Nat.le_of_ble_eq_true rfl) dX8_takesItem_15 ?_
  refine g_if_eq (tgt := 26) dX8_takesItem_18 (by decide) (fun hc => ?_) (fun hc => ?_)
  · have hf := ite_t hc hf
    refine g_aload_n dX8_takesItem_26 rfl ?_
    refine g_iconst (v := 3) dX8_takesItem_27 (by decide) ?_
    refine g_bipush (v := 114) dX8_takesItem_28 (by decide) ?_
    refine g_bipush (v := 111) dX8_takesItem_30 (by decide) ?_
    refine g_bipush (v := 119) dX8_takesItem_32 (by decide) ?_
    refine g_iconst (v := 0) dX8_takesItem_34 (by decide) ?_
    refine g_iconst (v := 0) dX8_takesItem_35 (by decide) ?_
    refine g_iconst (v := 0) dX8_takesItem_36 (by decide) ?_
    obtain ⟨r2, hq, hf⟩ := bnd hf
    refine g_cV_IIIIIII_I (c_X8_isWord hq) cv_X8_289 (by decide) (cel_63 _ _ _) rfl ⟨by decide, by decide⟩ (Nat.le_of_ble_eq_true rfl) dX8_takesItem_37 ?_
    refine g_if_eq (tgt := 54) dX8_takesItem_40 (by decide) (fun hc => ?_) (fun hc => ?_)
    · have hf := ite_t hc hf
      refine g_iconst (v := 0) dX8_takesItem_54 (by decide) ?_
      exact g_zret_w hr (Or.inl rfl) hf dX8_takesItem_55
    · have hf := ite_f hc hf
      refine g_aload_n dX8_takesItem_43 rfl ?_
      obtain ⟨r3, hq, hf⟩ := bnd hf
      refine g_cV_0_I (c_X8_takesRow (r := r3.1) (M1 := r3.2) hq) cv_X8_300 (by decide) (cel_63 _ _ _) rfl ⟨by decide, by decide⟩ (Nat.le_of_ble_eq_true rfl) dX8_takesItem_44 ?_
      refine g_if_eq (tgt := 54) dX8_takesItem_47 (by decide) (fun hc => ?_) (fun hc => ?_)
      · have hf := ite_t hc hf
        refine g_iconst (v := 0) dX8_takesItem_54 (by decide) ?_
        exact g_zret_w hr (Or.inl rfl) hf dX8_takesItem_55
      · have hf := ite_f hc hf
        refine g_iconst (v := 1) dX8_takesItem_50 (by decide) ?_
        refine g_goto (tgt := 55) dX8_takesItem_51 (by decide) ?_
        exact g_zret_w hr (Or.inr rfl) hf dX8_takesItem_55
  · have hf := ite_f hc hf
    refine g_aload_n dX8_takesItem_21 rfl ?_
    obtain ⟨r4, hq, hf⟩ := bnd hf
    refine g_cV_0_I (c_X8_takesBridge (r := r4.1) (M1 := r4.2) hq) cv_X8_297 (by decide) (cel_63 _ _ _) rfl ⟨by decide, by decide⟩ (Nat.le_of_ble_eq_true rfl) dX8_takesItem_22 ?_
    obtain ⟨hz, hf⟩ := ckB_s hf
    exact g_zret_w hr hz hf dX8_takesItem_25
-- X8_read
def b_X8_read_94   (x1 : Int32) : Nat → Int32 → Mem → Option (Int32 × Mem)
  | 0, _, _ => none
  | n + 1, x2, M =>
    if (4 : Int32) ≤ x2 then (some (x1, M))
    else (ck x2 4 <|
    ck x2 20 <|
    let M4 := mL M 66 (x2.toNatClampNeg) (M.2 79 x2.toNatClampNeg)
    b_X8_read_94 x1 n (x2 + (1 : Int32)) M4)
set_option maxHeartbeats 4000000 in
set_option maxRecDepth 100000 in
theorem w_X8_read_94 {X : Cx} {r : Int32} {M1 : Mem}   {x1 : Int32}   (hr : X.meth.sig.returnType = (some .int)) : ∀ (n : Nat) {x2 : Int32} {M : Mem}, b_X8_read_94 x1 n x2 M = some (r, M1) → G X (some (.int r), M1) RX8 cX8_read 3 7 153 94 [some (.ref (X.1.1 63)), some (.int x1), some (.int x2)] [] M := by
  intro n
  induction n with
  | zero => intro x2 M hf; cases hf
  | succ n ih =>
    intro x2 M hf
    rw [b_X8_read_94.eq_2] at hf
    refine g_iload_n dX8_read_94 rfl ?_
    refine g_iconst (v := 4) dX8_read_95 (by decide) ?_
    refine g_icmp_ge (tgt := 117) dX8_read_96 (by decide) (fun hc => ?_) (fun hc => ?_)
    · have hf := ite_t hc hf
      refine g_iload_n dX8_read_117 rfl ?_
      exact g_iret_w hr hf dX8_read_118
    · have hf := ite_f hc hf
      refine g_aload_n dX8_read_99 rfl ?_
      refine g_get (kk := 63) (by decide) (cel_63 _ _ _) rfl inX8 fl_X8_16 (by decide) rfl dX8_read_100 ?_
      refine g_iload_n dX8_read_103 rfl ?_
      refine g_aload_n dX8_read_104 rfl ?_
      refine g_get (kk := 63) (by decide) (cel_63 _ _ _) rfl inX8 fl_X8_61 (by decide) rfl dX8_read_105 ?_
      refine g_iload_n dX8_read_108 rfl ?_
      obtain ⟨hi, hf⟩ := ck_s hf
      refine g_laload (kk := 79) (by decide) (fun f g => cel_79 _ f g) hi rfl dX8_read_109 ?_
      obtain ⟨hi, hf⟩ := ck_s hf
      refine g_lastore (kk := 66) (by decide) (fun f g => cel_66 _ f g) hi rfl dX8_read_110 ?_
      refine g_iinc2 (v := (x2 + (1 : Int32))) dX8_read_111 (by decide) lnl_i rfl ?_
      refine g_goto (tgt := 94) dX8_read_114 (by decide) ?_
      exact ih hf
def b_X8_read_92   (x1 : Int32) (M : Mem) : Option (Int32 × Mem) :=
  b_X8_read_94 x1 fu (0 : Int32) M
set_option maxHeartbeats 4000000 in
set_option maxRecDepth 100000 in
theorem w_X8_read_92 {X : Cx} {r : Int32} {M1 : Mem}      {x1 : Int32} {M : Mem} (hr : X.meth.sig.returnType = (some .int)) (hf : b_X8_read_92 x1 M = some (r, M1)) : G X (some (.int r), M1) RX8 cX8_read 3 7 153 92 [some (.ref (X.1.1 63)), some (.int x1), none] [] M := by
  unfold b_X8_read_92 at hf
  refine g_iconst (v := 0) dX8_read_92 (by decide) ?_
  refine g_ist2 dX8_read_93 (by decide) lnl_i ?_
  exact w_X8_read_94 hr fu hf
def b_X8_read_68   (x1 : Int32) : Nat → Int32 → Mem → Option (Int32 × Mem)
  | 0, _, _ => none
  | n + 1, x2, M =>
    if (52 : Int32) ≤ x2 then (b_X8_read_92 x1 M)
    else (ck x2 52 <|
    ck x2 188 <|
    let M5 := mI M 64 (x2.toNatClampNeg) (M.1 78 x2.toNatClampNeg)
    b_X8_read_68 x1 n (x2 + (1 : Int32)) M5)
set_option maxHeartbeats 4000000 in
set_option maxRecDepth 100000 in
theorem w_X8_read_68 {X : Cx} {r : Int32} {M1 : Mem}   {x1 : Int32}   (hr : X.meth.sig.returnType = (some .int)) : ∀ (n : Nat) {x2 : Int32} {M : Mem}, b_X8_read_68 x1 n x2 M = some (r, M1) → G X (some (.int r), M1) RX8 cX8_read 3 7 153 68 [some (.ref (X.1.1 63)), some (.int x1), some (.int x2)] [] M := by
  intro n
  induction n with
  | zero => intro x2 M hf; cases hf
  | succ n ih =>
    intro x2 M hf
    rw [b_X8_read_68.eq_2] at hf
    refine g_iload_n dX8_read_68 rfl ?_
    refine g_bipush (v := 52) dX8_read_69 (by decide) ?_
    refine g_icmp_ge (tgt := 92) dX8_read_71 (by decide) (fun hc => ?_) (fun hc => ?_)
    · have hf := ite_t hc hf
      exact g_weakr (w_X8_read_92 hr hf) (lsk (lsk (lsd lsz)))
    · have hf := ite_f hc hf
      refine g_aload_n dX8_read_74 rfl ?_
      refine g_get (kk := 63) (by decide) (cel_63 _ _ _) rfl inX8 fl_X8_7 (by decide) rfl dX8_read_75 ?_
      refine g_iload_n dX8_read_78 rfl ?_
      refine g_aload_n dX8_read_79 rfl ?_
      refine g_get (kk := 63) (by decide) (cel_63 _ _ _) rfl inX8 fl_X8_58 (by decide) rfl dX8_read_80 ?_
      refine g_iload_n dX8_read_83 rfl ?_
      obtain ⟨hi, hf⟩ := ck_s hf
      refine g_iaload (kk := 78) (by decide) (fun f g => cel_78 _ f g) hi rfl dX8_read_84 ?_
      obtain ⟨hi, hf⟩ := ck_s hf
      refine g_iastore (kk := 64) (by decide) (fun f g => cel_64 _ f g) hi rfl dX8_read_85 ?_
      refine g_iinc2 (v := (x2 + (1 : Int32))) dX8_read_86 (by decide) lnl_i rfl ?_
      refine g_goto (tgt := 68) dX8_read_89 (by decide) ?_
      exact ih hf
def b_X8_read_66   (x1 : Int32) (M : Mem) : Option (Int32 × Mem) :=
  b_X8_read_68 x1 fu (0 : Int32) M
set_option maxHeartbeats 4000000 in
set_option maxRecDepth 100000 in
theorem w_X8_read_66 {X : Cx} {r : Int32} {M1 : Mem}      {x1 : Int32} {M : Mem} (hr : X.meth.sig.returnType = (some .int)) (hf : b_X8_read_66 x1 M = some (r, M1)) : G X (some (.int r), M1) RX8 cX8_read 3 7 153 66 [some (.ref (X.1.1 63)), some (.int x1), none] [] M := by
  unfold b_X8_read_66 at hf
  refine g_iconst (v := 0) dX8_read_66 (by decide) ?_
  refine g_ist2 dX8_read_67 (by decide) lnl_i ?_
  exact w_X8_read_68 hr fu hf
def b_X8_read_26    : Nat → Int32 → Mem → Option (Int32 × Mem)
  | 0, _, _ => none
  | n + 1, x1, M =>
    if (M.1 63 23) = 0 then (b_X8_read_66 x1 M)
    else ((f_X8_takesItem M).bind fun r6 =>
    if r6.1 = 0 then (some (((-10 : Int32) - (r6.2.1 63 21)), r6.2))
    else (if (r6.2.1 63 23) = (3 : Int32) then ((f_X8_goBehind r6.2).bind fun r7 =>
    b_X8_read_26 n (x1 + (1 : Int32)) r7)
    else (some (((-10 : Int32) - (r6.2.1 63 21)), r6.2))))
set_option maxHeartbeats 4000000 in
set_option maxRecDepth 100000 in
theorem w_X8_read_26 {X : Cx} {r : Int32} {M1 : Mem}      (hr : X.meth.sig.returnType = (some .int)) : ∀ (n : Nat) {x1 : Int32} {M : Mem}, b_X8_read_26  n x1 M = some (r, M1) → G X (some (.int r), M1) RX8 cX8_read 3 7 153 26 [some (.ref (X.1.1 63)), some (.int x1), none] [] M := by
  intro n
  induction n with
  | zero => intro x1 M hf; cases hf
  | succ n ih =>
    intro x1 M hf
    rw [b_X8_read_26.eq_2] at hf
    refine g_aload_n dX8_read_26 rfl ?_
    refine g_get (kk := 63) (by decide) (cel_63 _ _ _) rfl inX8 fl_X8_270 (by decide) rfl dX8_read_27 ?_
    refine g_if_eq (tgt := 66) dX8_read_30 (by decide) (fun hc => ?_) (fun hc => ?_)
    · have hf := ite_t hc hf
      exact w_X8_read_66 hr hf
    · have hf := ite_f hc hf
      refine g_aload_n dX8_read_33 rfl ?_
      obtain ⟨r6, hq, hf⟩ := bnd hf
      refine g_cV_0_I (c_X8_takesItem (r := r6.1) (M1 := r6.2) hq) cv_X8_306 (by decide) (cel_63 _ _ _) rfl ⟨by decide, by decide⟩ (Nat.le_of_ble_eq_true rfl) dX8_read_34 ?_
      refine g_if_eq (tgt := 48) dX8_read_37 (by decide) (fun hc => ?_) (fun hc => ?_)
      · have hf := ite_t hc hf
        refine g_bipush (v := (-10)) dX8_read_48 (by decide) ?_
        refine g_aload_n dX8_read_50 rfl ?_
        refine g_get (kk := 63) (by decide) (cel_63 _ _ _) rfl inX8 fl_X8_264 (by decide) rfl dX8_read_51 ?_
        refine g_isub dX8_read_54 ?_
        exact g_iret_w hr hf dX8_read_55
      · have hf := ite_f hc hf
        refine g_aload_n dX8_read_40 rfl ?_
        refine g_get (kk := 63) (by decide) (cel_63 _ _ _) rfl inX8 fl_X8_270 (by decide) rfl dX8_read_41 ?_
        refine g_iconst (v := 3) dX8_read_44 (by decide) ?_
        refine g_icmp_eq (tgt := 56) dX8_read_45 (by decide) (fun hc => ?_) (fun hc => ?_)
        · have hf := ite_t hc hf
          refine g_aload_n dX8_read_56 rfl ?_
          obtain ⟨r7, hq, hf⟩ := bnd hf
          refine g_cV_0_V (c_X8_goBehind hq) cv_X8_286 (by decide) (cel_63 _ _ _) rfl ⟨by decide, by decide⟩ (Nat.le_of_ble_eq_true rfl) dX8_read_57 ?_
          refine g_iinc1 (v := (x1 + (1 : Int32))) dX8_read_60 (by decide) lnl_r rfl ?_
          refine g_goto (tgt := 26) dX8_read_63 (by decide) ?_
          exact ih hf
        · have hf := ite_f hc hf
          refine g_bipush (v := (-10)) dX8_read_48 (by decide) ?_
          refine g_aload_n dX8_read_50 rfl ?_
          refine g_get (kk := 63) (by decide) (cel_63 _ _ _) rfl inX8 fl_X8_264 (by decide) rfl dX8_read_51 ?_
          refine g_isub dX8_read_54 ?_
          exact g_iret_w hr hf dX8_read_55
def f_X8_read  (M : Mem) : Option (Int32 × Mem) :=
  (f_X8_lookAt (0 : Int32) M).bind fun r1 =>
  (f_X8_takesFirst r1).bind fun r2 =>
  if r2.1 = 0 then (some (((-10 : Int32) - (r2.2.1 63 21)), r2.2))
  else ((f_X8_goBehind r2.2).bind fun r3 =>
  b_X8_read_26 fu (1 : Int32) r3)
set_option maxHeartbeats 4000000 in
set_option maxRecDepth 100000 in
theorem c_X8_read {l : Launch}  {M : Mem} {r : Int32} {M1 : Mem} (hf : f_X8_read M = some (r, M1)) : Cn l yX8_read cX8_read 3 (some .int) 7 153 (fun E => [.ref (E.1 63)]) M (some (.int r), M1) := by
  unfold f_X8_read at hf
  refine cn_of RX8 (fun E => [some (.ref (E.1 63)), none, none]) (by decide +kernel) rfl (fun E => Nat.le_of_ble_eq_true rfl) (fun E => rfl) (fun X hr => ?_)
  refine g_aload_n dX8_read_0 rfl ?_
  refine g_iconst (v := 0) dX8_read_1 (by decide) ?_
  obtain ⟨r1, hq, hf⟩ := bnd hf
  refine g_cV_I_V (c_X8_lookAt hq) cv_X8_282 (by decide) (cel_63 _ _ _) rfl ⟨by decide, by decide⟩ (Nat.le_of_ble_eq_true rfl) dX8_read_2 ?_
  refine g_aload_n dX8_read_5 rfl ?_
  obtain ⟨r2, hq, hf⟩ := bnd hf
  refine g_cV_0_I (c_X8_takesFirst (r := r2.1) (M1 := r2.2) hq) cv_X8_303 (by decide) (cel_63 _ _ _) rfl ⟨by decide, by decide⟩ (Nat.le_of_ble_eq_true rfl) dX8_read_6 ?_
  refine g_if_ne (tgt := 20) dX8_read_9 (by decide) (fun hc => ?_) (fun hc => ?_)
  · have hf := ite_f hc hf
    refine g_aload_n dX8_read_20 rfl ?_
    obtain ⟨r3, hq, hf⟩ := bnd hf
    refine g_cV_0_V (c_X8_goBehind hq) cv_X8_286 (by decide) (cel_63 _ _ _) rfl ⟨by decide, by decide⟩ (Nat.le_of_ble_eq_true rfl) dX8_read_21 ?_
    refine g_iconst (v := 1) dX8_read_24 (by decide) ?_
    refine g_ist1 dX8_read_25 (by decide) lnl_r ?_
    exact w_X8_read_26 hr fu hf
  · have hf := ite_t hc hf
    refine g_bipush (v := (-10)) dX8_read_12 (by decide) ?_
    refine g_aload_n dX8_read_14 rfl ?_
    refine g_get (kk := 63) (by decide) (cel_63 _ _ _) rfl inX8 fl_X8_264 (by decide) rfl dX8_read_15 ?_
    refine g_isub dX8_read_18 ?_
    exact g_iret_w hr hf dX8_read_19
-- X8_of
def f_X8_of (x1 : Int32) (x2 : Int32) (M : Mem) : Option (Int32 × Mem) :=
  if (f_X8_isBridge M x1) = 0 then ((f_X8_bad (-2 : Int32) M).bind fun r1 =>
  some (r1.1, r1.2))
  else (if (f_X8_in x2.toInt64 (0 : Int64) (3 : Int64)) = 0 then ((f_X8_bad (-2 : Int32) M).bind fun r2 =>
  some (r2.1, r2.2))
  else ((f_X8_get M x1 x2).bind fun r3 =>
  some (r3, M)))
set_option maxHeartbeats 4000000 in
set_option maxRecDepth 100000 in
theorem c_X8_of {l : Launch} {x1 : Int32} {x2 : Int32} {M : Mem} {r : Int32} {M1 : Mem} (hf : f_X8_of x1 x2 M = some (r, M1)) : Cn l yX8_of cX8_of 3 (some .int) 2 46 (fun E => [.ref (E.1 63), .int x1, .int x2]) M (some (.int r), M1) := by
  unfold f_X8_of at hf
  refine cn_of RX8 (fun E => [some (.ref (E.1 63)), some (.int x1), some (.int x2)]) (by decide +kernel) rfl (fun E => Nat.le_of_ble_eq_true rfl) (fun E => rfl) (fun X hr => ?_)
  refine g_aload_n dX8_of_0 rfl ?_
  refine g_iload_n dX8_of_1 rfl ?_
  refine g_cV_I_I (c_X8_isBridge rfl) cv_X8_139 (by decide) (cel_63 _ _ _) rfl ⟨by decide, by decide⟩ (Nat.le_of_ble_eq_true rfl) dX8_of_2 ?_
  refine g_if_eq (tgt := 29) dX8_of_5 (by decide) (fun hc => ?_) (fun hc => ?_)
  · have hf := ite_t hc hf
    refine g_aload_n dX8_of_29 rfl ?_
    refine g_bipush (v := (-2)) dX8_of_30 (by decide) ?_
    obtain ⟨r1, hq, hf⟩ := bnd hf
    refine g_cV_I_I (c_X8_bad (r := r1.1) (M1 := r1.2) hq) cv_X8_116 (by decide) (cel_63 _ _ _) rfl ⟨by decide, by decide⟩ (Nat.le_of_ble_eq_true rfl) dX8_of_32 ?_
    exact g_iret_w hr hf dX8_of_35
  · have hf := ite_f hc hf
    refine g_iload_n dX8_of_8 rfl ?_
    refine g_i2l dX8_of_9 ?_
    refine g_lconst (v := 0) dX8_of_10 (by decide) ?_
    refine g_ldc2 cl_X8_112 dX8_of_11 ?_
    refine g_cS_JJJ_I (c_X8_in rfl) cs_X8_106 ⟨by decide, by decide⟩ (Nat.le_of_ble_eq_true rfl) dX8_of_14 ?_
    refine g_if_eq (tgt := 29) dX8_of_17 (by decide) (fun hc => ?_) (fun hc => ?_)
    · have hf := ite_t hc hf
      refine g_aload_n dX8_of_29 rfl ?_
      refine g_bipush (v := (-2)) dX8_of_30 (by decide) ?_
      obtain ⟨r2, hq, hf⟩ := bnd hf
      refine g_cV_I_I (c_X8_bad (r := r2.1) (M1 := r2.2) hq) cv_X8_116 (by decide) (cel_63 _ _ _) rfl ⟨by decide, by decide⟩ (Nat.le_of_ble_eq_true rfl) dX8_of_32 ?_
      exact g_iret_w hr hf dX8_of_35
    · have hf := ite_f hc hf
      refine g_aload_n dX8_of_20 rfl ?_
      refine g_iload_n dX8_of_21 rfl ?_
      refine g_iload_n dX8_of_22 rfl ?_
      obtain ⟨r3, hq, hf⟩ := bnd hf
      refine g_cV_II_I (c_X8_get hq) cv_X8_135 (by decide) (cel_63 _ _ _) rfl ⟨by decide, by decide⟩ (Nat.le_of_ble_eq_true rfl) dX8_of_23 ?_
      refine g_goto (tgt := 35) dX8_of_26 (by decide) ?_
      exact g_iret_w hr hf dX8_of_35
-- X8_syllable
def f_X8_syllable (x0 : Int64) (x2 : Int32) : Int32 :=
  ((x0 >>> (((4 : Int32) * x2).toInt64 &&& 63)) &&& (15 : Int64)).toInt32
set_option maxHeartbeats 4000000 in
set_option maxRecDepth 100000 in
theorem c_X8_syllable {l : Launch} {x0 : Int64} {x2 : Int32} {M : Mem} {r : Int32} (hf : f_X8_syllable x0 x2 = r) : Cn l yX8_syllable cX8_syllable 3 (some .int) 0 0 (fun E => [.long x0, .int x2]) M (some (.int r), M) := by
  unfold f_X8_syllable at hf
  refine cn_of RX8 (fun E => [some (.long x0), none, some (.int x2)]) (by decide +kernel) rfl (fun E => Nat.le_of_ble_eq_true rfl) (fun E => rfl) (fun X hr => ?_)
  refine g_lload_n dX8_syllable_0 rfl ?_
  refine g_iconst (v := 4) dX8_syllable_1 (by decide) ?_
  refine g_iload_n dX8_syllable_2 rfl ?_
  refine g_imul dX8_syllable_3 ?_
  refine g_lshr dX8_syllable_4 ?_
  refine g_ldc2 cl_X8_67 dX8_syllable_5 ?_
  refine g_land dX8_syllable_8 ?_
  refine g_l2i dX8_syllable_9 ?_
  exact g_iret_t hr hf dX8_syllable_10
-- X8_told
def f_X8_told (x0 : Int64) (x2 : Int32) : Int32 :=
  if x2 = (-1 : Int32) then ((f_X8_many x0))
  else (if (f_X8_many x0) ≤ x2 then ((-5 : Int32))
  else ((f_X8_syllable x0 x2)))
set_option maxHeartbeats 4000000 in
set_option maxRecDepth 100000 in
theorem c_X8_told {l : Launch} {x0 : Int64} {x2 : Int32} {M : Mem} {r : Int32} (hf : f_X8_told x0 x2 = r) : Cn l yX8_told cX8_told 3 (some .int) 1 22 (fun E => [.long x0, .int x2]) M (some (.int r), M) := by
  unfold f_X8_told at hf
  refine cn_of RX8 (fun E => [some (.long x0), none, some (.int x2)]) (by decide +kernel) rfl (fun E => Nat.le_of_ble_eq_true rfl) (fun E => rfl) (fun X hr => ?_)
  refine g_iload_n dX8_told_0 rfl ?_
  refine g_iconst (v := (-1)) dX8_told_1 (by decide) ?_
  refine g_icmp_ne (tgt := 12) dX8_told_2 (by decide) (fun hc => ?_) (fun hc => ?_)
  · have hf := ite_f hc hf
    refine g_iload_n dX8_told_12 rfl ?_
    refine g_lload_n dX8_told_13 rfl ?_
    refine g_cS_J_I (c_X8_many rfl) cs_X8_71 ⟨by decide, by decide⟩ (Nat.le_of_ble_eq_true rfl) dX8_told_14 ?_
    refine g_icmp_ge (tgt := 28) dX8_told_17 (by decide) (fun hc => ?_) (fun hc => ?_)
    · have hf := ite_t hc hf
      refine g_bipush (v := (-5)) dX8_told_28 (by decide) ?_
      exact g_iret_t hr hf dX8_told_30
    · have hf := ite_f hc hf
      refine g_lload_n dX8_told_20 rfl ?_
      refine g_iload_n dX8_told_21 rfl ?_
      refine g_cS_JI_I (c_X8_syllable rfl) cs_X8_82 ⟨by decide, by decide⟩ (Nat.le_of_ble_eq_true rfl) dX8_told_22 ?_
      refine g_goto (tgt := 30) dX8_told_25 (by decide) ?_
      exact g_iret_t hr hf dX8_told_30
  · have hf := ite_t hc hf
    refine g_lload_n dX8_told_5 rfl ?_
    refine g_cS_J_I (c_X8_many rfl) cs_X8_71 ⟨by decide, by decide⟩ (Nat.le_of_ble_eq_true rfl) dX8_told_6 ?_
    refine g_goto (tgt := 30) dX8_told_9 (by decide) ?_
    exact g_iret_t hr hf dX8_told_30
-- X8_at
def f_X8_at (x1 : Int32) (x2 : Int32) (M : Mem) : Option (Int32 × Mem) :=
  if (f_X8_isRow x1) = 0 then ((f_X8_bad (-10 : Int32) M).bind fun r1 =>
  some (r1.1, r1.2))
  else (if x2 < (-1 : Int32) then ((f_X8_bad (-10 : Int32) M).bind fun r2 =>
  some (r2.1, r2.2))
  else (ck x1 20 <|
  some ((f_X8_told (M.2 66 x1.toNatClampNeg) x2), M)))
set_option maxHeartbeats 4000000 in
set_option maxRecDepth 100000 in
theorem c_X8_at {l : Launch} {x1 : Int32} {x2 : Int32} {M : Mem} {r : Int32} {M1 : Mem} (hf : f_X8_at x1 x2 M = some (r, M1)) : Cn l yX8_at cX8_at 3 (some .int) 2 45 (fun E => [.ref (E.1 63), .int x1, .int x2]) M (some (.int r), M1) := by
  unfold f_X8_at at hf
  refine cn_of RX8 (fun E => [some (.ref (E.1 63)), some (.int x1), some (.int x2)]) (by decide +kernel) rfl (fun E => Nat.le_of_ble_eq_true rfl) (fun E => rfl) (fun X hr => ?_)
  refine g_iload_n dX8_at_0 rfl ?_
  refine g_cS_I_I (c_X8_isRow rfl) cs_X8_148 ⟨by decide, by decide⟩ (Nat.le_of_ble_eq_true rfl) dX8_at_1 ?_
  refine g_if_eq (tgt := 25) dX8_at_4 (by decide) (fun hc => ?_) (fun hc => ?_)
  · have hf := ite_t hc hf
    refine g_aload_n dX8_at_25 rfl ?_
    refine g_bipush (v := (-10)) dX8_at_26 (by decide) ?_
    obtain ⟨r1, hq, hf⟩ := bnd hf
    refine g_cV_I_I (c_X8_bad (r := r1.1) (M1 := r1.2) hq) cv_X8_116 (by decide) (cel_63 _ _ _) rfl ⟨by decide, by decide⟩ (Nat.le_of_ble_eq_true rfl) dX8_at_28 ?_
    exact g_iret_w hr hf dX8_at_31
  · have hf := ite_f hc hf
    refine g_iload_n dX8_at_7 rfl ?_
    refine g_iconst (v := (-1)) dX8_at_8 (by decide) ?_
    refine g_icmp_lt (tgt := 25) dX8_at_9 (by decide) (fun hc => ?_) (fun hc => ?_)
    · have hf := ite_t hc hf
      refine g_aload_n dX8_at_25 rfl ?_
      refine g_bipush (v := (-10)) dX8_at_26 (by decide) ?_
      obtain ⟨r2, hq, hf⟩ := bnd hf
      refine g_cV_I_I (c_X8_bad (r := r2.1) (M1 := r2.2) hq) cv_X8_116 (by decide) (cel_63 _ _ _) rfl ⟨by decide, by decide⟩ (Nat.le_of_ble_eq_true rfl) dX8_at_28 ?_
      exact g_iret_w hr hf dX8_at_31
    · have hf := ite_f hc hf
      refine g_aload_n dX8_at_12 rfl ?_
      refine g_get (kk := 63) (by decide) (cel_63 _ _ _) rfl inX8 fl_X8_16 (by decide) rfl dX8_at_13 ?_
      refine g_iload_n dX8_at_16 rfl ?_
      obtain ⟨hi, hf⟩ := ck_s hf
      refine g_laload (kk := 66) (by decide) (fun f g => cel_66 _ f g) hi rfl dX8_at_17 ?_
      refine g_iload_n dX8_at_18 rfl ?_
      refine g_cS_JI_I (c_X8_told rfl) cs_X8_151 ⟨by decide, by decide⟩ (Nat.le_of_ble_eq_true rfl) dX8_at_19 ?_
      refine g_goto (tgt := 31) dX8_at_22 (by decide) ?_
      exact g_iret_w hr hf dX8_at_31
-- X8_firstOnes
def f_X8_firstOnes (x0 : Int64) (x2 : Int32) : Int64 :=
  ((x2.toInt64 <<< ((48 : Int32).toInt64 &&& 63)) + (x0 &&& (((1 : Int64) <<< (((4 : Int32) * x2).toInt64 &&& 63)) - (1 : Int64))))
set_option maxHeartbeats 4000000 in
set_option maxRecDepth 100000 in
theorem c_X8_firstOnes {l : Launch} {x0 : Int64} {x2 : Int32} {M : Mem} {r : Int64} (hf : f_X8_firstOnes x0 x2 = r) : Cn l yX8_firstOnes cX8_firstOnes 3 (some .long) 0 0 (fun E => [.long x0, .int x2]) M (some (.long r), M) := by
  unfold f_X8_firstOnes at hf
  refine cn_of RX8 (fun E => [some (.long x0), none, some (.int x2)]) (by decide +kernel) rfl (fun E => Nat.le_of_ble_eq_true rfl) (fun E => rfl) (fun X hr => ?_)
  refine g_iload_n dX8_firstOnes_0 rfl ?_
  refine g_i2l dX8_firstOnes_1 ?_
  refine g_bipush (v := 48) dX8_firstOnes_2 (by decide) ?_
  refine g_lshl dX8_firstOnes_4 ?_
  refine g_lload_n dX8_firstOnes_5 rfl ?_
  refine g_lconst (v := 1) dX8_firstOnes_6 (by decide) ?_
  refine g_iconst (v := 4) dX8_firstOnes_7 (by decide) ?_
  refine g_iload_n dX8_firstOnes_8 rfl ?_
  refine g_imul dX8_firstOnes_9 ?_
  refine g_lshl dX8_firstOnes_10 ?_
  refine g_lconst (v := 1) dX8_firstOnes_11 (by decide) ?_
  refine g_lsub dX8_firstOnes_12 ?_
  refine g_land dX8_firstOnes_13 ?_
  refine g_ladd dX8_firstOnes_14 ?_
  exact g_lret_t hr hf dX8_firstOnes_15
-- X8_drop
def f_X8_drop (x0 : Int64) (x2 : Int32) : Int64 :=
  if 0 ≤ (((f_X8_many x0) - (x2 - x2 / (3 : Int32) * (3 : Int32))) - (1 : Int32)) then ((f_X8_firstOnes x0 (((f_X8_many x0) - (x2 - x2 / (3 : Int32) * (3 : Int32))) - (1 : Int32))))
  else ((f_X8_firstOnes x0 (0 : Int32)))
set_option maxHeartbeats 4000000 in
set_option maxRecDepth 100000 in
theorem c_X8_drop {l : Launch} {x0 : Int64} {x2 : Int32} {M : Mem} {r : Int64} (hf : f_X8_drop x0 x2 = r) : Cn l yX8_drop cX8_drop 4 (some .long) 1 22 (fun E => [.long x0, .int x2]) M (some (.long r), M) := by
  unfold f_X8_drop at hf
  refine cn_of RX8 (fun E => [some (.long x0), none, some (.int x2), none]) (by decide +kernel) rfl (fun E => Nat.le_of_ble_eq_true rfl) (fun E => rfl) (fun X hr => ?_)
  refine g_lload_n dX8_drop_0 rfl ?_
  refine g_cS_J_I (c_X8_many rfl) cs_X8_71 ⟨by decide, by decide⟩ (Nat.le_of_ble_eq_true rfl) dX8_drop_1 ?_
  refine g_iload_n dX8_drop_4 rfl ?_
  refine g_iconst (v := 3) dX8_drop_5 (by decide) ?_
  refine g_irem dX8_drop_6 (by decide) ?_
  refine g_isub dX8_drop_7 ?_
  refine g_iconst (v := 1) dX8_drop_8 (by decide) ?_
  refine g_isub dX8_drop_9 ?_
  refine g_ist3 dX8_drop_10 (by decide) lnl_i ?_
  refine g_lload_n dX8_drop_11 rfl ?_
  refine g_iload_n dX8_drop_12 rfl ?_
  refine g_if_ge (tgt := 20) dX8_drop_13 (by decide) (fun hc => ?_) (fun hc => ?_)
  · have hf := ite_t hc hf
    refine g_iload_n dX8_drop_20 rfl ?_
    refine g_cS_JI_J (c_X8_firstOnes rfl) cs_X8_75 ⟨by decide, by decide⟩ (Nat.le_of_ble_eq_true rfl) dX8_drop_21 ?_
    exact g_lret_t hr hf dX8_drop_24
  · have hf := ite_f hc hf
    refine g_iconst (v := 0) dX8_drop_16 (by decide) ?_
    refine g_goto (tgt := 21) dX8_drop_17 (by decide) ?_
    refine g_cS_JI_J (c_X8_firstOnes rfl) cs_X8_75 ⟨by decide, by decide⟩ (Nat.le_of_ble_eq_true rfl) dX8_drop_21 ?_
    exact g_lret_t hr hf dX8_drop_24
