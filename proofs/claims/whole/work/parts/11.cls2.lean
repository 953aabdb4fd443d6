-- X7_canSay
def f_X7_canSay (x0 : Int32) (x1 : Int32) : Int32 :=
  if (x1 &&& (x0 ^^^ (-1 : Int32))) = 0 then ((1 : Int32))
  else ((0 : Int32))
set_option maxHeartbeats 4000000 in
set_option maxRecDepth 100000 in
theorem c_X7_canSay {l : Launch} {x0 : Int32} {x1 : Int32} {M : Mem} {r : Int32} (hf : f_X7_canSay x0 x1 = r) : Cn l yX7_canSay cX7_canSay 2 (some .boolean) 0 0 (fun E => [.int x0, .int x1]) M (some (.int r), M) := by
  unfold f_X7_canSay at hf
  refine cn_of RX7 (fun E => [some (.int x0), some (.int x1)]) (by decide +kernel) rfl (fun E => Nat.le_of_ble_eq_true rfl) (fun E => rfl) (fun X hr => ?_)
  refine g_iload_n dX7_canSay_0 rfl ?_
  refine g_iload_n dX7_canSay_1 rfl ?_
  refine g_iconst (v := (-1)) dX7_canSay_2 (by decide) ?_
  refine g_ixor dX7_canSay_3 ?_
  refine g_iand dX7_canSay_4 ?_
  refine g_if_ne (tgt := 12) dX7_canSay_5 (by decide) (fun hc => ?_) (fun hc => ?_)
  · have hf := ite_f hc hf
    refine g_iconst (v := 0) dX7_canSay_12 (by decide) ?_
    exact g_zret_t hr (Or.inl rfl) hf dX7_canSay_13
  · have hf := ite_t hc hf
    refine g_iconst (v := 1) dX7_canSay_8 (by decide) ?_
    refine g_goto (tgt := 13) dX7_canSay_9 (by decide) ?_
    exact g_zret_t hr (Or.inr rfl) hf dX7_canSay_13
theorem z_X7_canSay  {x0 : Int32} {x1 : Int32} : f_X7_canSay x0 x1 = 0 ∨ f_X7_canSay x0 x1 = 1 := by
  unfold f_X7_canSay
  first | (repeat' split) <;> first | exact Or.inl rfl | exact Or.inr rfl
-- X7_boat
def b_X7_boat_125 (k70 : Int64 → Int32 → Int32 → Int32 → Mem → Option (Int32 × Mem))  (x2 : Int32) (x4 : Int32) (x5 : Int32) (x6 : Int64) (x8 : Int32) (x9 : Int32) (x10 : Int32) (M : Mem) : Option (Int32 × Mem) :=
  k70 x6 x8 x9 (x10 + (1 : Int32)) M
set_option maxHeartbeats 4000000 in
set_option maxRecDepth 100000 in
theorem w_X7_boat_125 {X : Cx} {r : Int32} {M1 : Mem}  {k70 : Int64 → Int32 → Int32 → Int32 → Mem → Option (Int32 × Mem)} {x2 : Int32} {x4 : Int32} {x5 : Int32}   {x6 : Int64} {x8 : Int32} {x9 : Int32} {x10 : Int32} {M : Mem} (hr : X.meth.sig.returnType = (some .int)) (hk70 : ∀ {x6_ : Int64} {x8_ : Int32} {x9_ : Int32} {x10_ : Int32} {M_ : Mem}, k70 x6_ x8_ x9_ x10_ M_ = some (r, M1) → G X (some (.int r), M1) RX7 cX7_boat 11 5 121 70 [some (.ref (X.1.1 0)), none, some (.int x2), none, some (.int x4), some (.int x5), some (.long x6_), none, some (.int x8_), some (.int x9_), some (.int x10_)] [] M_) (hf : b_X7_boat_125 k70 x2 x4 x5 x6 x8 x9 x10 M = some (r, M1)) : G X (some (.int r), M1) RX7 cX7_boat 11 5 121 125 [some (.ref (X.1.1 0)), none, some (.int x2), none, some (.int x4), some (.int x5), some (.long x6), none, some (.int x8), some (.int x9), some (.int x10)] [] M := by
  unfold b_X7_boat_125 at hf
  refine g_iinc10 (v := (x10 + (1 : Int32))) dX7_boat_125 (by decide) lnl_i rfl ?_
  refine g_goto (tgt := 70) dX7_boat_128 (by decide) ?_
  exact hk70 hf
def b_X7_boat_70   (x2 : Int32) (x4 : Int32) (x5 : Int32) : Nat → Int64 → Int32 → Int32 → Int32 → Mem → Option (Int32 × Mem)
  | 0, _, _, _, _, _ => none
  | n + 1, x6, x8, x9, x10, M =>
    if x4 < x10 then (if x5 = 0 then (some (x9, M))
    else (some (x8, M)))
    else (if x9 = (-1 : Int32) then ((f_X4_behind_1 M x10 x6).bind fun r6 =>
    (f_X1_sounds r6).bind fun r7 =>
    if (f_X7_canSay x2 r7) = 0 then (b_X7_boat_125 (fun x6_ x8_ x9_ x10_ M_ => b_X7_boat_70 x2 x4 x5 n x6_ x8_ x9_ x10_ M_) x2 x4 x5 r6 x8 x10 x10 M)
    else (b_X7_boat_125 (fun x6_ x8_ x9_ x10_ M_ => b_X7_boat_70 x2 x4 x5 n x6_ x8_ x9_ x10_ M_) x2 x4 x5 r6 (x8 + (f_X1_length r6)) x9 x10 M))
    else (if x5 = 0 then (some (x9, M))
    else (some (x8, M))))
set_option maxHeartbeats 4000000 in
set_option maxRecDepth 100000 in
theorem w_X7_boat_70 {X : Cx} {r : Int32} {M1 : Mem}   {x2 : Int32} {x4 : Int32} {x5 : Int32}   (hr : X.meth.sig.returnType = (some .int)) : ∀ (n : Nat) {x6 : Int64} {x8 : Int32} {x9 : Int32} {x10 : Int32} {M : Mem}, b_X7_boat_70 x2 x4 x5 n x6 x8 x9 x10 M = some (r, M1) → G X (some (.int r), M1) RX7 cX7_boat 11 5 121 70 [some (.ref (X.1.1 0)), none, some (.int x2), none, some (.int x4), some (.int x5), some (.long x6), none, some (.int x8), some (.int x9), some (.int x10)] [] M := by
  intro n
  induction n with
  | zero => intro x6 x8 x9 x10 M hf; cases hf
  | succ n ih =>
    intro x6 x8 x9 x10 M hf
    rw [b_X7_boat_70.eq_2] at hf
    refine g_iload dX7_boat_70 rfl ?_
    refine g_iload dX7_boat_72 rfl ?_
    refine g_icmp_gt (tgt := 131) dX7_boat_74 (by decide) (fun hc => ?_) (fun hc => ?_)
    · have hf := ite_t hc hf
      refine g_iload dX7_boat_131 rfl ?_
      refine g_if_ne (tgt := 141) dX7_boat_133 (by decide) (fun hc => ?_) (fun hc => ?_)
      · have hf := ite_f hc hf
        refine g_iload dX7_boat_141 rfl ?_
        exact g_iret_w hr hf dX7_boat_143
      · have hf := ite_t hc hf
        refine g_iload dX7_boat_136 rfl ?_
        refine g_goto (tgt := 143) dX7_boat_138 (by decide) ?_
        exact g_iret_w hr hf dX7_boat_143
    · have hf := ite_f hc hf
      refine g_iload dX7_boat_77 rfl ?_
      refine g_iconst (v := (-1)) dX7_boat_79 (by decide) ?_
      refine g_icmp_ne (tgt := 131) dX7_boat_80 (by decide) (fun hc => ?_) (fun hc => ?_)
      · have hf := ite_f hc hf
        refine g_iload dX7_boat_131 rfl ?_
        refine g_if_ne (tgt := 141) dX7_boat_133 (by decide) (fun hc => ?_) (fun hc => ?_)
        · have hf := ite_f hc hf
          refine g_iload dX7_boat_141 rfl ?_
          exact g_iret_w hr hf dX7_boat_143
        · have hf := ite_t hc hf
          refine g_iload dX7_boat_136 rfl ?_
          refine g_goto (tgt := 143) dX7_boat_138 (by decide) ?_
          exact g_iret_w hr hf dX7_boat_143
      · have hf := ite_t hc hf
        refine g_aload_n dX7_boat_83 rfl ?_
        refine g_get (kk := 0) (by decide) (cel_0 _ _ _) rfl inX7 fl_X7_10 (by decide) rfl dX7_boat_84 ?_
        refine g_iload dX7_boat_87 rfl ?_
        refine g_lload dX7_boat_89 rfl ?_
        obtain ⟨r6, hq, hf⟩ := bnd hf
        refine g_cV_IJ_J (c_X4_behind_1 hq) cv_X7_154 (by decide) (cel_1 _ _ _) rfl ⟨by decide, by decide⟩ (Nat.le_of_ble_eq_true rfl) dX7_boat_91 ?_
        refine g_lst6 dX7_boat_94 (by decide) lnl_i ?_
        refine g_iload_n dX7_boat_96 rfl ?_
        refine g_lload dX7_boat_97 rfl ?_
        obtain ⟨r7, hq, hf⟩ := bnd hf
        refine g_cS_J_I (c_X1_sounds hq) cs_X7_159 ⟨by decide, by decide⟩ (Nat.le_of_ble_eq_true rfl) dX7_boat_99 ?_
        refine g_cS_II_I (c_X7_canSay rfl) cs_X7_162 ⟨by decide, by decide⟩ (Nat.le_of_ble_eq_true rfl) dX7_boat_102 ?_
        refine g_if_eq (tgt := 121) dX7_boat_105 (by decide) (fun hc => ?_) (fun hc => ?_)
        · have hf := ite_t hc hf
          refine g_iload dX7_boat_121 rfl ?_
          refine g_ist9 dX7_boat_123 (by decide) lnl_i ?_
          exact w_X7_boat_125 hr (fun hf => ih hf) hf
        · have hf := ite_f hc hf
          refine g_iload dX7_boat_108 rfl ?_
          refine g_lload dX7_boat_110 rfl ?_
          refine g_cS_J_I (c_X1_length rfl) cs_X7_112 ⟨by decide, by decide⟩ (Nat.le_of_ble_eq_true rfl) dX7_boat_112 ?_
          refine g_iadd dX7_boat_115 ?_
          refine g_ist8 dX7_boat_116 (by decide) lnl_n ?_
          refine g_goto (tgt := 125) dX7_boat_118 (by decide) ?_
          exact w_X7_boat_125 hr (fun hf => ih hf) hf
def f_X7_boat (x1 : Int32) (x2 : Int32) (x3 : Int32) (x4 : Int32) (x5 : Int32) (M : Mem) : Option (Int32 × Mem) :=
  if (f_X7_isRow x1) = 0 then ((f_X7_refuseBad (-10 : Int32) M).bind fun r1 =>
  some (r1.1, r1.2))
  else (if x2 < 0 then ((f_X7_refuseBad (-10 : Int32) M).bind fun r2 =>
  some (r2.1, r2.2))
  else (if (65535 : Int32) < x2 then ((f_X7_refuseBad (-10 : Int32) M).bind fun r3 =>
  some (r3.1, r3.2))
  else (if (f_X7_isBridge M x3) = 0 then ((f_X7_refuseBad (-10 : Int32) M).bind fun r4 =>
  some (r4.1, r4.2))
  else (if (f_X7_isBridge M x4) = 0 then ((f_X7_refuseBad (-10 : Int32) M).bind fun r5 =>
  some (r5.1, r5.2))
  else (if (f_X7_isBelow x5 (2 : Int32)) = 0 then ((f_X7_refuseBad (-10 : Int32) M).bind fun r8 =>
  some (r8.1, r8.2))
  else (ck x1 4 <|
  b_X7_boat_70 x2 x4 x5 fu (M.2 6 x1.toNatClampNeg) (0 : Int32) (-1 : Int32) x3 M))))))
set_option maxHeartbeats 4000000 in
set_option maxRecDepth 100000 in
theorem c_X7_boat {l : Launch} {x1 : Int32} {x2 : Int32} {x3 : Int32} {x4 : Int32} {x5 : Int32} {M : Mem} {r : Int32} {M1 : Mem} (hf : f_X7_boat x1 x2 x3 x4 x5 M = some (r, M1)) : Cn l yX7_boat cX7_boat 11 (some .int) 5 121 (fun E => [.ref (E.1 0), .int x1, .int x2, .int x3, .int x4, .int x5]) M (some (.int r), M1) := by
  unfold f_X7_boat at hf
  refine cn_of RX7 (fun E => [some (.ref (E.1 0)), some (.int x1), some (.int x2), some (.int x3), some (.int x4), some (.int x5), none, none, none, none, none]) (by decide +kernel) rfl (fun E => Nat.le_of_ble_eq_true rfl) (fun E => rfl) (fun X hr => ?_)
  refine g_iload_n dX7_boat_0 rfl ?_
  refine g_cS_I_I (c_X7_isRow rfl) cs_X7_106 ⟨by decide, by decide⟩ (Nat.le_of_ble_eq_true rfl) dX7_boat_1 ?_
  refine g_if_eq (tgt := 43) dX7_boat_4 (by decide) (fun hc => ?_) (fun hc => ?_)
  · have hf := ite_t hc hf
    refine g_aload_n dX7_boat_43 rfl ?_
    refine g_bipush (v := (-10)) dX7_boat_44 (by decide) ?_
    obtain ⟨r1, hq, hf⟩ := bnd hf
    refine g_cV_I_I (c_X7_refuseBad (r := r1.1) (M1 := r1.2) hq) cv_X7_60 (by decide) (cel_0 _ _ _) rfl ⟨by decide, by decide⟩ (Nat.le_of_ble_eq_true rfl) dX7_boat_46 ?_
    exact g_iret_w hr hf dX7_boat_49
  · have hf := ite_f hc hf
    refine g_iload_n dX7_boat_7 rfl ?_
    refine g_if_lt (tgt := 43) dX7_boat_8 (by decide) (fun hc => ?_) (fun hc => ?_)
    · have hf := ite_t hc hf
      refine g_aload_n dX7_boat_43 rfl ?_
      refine g_bipush (v := (-10)) dX7_boat_44 (by decide) ?_
      obtain ⟨r2, hq, hf⟩ := bnd hf
      refine g_cV_I_I (c_X7_refuseBad (r := r2.1) (M1 := r2.2) hq) cv_X7_60 (by decide) (cel_0 _ _ _) rfl ⟨by decide, by decide⟩ (Nat.le_of_ble_eq_true rfl) dX7_boat_46 ?_
      exact g_iret_w hr hf dX7_boat_49
    · have hf := ite_f hc hf
      refine g_iload_n dX7_boat_11 rfl ?_
      refine g_ldc ct_X7_158 dX7_boat_12 ?_
      refine g_icmp_gt (tgt := 43) dX7_boat_14 (by decide) (fun hc => ?_) (fun hc => ?_)
      · have hf := ite_t hc hf
        refine g_aload_n dX7_boat_43 rfl ?_
        refine g_bipush (v := (-10)) dX7_boat_44 (by decide) ?_
        obtain ⟨r3, hq, hf⟩ := bnd hf
        refine g_cV_I_I (c_X7_refuseBad (r := r3.1) (M1 := r3.2) hq) cv_X7_60 (by decide) (cel_0 _ _ _) rfl ⟨by decide, by decide⟩ (Nat.le_of_ble_eq_true rfl) dX7_boat_46 ?_
        exact g_iret_w hr hf dX7_boat_49
      · have hf := ite_f hc hf
        refine g_aload_n dX7_boat_17 rfl ?_
        refine g_iload_n dX7_boat_18 rfl ?_
        refine g_cV_I_I (c_X7_isBridge rfl) cv_X7_83 (by decide) (cel_0 _ _ _) rfl ⟨by decide, by decide⟩ (Nat.le_of_ble_eq_true rfl) dX7_boat_19 ?_
        refine g_if_eq (tgt := 43) dX7_boat_22 (by decide) (fun hc => ?_) (fun hc => ?_)
        · have hf := ite_t hc hf
          refine g_aload_n dX7_boat_43 rfl ?_
          refine g_bipush (v := (-10)) dX7_boat_44 (by decide) ?_
          obtain ⟨r4, hq, hf⟩ := bnd hf
          refine g_cV_I_I (c_X7_refuseBad (r := r4.1) (M1 := r4.2) hq) cv_X7_60 (by decide) (cel_0 _ _ _) rfl ⟨by decide, by decide⟩ (Nat.le_of_ble_eq_true rfl) dX7_boat_46 ?_
          exact g_iret_w hr hf dX7_boat_49
        · have hf := ite_f hc hf
          refine g_aload_n dX7_boat_25 rfl ?_
          refine g_iload dX7_boat_26 rfl ?_
          refine g_cV_I_I (c_X7_isBridge rfl) cv_X7_83 (by decide) (cel_0 _ _ _) rfl ⟨by decide, by decide⟩ (Nat.le_of_ble_eq_true rfl) dX7_boat_28 ?_
          refine g_if_eq (tgt := 43) dX7_boat_31 (by decide) (fun hc => ?_) (fun hc => ?_)
          · have hf := ite_t hc hf
            refine g_aload_n dX7_boat_43 rfl ?_
            refine g_bipush (v := (-10)) dX7_boat_44 (by decide) ?_
            obtain ⟨r5, hq, hf⟩ := bnd hf
            refine g_cV_I_I (c_X7_refuseBad (r := r5.1) (M1 := r5.2) hq) cv_X7_60 (by decide) (cel_0 _ _ _) rfl ⟨by decide, by decide⟩ (Nat.le_of_ble_eq_true rfl) dX7_boat_46 ?_
            exact g_iret_w hr hf dX7_boat_49
          · have hf := ite_f hc hf
            refine g_iload dX7_boat_34 rfl ?_
            refine g_iconst (v := 2) dX7_boat_36 (by decide) ?_
            refine g_cS_II_I (c_X7_isBelow rfl) cs_X7_56 ⟨by decide, by decide⟩ (Nat.le_of_ble_eq_true rfl) dX7_boat_37 ?_
            refine g_if_ne (tgt := 50) dX7_boat_40 (by decide) (fun hc => ?_) (fun hc => ?_)
            · have hf := ite_f hc hf
              refine g_aload_n dX7_boat_50 rfl ?_
              refine g_get (kk := 0) (by decide) (cel_0 _ _ _) rfl inX7 fl_X7_10 (by decide) rfl dX7_boat_51 ?_
              refine g_get (kk := 1) (by decide) (cel_1 _ _ _) rfl inX4 fl_X7_109 (by decide) rfl dX7_boat_54 ?_
              refine g_iload_n dX7_boat_57 rfl ?_
              obtain ⟨hi, hf⟩ := ck_s hf
              refine g_laload (kk := 6) (by decide) (fun f g => cel_6 _ f g) hi rfl dX7_boat_58 ?_
              refine g_lst6 dX7_boat_59 (by decide) lnl_i ?_
              refine g_iconst (v := 0) dX7_boat_61 (by decide) ?_
              refine g_ist8 dX7_boat_62 (by decide) lnl_n ?_
              refine g_iconst (v := (-1)) dX7_boat_64 (by decide) ?_
              refine g_ist9 dX7_boat_65 (by decide) lnl_i ?_
              refine g_iload_n dX7_boat_67 rfl ?_
              refine g_ist10 dX7_boat_68 (by decide) lnl_i ?_
              exact g_weakr (w_X7_boat_70 hr fu hf) (lsk (lsd (lsk (lsd (lsk (lsk (lsk (lsd (lsk (lsk (lsk lsz)))))))))))
            · have hf := ite_t hc hf
              refine g_aload_n dX7_boat_43 rfl ?_
              refine g_bipush (v := (-10)) dX7_boat_44 (by decide) ?_
              obtain ⟨r8, hq, hf⟩ := bnd hf
              refine g_cV_I_I (c_X7_refuseBad (r := r8.1) (M1 := r8.2) hq) cv_X7_60 (by decide) (cel_0 _ _ _) rfl ⟨by decide, by decide⟩ (Nat.le_of_ble_eq_true rfl) dX7_boat_46 ?_
              exact g_iret_w hr hf dX7_boat_49
-- X6_arrive
def b_X6_arrive_41   (x1 : Int32) (x2 : Int32) (M : Mem) : Option Mem :=
  let M1 := mI M 57 2 x2
  let M2 := mI M1 57 1 x1
  let M3 := rI M2 58 (va_cpy (M2.1 59) (M2.1 58) 0 0 6)
  let M4 := mI M3 57 3 ((M3.1 57 3) + (1 : Int32))
  some M4
set_option maxHeartbeats 4000000 in
set_option maxRecDepth 100000 in
theorem w_X6_arrive_41 {X : Cx} {M1 : Mem}      {x1 : Int32} {x2 : Int32} {M : Mem} (hr : X.meth.sig.returnType = none) (hf : b_X6_arrive_41 x1 x2 M = some M1) : G X (none, M1) RX6 cX6_arrive 4 1 60 41 [some (.ref (X.1.1 57)), some (.int x1), some (.int x2), none] [] M := by
  unfold b_X6_arrive_41 at hf
  refine g_aload_n dX6_arrive_41 rfl ?_
  refine g_iload_n dX6_arrive_42 rfl ?_
  refine g_putI (kk := 57) (by decide) (cel_57 _ _ _) (pI_57_2 _ _ _ _) rfl inX6 tyX6_ok nmX6 fl_X6_55 (by decide) (Nat.le_of_ble_eq_true rfl) rfl (by decide +kernel) dX6_arrive_43 ?_
  refine g_aload_n dX6_arrive_46 rfl ?_
  refine g_iload_n dX6_arrive_47 rfl ?_
  refine g_putI (kk := 57) (by decide) (cel_57 _ _ _) (pI_57_1 _ _ _ _) rfl inX6 tyX6_ok nmX6 fl_X6_58 (by decide) (Nat.le_of_ble_eq_true rfl) rfl (by decide +kernel) dX6_arrive_48 ?_
  refine g_aload_n dX6_arrive_51 rfl ?_
  refine g_get (kk := 57) (by decide) (cel_57 _ _ _) rfl inX6 fl_X6_15 (by decide) rfl dX6_arrive_52 ?_
  refine g_iconst (v := 0) dX6_arrive_55 (by decide) ?_
  refine g_aload_n dX6_arrive_56 rfl ?_
  refine g_get (kk := 57) (by decide) (cel_57 _ _ _) rfl inX6 fl_X6_9 (by decide) rfl dX6_arrive_57 ?_
  refine g_iconst (v := 0) dX6_arrive_60 (by decide) ?_
  refine g_bipush (v := 6) dX6_arrive_61 (by decide) ?_
  refine g_copyI (k0 := 59) (k1 := 58) ac_X6_61 ac_nat ac_st ac_in (by decide) (fun f g => cel_59 _ f g) (by decide) (fun f g => cel_58 _ f g) (by decide) (by decide) (by decide) (by decide) (by decide) (by decide) (by decide) dX6_arrive_63 ?_
  refine g_aload_n dX6_arrive_66 rfl ?_
  refine g_dup dX6_arrive_67 rfl ?_
  refine g_get (kk := 57) (by decide) (cel_57 _ _ _) rfl inX6 fl_X6_22 (by decide) rfl dX6_arrive_68 ?_
  refine g_iconst (v := 1) dX6_arrive_71 (by decide) ?_
  refine g_iadd dX6_arrive_72 ?_
  refine g_putI (kk := 57) (by decide) (cel_57 _ _ _) (pI_57_3 _ _ _ _) rfl inX6 tyX6_ok nmX6 fl_X6_22 (by decide) (Nat.le_of_ble_eq_true rfl) rfl (by decide +kernel) dX6_arrive_73 ?_
  exact g_vret_w hr hf dX6_arrive_76
def b_X6_arrive_29   (x1 : Int32) (x2 : Int32) (t0 : Int32) (M : Mem) : Option Mem :=
  if (M.1 57 3) = 0 then (b_X6_arrive_41 x1 x2 M)
  else (if t0 = 0 then (let M5 := mI M 57 3 ((M.1 57 3) + (1 : Int32))
  some M5)
  else (b_X6_arrive_41 x1 x2 M))
set_option maxHeartbeats 4000000 in
set_option maxRecDepth 100000 in
theorem w_X6_arrive_29 {X : Cx} {M1 : Mem}      {x1 : Int32} {x2 : Int32} {t0 : Int32} {M : Mem} (hr : X.meth.sig.returnType = none) (hf : b_X6_arrive_29 x1 x2 t0 M = some M1) : G X (none, M1) RX6 cX6_arrive 4 1 60 29 [some (.ref (X.1.1 57)), some (.int x1), some (.int x2), none] [.int t0] M := by
  unfold b_X6_arrive_29 at hf
  refine g_ist3 dX6_arrive_29 (by decide) lnl_i ?_
  refine g_aload_n dX6_arrive_30 rfl ?_
  refine g_get (kk := 57) (by decide) (cel_57 _ _ _) rfl inX6 fl_X6_22 (by decide) rfl dX6_arrive_31 ?_
  refine g_if_eq (tgt := 41) dX6_arrive_34 (by decide) (fun hc => ?_) (fun hc => ?_)
  · have hf := ite_t hc hf
    exact g_weakr (w_X6_arrive_41 hr hf) (lsk (lsk (lsk (lsd lsz))))
  · have hf := ite_f hc hf
    refine g_iload_n dX6_arrive_37 rfl ?_
    refine g_if_eq (tgt := 66) dX6_arrive_38 (by decide) (fun hc => ?_) (fun hc => ?_)
    · have hf := ite_t hc hf
      refine g_aload_n dX6_arrive_66 rfl ?_
      refine g_dup dX6_arrive_67 rfl ?_
      refine g_get (kk := 57) (by decide) (cel_57 _ _ _) rfl inX6 fl_X6_22 (by decide) rfl dX6_arrive_68 ?_
      refine g_iconst (v := 1) dX6_arrive_71 (by decide) ?_
      refine g_iadd dX6_arrive_72 ?_
      refine g_putI (kk := 57) (by decide) (cel_57 _ _ _) (pI_57_3 _ _ _ _) rfl inX6 tyX6_ok nmX6 fl_X6_22 (by decide) (Nat.le_of_ble_eq_true rfl) rfl (by decide +kernel) dX6_arrive_73 ?_
      exact g_vret_w hr hf dX6_arrive_76
    · have hf := ite_f hc hf
      exact g_weakr (w_X6_arrive_41 hr hf) (lsk (lsk (lsk (lsd lsz))))
def f_X6_arrive (x1 : Int32) (x2 : Int32) (M : Mem) : Option Mem :=
  if x2 < (M.1 57 2) then (b_X6_arrive_29 x1 x2 (1 : Int32) M)
  else (if x2 = (M.1 57 2) then (if (M.1 57 1) ≤ x1 then (b_X6_arrive_29 x1 x2 (0 : Int32) M)
  else (b_X6_arrive_29 x1 x2 (1 : Int32) M))
  else (b_X6_arrive_29 x1 x2 (0 : Int32) M))
set_option maxHeartbeats 4000000 in
set_option maxRecDepth 100000 in
theorem c_X6_arrive {l : Launch} {x1 : Int32} {x2 : Int32} {M : Mem} {M1 : Mem} (hf : f_X6_arrive x1 x2 M = some M1) : Cn l yX6_arrive cX6_arrive 4 none 1 60 (fun E => [.ref (E.1 57), .int x1, .int x2]) M (none, M1) := by
  unfold f_X6_arrive at hf
  refine cn_of RX6 (fun E => [some (.ref (E.1 57)), some (.int x1), some (.int x2), none]) (by decide +kernel) rfl (fun E => Nat.le_of_ble_eq_true rfl) (fun E => rfl) (fun X hr => ?_)
  refine g_iload_n dX6_arrive_0 rfl ?_
  refine g_aload_n dX6_arrive_1 rfl ?_
  refine g_get (kk := 57) (by decide) (cel_57 _ _ _) rfl inX6 fl_X6_55 (by decide) rfl dX6_arrive_2 ?_
  refine g_icmp_lt (tgt := 24) dX6_arrive_5 (by decide) (fun hc => ?_) (fun hc => ?_)
  · have hf := ite_t hc hf
    refine g_iconst (v := 1) dX6_arrive_24 (by decide) ?_
    refine g_goto (tgt := 29) dX6_arrive_25 (by decide) ?_
    exact w_X6_arrive_29 hr hf
  · have hf := ite_f hc hf
    refine g_iload_n dX6_arrive_8 rfl ?_
    refine g_aload_n dX6_arrive_9 rfl ?_
    refine g_get (kk := 57) (by decide) (cel_57 _ _ _) rfl inX6 fl_X6_55 (by decide) rfl dX6_arrive_10 ?_
    refine g_icmp_ne (tgt := 28) dX6_arrive_13 (by decide) (fun hc => ?_) (fun hc => ?_)
    · have hf := ite_f hc hf
      refine g_iconst (v := 0) dX6_arrive_28 (by decide) ?_
      exact w_X6_arrive_29 hr hf
    · have hf := ite_t hc hf
      refine g_iload_n dX6_arrive_16 rfl ?_
      refine g_aload_n dX6_arrive_17 rfl ?_
      refine g_get (kk := 57) (by decide) (cel_57 _ _ _) rfl inX6 fl_X6_58 (by decide) rfl dX6_arrive_18 ?_
      refine g_icmp_ge (tgt := 28) dX6_arrive_21 (by decide) (fun hc => ?_) (fun hc => ?_)
      · have hf := ite_t hc hf
        refine g_iconst (v := 0) dX6_arrive_28 (by decide) ?_
        exact w_X6_arrive_29 hr hf
      · have hf := ite_f hc hf
        refine g_iconst (v := 1) dX6_arrive_24 (by decide) ?_
        refine g_goto (tgt := 29) dX6_arrive_25 (by decide) ?_
        exact w_X6_arrive_29 hr hf
-- X6_isOpen_1
def f_X6_isOpen_1 (M : Mem) (x1 : Int32) (x2 : Int32) (x3 : Int32) : Option Int32 :=
  ck x1 8 <|
  if (M.1 2 x1.toNatClampNeg) = x2 then (if ((x3 >>> (x1 &&& 31)) &&& (1 : Int32)) = 0 then (some (1 : Int32))
  else (some (0 : Int32)))
  else (some (0 : Int32))
set_option maxHeartbeats 4000000 in
set_option maxRecDepth 100000 in
theorem c_X6_isOpen_1 {l : Launch} {x1 : Int32} {x2 : Int32} {x3 : Int32} {M : Mem} {r : Int32} (hf : f_X6_isOpen_1 M x1 x2 x3 = some r) : Cn l yX6_isOpen cX6_isOpen 4 (some .boolean) 0 0 (fun E => [.ref (E.1 1), .int x1, .int x2, .int x3]) M (some (.int r), M) := by
  unfold f_X6_isOpen_1 at hf
  refine cn_of RX6 (fun E => [some (.ref (E.1 1)), some (.int x1), some (.int x2), some (.int x3)]) (by decide +kernel) rfl (fun E => Nat.le_of_ble_eq_true rfl) (fun E => rfl) (fun X hr => ?_)
  refine g_aload_n dX6_isOpen_0 rfl ?_
  refine g_get (kk := 1) (by decide) (cel_1 _ _ _) rfl inX4 fl_X6_75 (by decide) rfl dX6_isOpen_1 ?_
  refine g_iload_n dX6_isOpen_4 rfl ?_
  obtain ⟨hi, hf⟩ := ck_s hf
  refine g_iaload (kk := 2) (by decide) (fun f g => cel_2 _ f g) hi rfl dX6_isOpen_5 ?_
  refine g_iload_n dX6_isOpen_6 rfl ?_
  refine g_icmp_ne (tgt := 22) dX6_isOpen_7 (by decide) (fun hc => ?_) (fun hc => ?_)
  · have hf := ite_f hc hf
    refine g_iconst (v := 0) dX6_isOpen_22 (by decide) ?_
    exact g_zret_p hr (Or.inl rfl) hf dX6_isOpen_23
  · have hf := ite_t hc hf
    refine g_iload_n dX6_isOpen_10 rfl ?_
    refine g_iload_n dX6_isOpen_11 rfl ?_
    refine g_ishr dX6_isOpen_12 ?_
    refine g_iconst (v := 1) dX6_isOpen_13 (by decide) ?_
    refine g_iand dX6_isOpen_14 ?_
    refine g_if_ne (tgt := 22) dX6_isOpen_15 (by decide) (fun hc => ?_) (fun hc => ?_)
    · have hf := ite_f hc hf
      refine g_iconst (v := 0) dX6_isOpen_22 (by decide) ?_
      exact g_zret_p hr (Or.inl rfl) hf dX6_isOpen_23
    · have hf := ite_t hc hf
      refine g_iconst (v := 1) dX6_isOpen_18 (by decide) ?_
      refine g_goto (tgt := 23) dX6_isOpen_19 (by decide) ?_
      exact g_zret_p hr (Or.inr rfl) hf dX6_isOpen_23
-- X6_goOn_1
def b_X6_goOn_1_99 (rc : Int32 → Int64 → Int32 → Int32 → Int32 → Mem → Option Mem) (k27 : Int32 → Mem → Option Mem)  (x2 : Int32) (x3 : Int64) (x5 : Int32) (x6 : Int32) (x7 : Int32) (x8 : Int32) (M : Mem) : Option Mem :=
  k27 (x8 + (1 : Int32)) M
set_option maxHeartbeats 4000000 in
set_option maxRecDepth 100000 in
theorem w_X6_goOn_1_99 {X : Cx} {M1 : Mem}  {k27 : Int32 → Mem → Option Mem} {x2 : Int32} {x3 : Int64} {x5 : Int32} {x6 : Int32} {x7 : Int32}   {rc : Int32 → Int64 → Int32 → Int32 → Int32 → Mem → Option Mem} {fr lo frr lor : Nat} {x8 : Int32} {M : Mem} (hr : X.meth.sig.returnType = none) (hrc : ∀ {y2 : Int32} {y3 : Int64} {y5 : Int32} {y6 : Int32} {y7 : Int32} {M_ : Mem} {M2 : Mem}, rc y2 y3 y5 y6 y7 M_ = some M2 → Cn X.2.2.1 yX6_goOn cX6_goOn 11 none frr lor (fun E => [.ref (E.1 57), .ref (E.1 1), .int y2, .long y3, .int y5, .int y6, .int y7]) M_ (none, M2)) (hB : 5 ≤ fr ∧ 121 ≤ lo) (hrm : frr + 1 ≤ fr ∧ 8 + (11 + 11) + lor ≤ lo) (hk27 : ∀ {x8_ : Int32} {M_ : Mem}, k27 x8_ M_ = some M1 → G X (none, M1) RX6 cX6_goOn 11 fr lo 27 [some (.ref (X.1.1 57)), some (.ref (X.1.1 1)), some (.int x2), some (.long x3), none, some (.int x5), some (.int x6), some (.int x7), some (.int x8_), none, none] [] M_) (hf : b_X6_goOn_1_99 rc k27 x2 x3 x5 x6 x7 x8 M = some M1) : G X (none, M1) RX6 cX6_goOn 11 fr lo 99 [some (.ref (X.1.1 57)), some (.ref (X.1.1 1)), some (.int x2), some (.long x3), none, some (.int x5), some (.int x6), some (.int x7), some (.int x8), none, none] [] M := by
  unfold b_X6_goOn_1_99 at hf
  refine g_iinc8 (v := (x8 + (1 : Int32))) dX6_goOn_99 (by decide) lnl_i rfl ?_
  refine g_goto (tgt := 27) dX6_goOn_102 (by decide) ?_
  exact hk27 hf
def b_X6_goOn_1_27 (rc : Int32 → Int64 → Int32 → Int32 → Int32 → Mem → Option Mem)   (x2 : Int32) (x3 : Int64) (x5 : Int32) (x6 : Int32) (x7 : Int32) : Nat → Int32 → Mem → Option Mem
  | 0, _, _ => none
  | n + 1, x8, M =>
    if (M.1 1 6) ≤ x8 then (some M)
    else ((f_X6_isOpen_1 M x8 x2 x5).bind fun r1 =>
    if r1 = 0 then (b_X6_goOn_1_99 rc (fun x8_ M_ => b_X6_goOn_1_27 rc x2 x3 x5 x6 x7 n x8_ M_) x2 x3 x5 x6 x7 x8 M)
    else (ck x6 6 <|
    let M2 := mI M 59 (x6.toNatClampNeg) x8
    (f_X4_behind_1 M2 x8 x3).bind fun r3 =>
    ck x8 8 <|
    (rc (M2.1 3 x8.toNatClampNeg) r3 (x5 ||| ((1 : Int32) <<< (x8 &&& 31))) (x6 + (1 : Int32)) (x7 + (f_X1_length r3)) M2).bind fun r4 =>
    b_X6_goOn_1_99 rc (fun x8_ M_ => b_X6_goOn_1_27 rc x2 x3 x5 x6 x7 n x8_ M_) x2 x3 x5 x6 x7 x8 r4))
set_option maxHeartbeats 4000000 in
set_option maxRecDepth 100000 in
theorem w_X6_goOn_1_27 {X : Cx} {M1 : Mem}   {x2 : Int32} {x3 : Int64} {x5 : Int32} {x6 : Int32} {x7 : Int32}   {rc : Int32 → Int64 → Int32 → Int32 → Int32 → Mem → Option Mem} {fr lo frr lor : Nat} (hr : X.meth.sig.returnType = none) (hrc : ∀ {y2 : Int32} {y3 : Int64} {y5 : Int32} {y6 : Int32} {y7 : Int32} {M_ : Mem} {M2 : Mem}, rc y2 y3 y5 y6 y7 M_ = some M2 → Cn X.2.2.1 yX6_goOn cX6_goOn 11 none frr lor (fun E => [.ref (E.1 57), .ref (E.1 1), .int y2, .long y3, .int y5, .int y6, .int y7]) M_ (none, M2)) (hB : 5 ≤ fr ∧ 121 ≤ lo) (hrm : frr + 1 ≤ fr ∧ 8 + (11 + 11) + lor ≤ lo) : ∀ (n : Nat) {x8 : Int32} {M : Mem}, b_X6_goOn_1_27 rc x2 x3 x5 x6 x7 n x8 M = some M1 → G X (none, M1) RX6 cX6_goOn 11 fr lo 27 [some (.ref (X.1.1 57)), some (.ref (X.1.1 1)), some (.int x2), some (.long x3), none, some (.int x5), some (.int x6), some (.int x7), some (.int x8), none, none] [] M := by
  intro n
  induction n with
  | zero => intro x8 M hf; cases hf
  | succ n ih =>
    intro x8 M hf
    rw [b_X6_goOn_1_27.eq_2] at hf
    refine g_iload dX6_goOn_27 rfl ?_
    refine g_aload_n dX6_goOn_29 rfl ?_
    refine g_get (kk := 1) (by decide) (cel_1 _ _ _) rfl inX4 fl_X6_33 (by decide) rfl dX6_goOn_30 ?_
    refine g_icmp_ge (tgt := 105) dX6_goOn_33 (by decide) (fun hc => ?_) (fun hc => ?_)
    · have hf := ite_t hc hf
      exact g_vret_w hr hf dX6_goOn_105
    · have hf := ite_f hc hf
      refine g_aload_n dX6_goOn_36 rfl ?_
      refine g_iload dX6_goOn_37 rfl ?_
      refine g_iload_n dX6_goOn_39 rfl ?_
      refine g_iload dX6_goOn_40 rfl ?_
      obtain ⟨r1, hq, hf⟩ := bnd hf
      refine g_cS_RIII_I (c_X6_isOpen_1 hq) cs_X6_38 ⟨Nat.le_trans (by decide) hB.1, Nat.le_trans (by decide) hB.2⟩ (Nat.le_of_ble_eq_true rfl) dX6_goOn_42 ?_
      refine g_if_eq (tgt := 99) dX6_goOn_45 (by decide) (fun hc => ?_) (fun hc => ?_)
      · have hf := ite_t hc hf
        exact w_X6_goOn_1_99 hr hrc hB hrm (fun hf => ih hf) hf
      · have hf := ite_f hc hf
        refine g_aload_n dX6_goOn_48 rfl ?_
        refine g_get (kk := 57) (by decide) (cel_57 _ _ _) rfl inX6 fl_X6_15 (by decide) rfl dX6_goOn_49 ?_
        refine g_iload dX6_goOn_52 rfl ?_
        refine g_iload dX6_goOn_54 rfl ?_
        obtain ⟨hi, hf⟩ := ck_s hf
        refine g_iastore (kk := 59) (by decide) (fun f g => cel_59 _ f g) hi rfl dX6_goOn_56 ?_
        refine g_aload_n dX6_goOn_57 rfl ?_
        refine g_iload dX6_goOn_58 rfl ?_
        refine g_lload_n dX6_goOn_60 rfl ?_
        obtain ⟨r3, hq, hf⟩ := bnd hf
        refine g_cV_IJ_J (c_X4_behind_1 hq) cv_X6_42 (by decide) (cel_1 _ _ _) rfl ⟨Nat.le_trans (by decide) hB.1, Nat.le_trans (by decide) hB.2⟩ (Nat.le_of_ble_eq_true rfl) dX6_goOn_61 ?_
        refine g_lst9 dX6_goOn_64 (by decide) lnl_i ?_
        refine g_aload_n dX6_goOn_66 rfl ?_
        refine g_aload_n dX6_goOn_67 rfl ?_
        refine g_aload_n dX6_goOn_68 rfl ?_
        refine g_get (kk := 1) (by decide) (cel_1 _ _ _) rfl inX4 fl_X6_46 (by decide) rfl dX6_goOn_69 ?_
        refine g_iload dX6_goOn_72 rfl ?_
        obtain ⟨hi, hf⟩ := ck_s hf
        refine g_iaload (kk := 3) (by decide) (fun f g => cel_3 _ f g) hi rfl dX6_goOn_74 ?_
        refine g_lload dX6_goOn_75 rfl ?_
        refine g_iload dX6_goOn_77 rfl ?_
        refine g_iconst (v := 1) dX6_goOn_79 (by decide) ?_
        refine g_iload dX6_goOn_80 rfl ?_
        refine g_ishl dX6_goOn_82 ?_
        refine g_ior dX6_goOn_83 ?_
        refine g_iload dX6_goOn_84 rfl ?_
        refine g_iconst (v := 1) dX6_goOn_86 (by decide) ?_
        refine g_iadd dX6_goOn_87 ?_
        refine g_iload dX6_goOn_88 rfl ?_
        refine g_lload dX6_goOn_90 rfl ?_
        refine g_cS_J_I (c_X1_length rfl) cs_X6_49 ⟨Nat.le_trans (by decide) hB.1, Nat.le_trans (by decide) hB.2⟩ (Nat.le_of_ble_eq_true rfl) dX6_goOn_92 ?_
        refine g_iadd dX6_goOn_95 ?_
        obtain ⟨r4, hq, hf⟩ := bnd hf
        refine g_cV_RIJIII_V (hrc hq) cv_X6_25 (by decide) (cel_57 _ _ _) rfl hrm (Nat.le_of_ble_eq_true rfl) dX6_goOn_96 ?_
        exact g_weakr (w_X6_goOn_1_99 hr hrc hB hrm (fun hf => ih hf) hf) (lsk (lsk (lsk (lsk (lsd (lsk (lsk (lsk (lsk (lsd (lsd lsz)))))))))))
def b_X6_goOn_1_16 (rc : Int32 → Int64 → Int32 → Int32 → Int32 → Mem → Option Mem)   (x2 : Int32) (x3 : Int64) (x5 : Int32) (x6 : Int32) (x7 : Int32) (M : Mem) : Option Mem :=
  if x6 < (6 : Int32) then (b_X6_goOn_1_27 rc x2 x3 x5 x6 x7 fu (0 : Int32) M)
  else (some M)
set_option maxHeartbeats 4000000 in
set_option maxRecDepth 100000 in
theorem w_X6_goOn_1_16 {X : Cx} {M1 : Mem}      {rc : Int32 → Int64 → Int32 → Int32 → Int32 → Mem → Option Mem} {fr lo frr lor : Nat} {x2 : Int32} {x3 : Int64} {x5 : Int32} {x6 : Int32} {x7 : Int32} {M : Mem} (hr : X.meth.sig.returnType = none) (hrc : ∀ {y2 : Int32} {y3 : Int64} {y5 : Int32} {y6 : Int32} {y7 : Int32} {M_ : Mem} {M2 : Mem}, rc y2 y3 y5 y6 y7 M_ = some M2 → Cn X.2.2.1 yX6_goOn cX6_goOn 11 none frr lor (fun E => [.ref (E.1 57), .ref (E.1 1), .int y2, .long y3, .int y5, .int y6, .int y7]) M_ (none, M2)) (hB : 5 ≤ fr ∧ 121 ≤ lo) (hrm : frr + 1 ≤ fr ∧ 8 + (11 + 11) + lor ≤ lo) (hf : b_X6_goOn_1_16 rc x2 x3 x5 x6 x7 M = some M1) : G X (none, M1) RX6 cX6_goOn 11 fr lo 16 [some (.ref (X.1.1 57)), some (.ref (X.1.1 1)), some (.int x2), some (.long x3), none, some (.int x5), some (.int x6), some (.int x7), none, none, none] [] M := by
  unfold b_X6_goOn_1_16 at hf
  refine g_iload dX6_goOn_16 rfl ?_
  refine g_bipush (v := 6) dX6_goOn_18 (by decide) ?_
  refine g_icmp_lt (tgt := 24) dX6_goOn_20 (by decide) (fun hc => ?_) (fun hc => ?_)
  · have hf := ite_t hc hf
    refine g_iconst (v := 0) dX6_goOn_24 (by decide) ?_
    refine g_ist8 dX6_goOn_25 (by decide) lnl_i ?_
    exact w_X6_goOn_1_27 hr hrc hB hrm fu hf
  · have hf := ite_f hc hf
    exact g_vret_w hr hf dX6_goOn_23
def f_X6_goOn_1 : Nat → Int32 → Int64 → Int32 → Int32 → Int32 → Mem → Option Mem
  | 0, _, _, _, _, _, _ => none
  | n + 1, x2, x3, x5, x6, x7, M =>
    if x2 = (M.1 57 5) then ((f_X6_arrive x6 x7 M).bind fun r5 =>
    b_X6_goOn_1_16 (f_X6_goOn_1 n) x2 x3 x5 x6 x7 r5)
    else (b_X6_goOn_1_16 (f_X6_goOn_1 n) x2 x3 x5 x6 x7 M)
set_option maxHeartbeats 4000000 in
set_option maxRecDepth 100000 in
theorem c_X6_goOn_1 : ∀ (n : Nat) {l : Launch} {x2 : Int32} {x3 : Int64} {x5 : Int32} {x6 : Int32} {x7 : Int32} {M : Mem}  {M1 : Mem}, f_X6_goOn_1 n x2 x3 x5 x6 x7 M = some M1 → Cn l yX6_goOn cX6_goOn 11 none (5 + n) (121 + n * 30) (fun E => [.ref (E.1 57), .ref (E.1 1), .int x2, .long x3, .int x5, .int x6, .int x7]) M (none, M1) := by
  intro n
  induction n with
  | zero => intro l x2 x3 x5 x6 x7 M M1 hf; cases hf
  | succ n ih =>
    intro l x2 x3 x5 x6 x7 M M1 hf
    rw [f_X6_goOn_1.eq_2] at hf
    refine cn_of RX6 (fun E => [some (.ref (E.1 57)), some (.ref (E.1 1)), some (.int x2), some (.long x3), none, some (.int x5), some (.int x6), some (.int x7), none, none, none]) (by decide +kernel) rfl (fun E => Nat.le_of_ble_eq_true rfl) (fun E => rfl) (fun X hr => ?_)
    have hrc := fun {l : Launch} => @ih l
    have hB : 5 ≤ 5 + (n + 1) ∧ 121 ≤ 121 + (n + 1) * 30 := ⟨Nat.le_add_right _ _, Nat.le_add_right _ _⟩
    have hrm : (5 + n) + 1 ≤ 5 + (n + 1) ∧ 8 + (11 + 11) + (121 + n * 30) ≤ 121 + (n + 1) * 30 := ⟨by omega, by omega⟩
    refine g_iload_n dX6_goOn_0 rfl ?_
    refine g_aload_n dX6_goOn_1 rfl ?_
    refine g_get (kk := 57) (by decide) (cel_57 _ _ _) rfl inX6 fl_X6_18 (by decide) rfl dX6_goOn_2 ?_
    refine g_icmp_ne (tgt := 16) dX6_goOn_5 (by decide) (fun hc => ?_) (fun hc => ?_)
    · have hf := ite_f hc hf
      exact w_X6_goOn_1_16 hr hrc hB hrm hf
    · have hf := ite_t hc hf
      refine g_aload_n dX6_goOn_8 rfl ?_
      refine g_iload dX6_goOn_9 rfl ?_
      refine g_iload dX6_goOn_11 rfl ?_
      obtain ⟨r5, hq, hf⟩ := bnd hf
      refine g_cV_II_V (c_X6_arrive hq) cv_X6_29 (by decide) (cel_57 _ _ _) rfl ⟨Nat.le_trans (by decide) hB.1, Nat.le_trans (by decide) hB.2⟩ (Nat.le_of_ble_eq_true rfl) dX6_goOn_13 ?_
      exact w_X6_goOn_1_16 hr hrc hB hrm hf
-- X6_findWays_1
def f_X6_findWays_1 (x2 : Int64) (x4 : Int32) (x5 : Int32) (M : Mem) : Option Mem :=
  let M1 := mI M 57 5 x5
  let M2 := mI M1 57 3 (0 : Int32)
  (f_X6_goOn_1 8 x4 x2 (0 : Int32) (0 : Int32) (0 : Int32) M2).bind fun r3 =>
  some r3
set_option maxHeartbeats 4000000 in
set_option maxRecDepth 100000 in
theorem c_X6_findWays_1 {l : Launch} {x2 : Int64} {x4 : Int32} {x5 : Int32} {M : Mem} {M1 : Mem} (hf : f_X6_findWays_1 x2 x4 x5 M = some M1) : Cn l yX6_findWays cX6_findWays 6 none 14 391 (fun E => [.ref (E.1 57), .ref (E.1 1), .long x2, .int x4, .int x5]) M (none, M1) := by
  unfold f_X6_findWays_1 at hf
  refine cn_of RX6 (fun E => [some (.ref (E.1 57)), some (.ref (E.1 1)), some (.long x2), none, some (.int x4), some (.int x5)]) (by decide +kernel) rfl (fun E => Nat.le_of_ble_eq_true rfl) (fun E => rfl) (fun X hr => ?_)
  refine g_aload_n dX6_findWays_0 rfl ?_
  refine g_iload dX6_findWays_1 rfl ?_
  refine g_putI (kk := 57) (by decide) (cel_57 _ _ _) (pI_57_5 _ _ _ _) rfl inX6 tyX6_ok nmX6 fl_X6_18 (by decide) (Nat.le_of_ble_eq_true rfl) rfl (by decide +kernel) dX6_findWays_3 ?_
  refine g_aload_n dX6_findWays_6 rfl ?_
  refine g_iconst (v := 0) dX6_findWays_7 (by decide) ?_
  refine g_putI (kk := 57) (by decide) (cel_57 _ _ _) (pI_57_3 _ _ _ _) rfl inX6 tyX6_ok nmX6 fl_X6_22 (by decide) (Nat.le_of_ble_eq_true rfl) rfl (by decide +kernel) dX6_findWays_8 ?_
  refine g_aload_n dX6_findWays_11 rfl ?_
  refine g_aload_n dX6_findWays_12 rfl ?_
  refine g_iload dX6_findWays_13 rfl ?_
  refine g_lload_n dX6_findWays_15 rfl ?_
  refine g_iconst (v := 0) dX6_findWays_16 (by decide) ?_
  refine g_iconst (v := 0) dX6_findWays_17 (by decide) ?_
  refine g_iconst (v := 0) dX6_findWays_18 (by decide) ?_
  obtain ⟨r3, hq, hf⟩ := bnd hf
  refine g_cV_RIJIII_V (c_X6_goOn_1 8 hq) cv_X6_25 (by decide) (cel_57 _ _ _) rfl ⟨by decide, by decide⟩ (Nat.le_of_ble_eq_true rfl) dX6_findWays_19 ?_
  exact g_vret_w hr hf dX6_findWays_22
-- X7_way
def f_X7_way (x1 : Int32) (x2 : Int32) (x3 : Int32) (x4 : Int32) (M : Mem) : Option (Int32 × Mem) :=
  if (f_X7_isRow x1) = 0 then ((f_X7_refuseBad (-10 : Int32) M).bind fun r1 =>
  some (r1.1, r1.2))
  else (if (f_X7_isBelow x2 (6 : Int32)) = 0 then ((f_X7_refuseBad (-10 : Int32) M).bind fun r2 =>
  some (r2.1, r2.2))
  else (if (f_X7_isBelow x3 (6 : Int32)) = 0 then ((f_X7_refuseBad (-10 : Int32) M).bind fun r3 =>
  some (r3.1, r3.2))
  else (if (-1 : Int32) ≤ x4 then (ck x1 4 <|
  (f_X6_findWays_1 (M.2 6 x1.toNatClampNeg) x2 x3 M).bind fun r4 =>
  if (r4.1 57 3) = 0 then (some ((-1 : Int32), r4))
  else (if x4 = (-1 : Int32) then (some ((r4.1 57 2), r4))
  else (if (r4.1 57 1) ≤ x4 then (some ((-5 : Int32), r4))
  else (ck x4 6 <|
  some ((r4.1 58 x4.toNatClampNeg), r4)))))
  else ((f_X7_refuseBad (-10 : Int32) M).bind fun r5 =>
  some (r5.1, r5.2)))))
set_option maxHeartbeats 4000000 in
set_option maxRecDepth 100000 in
theorem c_X7_way {l : Launch} {x1 : Int32} {x2 : Int32} {x3 : Int32} {x4 : Int32} {M : Mem} {r : Int32} {M1 : Mem} (hf : f_X7_way x1 x2 x3 x4 M = some (r, M1)) : Cn l yX7_way cX7_way 5 (some .int) 15 416 (fun E => [.ref (E.1 0), .int x1, .int x2, .int x3, .int x4]) M (some (.int r), M1) := by
  unfold f_X7_way at hf
  refine cn_of RX7 (fun E => [some (.ref (E.1 0)), some (.int x1), some (.int x2), some (.int x3), some (.int x4)]) (by decide +kernel) rfl (fun E => Nat.le_of_ble_eq_true rfl) (fun E => rfl) (fun X hr => ?_)
  refine g_iload_n dX7_way_0 rfl ?_
  refine g_cS_I_I (c_X7_isRow rfl) cs_X7_106 ⟨by decide, by decide⟩ (Nat.le_of_ble_eq_true rfl) dX7_way_1 ?_
  refine g_if_eq (tgt := 31) dX7_way_4 (by decide) (fun hc => ?_) (fun hc => ?_)
  · have hf := ite_t hc hf
    refine g_aload_n dX7_way_31 rfl ?_
    refine g_bipush (v := (-10)) dX7_way_32 (by decide) ?_
    obtain ⟨r1, hq, hf⟩ := bnd hf
    refine g_cV_I_I (c_X7_refuseBad (r := r1.1) (M1 := r1.2) hq) cv_X7_60 (by decide) (cel_0 _ _ _) rfl ⟨by decide, by decide⟩ (Nat.le_of_ble_eq_true rfl) dX7_way_34 ?_
    exact g_iret_w hr hf dX7_way_37
  · have hf := ite_f hc hf
    refine g_iload_n dX7_way_7 rfl ?_
    refine g_bipush (v := 6) dX7_way_8 (by decide) ?_
    refine g_cS_II_I (c_X7_isBelow rfl) cs_X7_56 ⟨by decide, by decide⟩ (Nat.le_of_ble_eq_true rfl) dX7_way_10 ?_
    refine g_if_eq (tgt := 31) dX7_way_13 (by decide) (fun hc => ?_) (fun hc => ?_)
    · have hf := ite_t hc hf
      refine g_aload_n dX7_way_31 rfl ?_
      refine g_bipush (v := (-10)) dX7_way_32 (by decide) ?_
      obtain ⟨r2, hq, hf⟩ := bnd hf
      refine g_cV_I_I (c_X7_refuseBad (r := r2.1) (M1 := r2.2) hq) cv_X7_60 (by decide) (cel_0 _ _ _) rfl ⟨by decide, by decide⟩ (Nat.le_of_ble_eq_true rfl) dX7_way_34 ?_
      exact g_iret_w hr hf dX7_way_37
    · have hf := ite_f hc hf
      refine g_iload_n dX7_way_16 rfl ?_
      refine g_bipush (v := 6) dX7_way_17 (by decide) ?_
      refine g_cS_II_I (c_X7_isBelow rfl) cs_X7_56 ⟨by decide, by decide⟩ (Nat.le_of_ble_eq_true rfl) dX7_way_19 ?_
      refine g_if_eq (tgt := 31) dX7_way_22 (by decide) (fun hc => ?_) (fun hc => ?_)
      · have hf := ite_t hc hf
        refine g_aload_n dX7_way_31 rfl ?_
        refine g_bipush (v := (-10)) dX7_way_32 (by decide) ?_
        obtain ⟨r3, hq, hf⟩ := bnd hf
        refine g_cV_I_I (c_X7_refuseBad (r := r3.1) (M1 := r3.2) hq) cv_X7_60 (by decide) (cel_0 _ _ _) rfl ⟨by decide, by decide⟩ (Nat.le_of_ble_eq_true rfl) dX7_way_34 ?_
        exact g_iret_w hr hf dX7_way_37
      · have hf := ite_f hc hf
        refine g_iload dX7_way_25 rfl ?_
        refine g_iconst (v := (-1)) dX7_way_27 (by decide) ?_
        refine g_icmp_ge (tgt := 38) dX7_way_28 (by decide) (fun hc => ?_) (fun hc => ?_)
        · have hf := ite_t hc hf
          refine g_aload_n dX7_way_38 rfl ?_
          refine g_get (kk := 0) (by decide) (cel_0 _ _ _) rfl inX7 fl_X7_37 (by decide) rfl dX7_way_39 ?_
          refine g_aload_n dX7_way_42 rfl ?_
          refine g_get (kk := 0) (by decide) (cel_0 _ _ _) rfl inX7 fl_X7_10 (by decide) rfl dX7_way_43 ?_
          refine g_aload_n dX7_way_46 rfl ?_
          refine g_get (kk := 0) (by decide) (cel_0 _ _ _) rfl inX7 fl_X7_10 (by decide) rfl dX7_way_47 ?_
          refine g_get (kk := 1) (by decide) (cel_1 _ _ _) rfl inX4 fl_X7_109 (by decide) rfl dX7_way_50 ?_
          refine g_iload_n dX7_way_53 rfl ?_
          obtain ⟨hi, hf⟩ := ck_s hf
          refine g_laload (kk := 6) (by decide) (fun f g => cel_6 _ f g) hi rfl dX7_way_54 ?_
          refine g_iload_n dX7_way_55 rfl ?_
          refine g_iload_n dX7_way_56 rfl ?_
          obtain ⟨r4, hq, hf⟩ := bnd hf
          refine g_cV_RJII_V (c_X6_findWays_1 hq) cv_X7_165 (by decide) (cel_57 _ _ _) rfl ⟨by decide, by decide⟩ (Nat.le_of_ble_eq_true rfl) dX7_way_57 ?_
          refine g_aload_n dX7_way_60 rfl ?_
          refine g_get (kk := 0) (by decide) (cel_0 _ _ _) rfl inX7 fl_X7_37 (by decide) rfl dX7_way_61 ?_
          refine g_get (kk := 57) (by decide) (cel_57 _ _ _) rfl inX6 fl_X7_169 (by decide) rfl dX7_way_64 ?_
          refine g_if_ne (tgt := 72) dX7_way_67 (by decide) (fun hc => ?_) (fun hc => ?_)
          · have hf := ite_f hc hf
            refine g_iload dX7_way_72 rfl ?_
            refine g_iconst (v := (-1)) dX7_way_74 (by decide) ?_
            refine g_icmp_ne (tgt := 86) dX7_way_75 (by decide) (fun hc => ?_) (fun hc => ?_)
            · have hf := ite_f hc hf
              refine g_iload dX7_way_86 rfl ?_
              refine g_aload_n dX7_way_88 rfl ?_
              refine g_get (kk := 0) (by decide) (cel_0 _ _ _) rfl inX7 fl_X7_37 (by decide) rfl dX7_way_89 ?_
              refine g_get (kk := 57) (by decide) (cel_57 _ _ _) rfl inX6 fl_X7_175 (by decide) rfl dX7_way_92 ?_
              refine g_icmp_ge (tgt := 111) dX7_way_95 (by decide) (fun hc => ?_) (fun hc => ?_)
              · have hf := ite_t hc hf
                refine g_bipush (v := (-5)) dX7_way_111 (by decide) ?_
                exact g_iret_w hr hf dX7_way_113
              · have hf := ite_f hc hf
                refine g_aload_n dX7_way_98 rfl ?_
                refine g_get (kk := 0) (by decide) (cel_0 _ _ _) rfl inX7 fl_X7_37 (by decide) rfl dX7_way_99 ?_
                refine g_get (kk := 57) (by decide) (cel_57 _ _ _) rfl inX6 fl_X7_178 (by decide) rfl dX7_way_102 ?_
                refine g_iload dX7_way_105 rfl ?_
                obtain ⟨hi, hf⟩ := ck_s hf
                refine g_iaload (kk := 58) (by decide) (fun f g => cel_58 _ f g) hi rfl dX7_way_107 ?_
                refine g_goto (tgt := 113) dX7_way_108 (by decide) ?_
                exact g_iret_w hr hf dX7_way_113
            · have hf := ite_t hc hf
              refine g_aload_n dX7_way_78 rfl ?_
              refine g_get (kk := 0) (by decide) (cel_0 _ _ _) rfl inX7 fl_X7_37 (by decide) rfl dX7_way_79 ?_
              refine g_get (kk := 57) (by decide) (cel_57 _ _ _) rfl inX6 fl_X7_172 (by decide) rfl dX7_way_82 ?_
              exact g_iret_w hr hf dX7_way_85
          · have hf := ite_t hc hf
            refine g_iconst (v := (-1)) dX7_way_70 (by decide) ?_
            exact g_iret_w hr hf dX7_way_71
        · have hf := ite_f hc hf
          refine g_aload_n dX7_way_31 rfl ?_
          refine g_bipush (v := (-10)) dX7_way_32 (by decide) ?_
          obtain ⟨r5, hq, hf⟩ := bnd hf
          refine g_cV_I_I (c_X7_refuseBad (r := r5.1) (M1 := r5.2) hq) cv_X7_60 (by decide) (cel_0 _ _ _) rfl ⟨by decide, by decide⟩ (Nat.le_of_ble_eq_true rfl) dX7_way_34 ?_
          exact g_iret_w hr hf dX7_way_37
-- X7_ways
def f_X7_ways (x1 : Int32) (x2 : Int32) (x3 : Int32) (x4 : Int32) (M : Mem) : Option (Int32 × Mem) :=
  if (f_X7_isRow x1) = 0 then ((f_X7_refuseBad (-2 : Int32) M).bind fun r1 =>
  some (r1.1, r1.2))
  else (if (f_X7_isBelow x2 (6 : Int32)) = 0 then ((f_X7_refuseBad (-2 : Int32) M).bind fun r2 =>
  some (r2.1, r2.2))
  else (if (f_X7_isBelow x3 (6 : Int32)) = 0 then ((f_X7_refuseBad (-2 : Int32) M).bind fun r3 =>
  some (r3.1, r3.2))
  else (if (f_X7_isBelow x4 (2 : Int32)) = 0 then ((f_X7_refuseBad (-2 : Int32) M).bind fun r5 =>
  some (r5.1, r5.2))
  else (ck x1 4 <|
  (f_X6_findWays_1 (M.2 6 x1.toNatClampNeg) x2 x3 M).bind fun r4 =>
  if x4 = 0 then (some ((r4.1 57 3), r4))
  else (if (r4.1 57 3) = 0 then (some ((-1 : Int32), r4))
  else (some ((r4.1 57 1), r4)))))))
set_option maxHeartbeats 4000000 in
set_option maxRecDepth 100000 in
theorem c_X7_ways {l : Launch} {x1 : Int32} {x2 : Int32} {x3 : Int32} {x4 : Int32} {M : Mem} {r : Int32} {M1 : Mem} (hf : f_X7_ways x1 x2 x3 x4 M = some (r, M1)) : Cn l yX7_ways cX7_ways 5 (some .int) 15 416 (fun E => [.ref (E.1 0), .int x1, .int x2, .int x3, .int x4]) M (some (.int r), M1) := by
  unfold f_X7_ways at hf
  refine cn_of RX7 (fun E => [some (.ref (E.1 0)), some (.int x1), some (.int x2), some (.int x3), some (.int x4)]) (by decide +kernel) rfl (fun E => Nat.le_of_ble_eq_true rfl) (fun E => rfl) (fun X hr => ?_)
  refine g_iload_n dX7_ways_0 rfl ?_
  refine g_cS_I_I (c_X7_isRow rfl) cs_X7_106 ⟨by decide, by decide⟩ (Nat.le_of_ble_eq_true rfl) dX7_ways_1 ?_
  refine g_if_eq (tgt := 34) dX7_ways_4 (by decide) (fun hc => ?_) (fun hc => ?_)
  · have hf := ite_t hc hf
    refine g_aload_n dX7_ways_34 rfl ?_
    refine g_bipush (v := (-2)) dX7_ways_35 (by decide) ?_
    obtain ⟨r1, hq, hf⟩ := bnd hf
    refine g_cV_I_I (c_X7_refuseBad (r := r1.1) (M1 := r1.2) hq) cv_X7_60 (by decide) (cel_0 _ _ _) rfl ⟨by decide, by decide⟩ (Nat.le_of_ble_eq_true rfl) dX7_ways_37 ?_
    exact g_iret_w hr hf dX7_ways_40
  · have hf := ite_f hc hf
    refine g_iload_n dX7_ways_7 rfl ?_
    refine g_bipush (v := 6) dX7_ways_8 (by decide) ?_
    refine g_cS_II_I (c_X7_isBelow rfl) cs_X7_56 ⟨by decide, by decide⟩ (Nat.le_of_ble_eq_true rfl) dX7_ways_10 ?_
    refine g_if_eq (tgt := 34) dX7_ways_13 (by decide) (fun hc => ?_) (fun hc => ?_)
    · have hf := ite_t hc hf
      refine g_aload_n dX7_ways_34 rfl ?_
      refine g_bipush (v := (-2)) dX7_ways_35 (by decide) ?_
      obtain ⟨r2, hq, hf⟩ := bnd hf
      refine g_cV_I_I (c_X7_refuseBad (r := r2.1) (M1 := r2.2) hq) cv_X7_60 (by decide) (cel_0 _ _ _) rfl ⟨by decide, by decide⟩ (Nat.le_of_ble_eq_true rfl) dX7_ways_37 ?_
      exact g_iret_w hr hf dX7_ways_40
    · have hf := ite_f hc hf
      refine g_iload_n dX7_ways_16 rfl ?_
      refine g_bipush (v := 6) dX7_ways_17 (by decide) ?_
      refine g_cS_II_I (c_X7_isBelow rfl) cs_X7_56 ⟨by decide, by decide⟩ (Nat.le_of_ble_eq_true rfl) dX7_ways_19 ?_
      refine g_if_eq (tgt := 34) dX7_ways_22 (by decide) (fun hc => ?_) (fun hc => ?_)
      · have hf := ite_t hc hf
        refine g_aload_n dX7_ways_34 rfl ?_
        refine g_bipush (v := (-2)) dX7_ways_35 (by decide) ?_
        obtain ⟨r3, hq, hf⟩ := bnd hf
        refine g_cV_I_I (c_X7_refuseBad (r := r3.1) (M1 := r3.2) hq) cv_X7_60 (by decide) (cel_0 _ _ _) rfl ⟨by decide, by decide⟩ (Nat.le_of_ble_eq_true rfl) dX7_ways_37 ?_
        exact g_iret_w hr hf dX7_ways_40
      · have hf := ite_f hc hf
        refine g_iload dX7_ways_25 rfl ?_
        refine g_iconst (v := 2) dX7_ways_27 (by decide) ?_
        refine g_cS_II_I (c_X7_isBelow rfl) cs_X7_56 ⟨by decide, by decide⟩ (Nat.le_of_ble_eq_true rfl) dX7_ways_28 ?_
        refine g_if_ne (tgt := 41) dX7_ways_31 (by decide) (fun hc => ?_) (fun hc => ?_)
        · have hf := ite_f hc hf
          refine g_aload_n dX7_ways_41 rfl ?_
          refine g_get (kk := 0) (by decide) (cel_0 _ _ _) rfl inX7 fl_X7_37 (by decide) rfl dX7_ways_42 ?_
          refine g_aload_n dX7_ways_45 rfl ?_
          refine g_get (kk := 0) (by decide) (cel_0 _ _ _) rfl inX7 fl_X7_10 (by decide) rfl dX7_ways_46 ?_
          refine g_aload_n dX7_ways_49 rfl ?_
          refine g_get (kk := 0) (by decide) (cel_0 _ _ _) rfl inX7 fl_X7_10 (by decide) rfl dX7_ways_50 ?_
          refine g_get (kk := 1) (by decide) (cel_1 _ _ _) rfl inX4 fl_X7_109 (by decide) rfl dX7_ways_53 ?_
          refine g_iload_n dX7_ways_56 rfl ?_
          obtain ⟨hi, hf⟩ := ck_s hf
          refine g_laload (kk := 6) (by decide) (fun f g => cel_6 _ f g) hi rfl dX7_ways_57 ?_
          refine g_iload_n dX7_ways_58 rfl ?_
          refine g_iload_n dX7_ways_59 rfl ?_
          obtain ⟨r4, hq, hf⟩ := bnd hf
          refine g_cV_RJII_V (c_X6_findWays_1 hq) cv_X7_165 (by decide) (cel_57 _ _ _) rfl ⟨by decide, by decide⟩ (Nat.le_of_ble_eq_true rfl) dX7_ways_60 ?_
          refine g_iload dX7_ways_63 rfl ?_
          refine g_if_ne (tgt := 76) dX7_ways_65 (by decide) (fun hc => ?_) (fun hc => ?_)
          · have hf := ite_f hc hf
            refine g_aload_n dX7_ways_76 rfl ?_
            refine g_get (kk := 0) (by decide) (cel_0 _ _ _) rfl inX7 fl_X7_37 (by decide) rfl dX7_ways_77 ?_
            refine g_get (kk := 57) (by decide) (cel_57 _ _ _) rfl inX6 fl_X7_169 (by decide) rfl dX7_ways_80 ?_
            refine g_if_ne (tgt := 90) dX7_ways_83 (by decide) (fun hc => ?_) (fun hc => ?_)
            · have hf := ite_f hc hf
              refine g_aload_n dX7_ways_90 rfl ?_
              refine g_get (kk := 0) (by decide) (cel_0 _ _ _) rfl inX7 fl_X7_37 (by decide) rfl dX7_ways_91 ?_
              refine g_get (kk := 57) (by decide) (cel_57 _ _ _) rfl inX6 fl_X7_175 (by decide) rfl dX7_ways_94 ?_
              exact g_iret_w hr hf dX7_ways_97
            · have hf := ite_t hc hf
              refine g_iconst (v := (-1)) dX7_ways_86 (by decide) ?_
              refine g_goto (tgt := 97) dX7_ways_87 (by decide) ?_
              exact g_iret_w hr hf dX7_ways_97
          · have hf := ite_t hc hf
            refine g_aload_n dX7_ways_68 rfl ?_
            refine g_get (kk := 0) (by decide) (cel_0 _ _ _) rfl inX7 fl_X7_37 (by decide) rfl dX7_ways_69 ?_
            refine g_get (kk := 57) (by decide) (cel_57 _ _ _) rfl inX6 fl_X7_169 (by decide) rfl dX7_ways_72 ?_
            exact g_iret_w hr hf dX7_ways_75
        · have hf := ite_t hc hf
          refine g_aload_n dX7_ways_34 rfl ?_
          refine g_bipush (v := (-2)) dX7_ways_35 (by decide) ?_
          obtain ⟨r5, hq, hf⟩ := bnd hf
          refine g_cV_I_I (c_X7_refuseBad (r := r5.1) (M1 := r5.2) hq) cv_X7_60 (by decide) (cel_0 _ _ _) rfl ⟨by decide, by decide⟩ (Nat.le_of_ble_eq_true rfl) dX7_ways_37 ?_
          exact g_iret_w hr hf dX7_ways_40
-- X1_isAt
def f_X1_isAt (x0 : Int64) (x2 : Int32) (x3 : Int64) : Int32 :=
  if (lg_cmp ((x0.toUInt64 >>> (((4 : Int32) * (x2 + (1 : Int32))).toInt64.toUInt64 &&& Int64.toUInt64 63)).toInt64 &&& (((1 : Int64) <<< (((4 : Int32) * (f_X1_length x3)).toInt64 &&& 63)) - (1 : Int64))) (x3.toUInt64 >>> ((4 : Int32).toInt64.toUInt64 &&& Int64.toUInt64 63)).toInt64) = 0 then ((1 : Int32))
  else ((0 : Int32))
set_option maxHeartbeats 4000000 in
set_option maxRecDepth 100000 in
theorem c_X1_isAt {l : Launch} {x0 : Int64} {x2 : Int32} {x3 : Int64} {M : Mem} {r : Int32} (hf : f_X1_isAt x0 x2 x3 = r) : Cn l yX1_isAt cX1_isAt 7 (some .boolean) 1 21 (fun E => [.long x0, .int x2, .long x3]) M (some (.int r), M) := by
  unfold f_X1_isAt at hf
  refine cn_of RX1 (fun E => [some (.long x0), none, some (.int x2), some (.long x3), none, none, none]) (by decide +kernel) rfl (fun E => Nat.le_of_ble_eq_true rfl) (fun E => rfl) (fun X hr => ?_)
  refine g_lconst (v := 1) dX1_isAt_0 (by decide) ?_
  refine g_iconst (v := 4) dX1_isAt_1 (by decide) ?_
  refine g_lload_n dX1_isAt_2 rfl ?_
  refine g_cS_J_I (c_X1_length rfl) cs_X1_19 ⟨by decide, by decide⟩ (Nat.le_of_ble_eq_true rfl) dX1_isAt_3 ?_
  refine g_imul dX1_isAt_6 ?_
  refine g_lshl dX1_isAt_7 ?_
  refine g_lconst (v := 1) dX1_isAt_8 (by decide) ?_
  refine g_lsub dX1_isAt_9 ?_
  refine g_lst5 dX1_isAt_10 (by decide) lnl_n ?_
  refine g_lload_n dX1_isAt_12 rfl ?_
  refine g_iconst (v := 4) dX1_isAt_13 (by decide) ?_
  refine g_iload_n dX1_isAt_14 rfl ?_
  refine g_iconst (v := 1) dX1_isAt_15 (by decide) ?_
  refine g_iadd dX1_isAt_16 ?_
  refine g_imul dX1_isAt_17 ?_
  refine g_lushr dX1_isAt_18 ?_
  refine g_lload dX1_isAt_19 rfl ?_
  refine g_land dX1_isAt_21 ?_
  refine g_lload_n dX1_isAt_22 rfl ?_
  refine g_iconst (v := 4) dX1_isAt_23 (by decide) ?_
  refine g_lushr dX1_isAt_24 ?_
  refine g_lcmp dX1_isAt_25 ?_
  refine g_if_ne (tgt := 33) dX1_isAt_26 (by decide) (fun hc => ?_) (fun hc => ?_)
  · have hf := ite_f hc hf
    refine g_iconst (v := 0) dX1_isAt_33 (by decide) ?_
    exact g_zret_t hr (Or.inl rfl) hf dX1_isAt_34
  · have hf := ite_t hc hf
    refine g_iconst (v := 1) dX1_isAt_29 (by decide) ?_
    refine g_goto (tgt := 34) dX1_isAt_30 (by decide) ?_
    exact g_zret_t hr (Or.inr rfl) hf dX1_isAt_34
theorem z_X1_isAt  {x0 : Int64} {x2 : Int32} {x3 : Int64} : f_X1_isAt x0 x2 x3 = 0 ∨ f_X1_isAt x0 x2 x3 = 1 := by
  unfold f_X1_isAt
  first | (repeat' split) <;> first | exact Or.inl rfl | exact Or.inr rfl
-- X1_holds
def b_X1_holds_14   (x0 : Int64) (x2 : Int64) (x4 : Int32) : Nat → Int32 → Option Int32
  | 0, _ => none
  | n + 1, x5 =>
    if x4 < x5 then (some (0 : Int32))
    else (if (f_X1_isAt x0 x5 x2) = 0 then (b_X1_holds_14 x0 x2 x4 n (x5 + (1 : Int32)))
    else (some (1 : Int32)))
set_option maxHeartbeats 4000000 in
set_option maxRecDepth 100000 in
theorem w_X1_holds_14 {X : Cx} {r : Int32} {M : Mem}  {x0 : Int64} {x2 : Int64} {x4 : Int32}   (hr : X.meth.sig.returnType = (some .boolean)) : ∀ (n : Nat) {x5 : Int32}, b_X1_holds_14 x0 x2 x4 n x5 = some r → G X (some (.int r), M) RX1 cX1_holds 6 2 47 14 [some (.long x0), none, some (.long x2), none, some (.int x4), some (.int x5)] [] M := by
  intro n
  induction n with
  | zero => intro x5 hf; cases hf
  | succ n ih =>
    intro x5 hf
    rw [b_X1_holds_14.eq_2] at hf
    refine g_iload dX1_holds_14 rfl ?_
    refine g_iload dX1_holds_16 rfl ?_
    refine g_icmp_gt (tgt := 39) dX1_holds_18 (by decide) (fun hc => ?_) (fun hc => ?_)
    · have hf := ite_t hc hf
      refine g_iconst (v := 0) dX1_holds_39 (by decide) ?_
      exact g_zret_p hr (Or.inl rfl) hf dX1_holds_40
    · have hf := ite_f hc hf
      refine g_lload_n dX1_holds_21 rfl ?_
      refine g_iload dX1_holds_22 rfl ?_
      refine g_lload_n dX1_holds_24 rfl ?_
      refine g_cS_JIJ_I (c_X1_isAt rfl) cs_X1_30 ⟨by decide, by decide⟩ (Nat.le_of_ble_eq_true rfl) dX1_holds_25 ?_
      refine g_if_eq (tgt := 33) dX1_holds_28 (by decide) (fun hc => ?_) (fun hc => ?_)
      · have hf := ite_t hc hf
        refine g_iinc5 (v := (x5 + (1 : Int32))) dX1_holds_33 (by decide) lnl_i rfl ?_
        refine g_goto (tgt := 14) dX1_holds_36 (by decide) ?_
        exact ih hf
      · have hf := ite_f hc hf
        refine g_iconst (v := 1) dX1_holds_31 (by decide) ?_
        exact g_zret_p hr (Or.inr rfl) hf dX1_holds_32
def f_X1_holds (x0 : Int64) (x2 : Int64) : Option Int32 :=
  b_X1_holds_14 x0 x2 ((f_X1_length x0) - (f_X1_length x2)) fu (0 : Int32)
set_option maxHeartbeats 4000000 in
set_option maxRecDepth 100000 in
theorem c_X1_holds {l : Launch} {x0 : Int64} {x2 : Int64} {M : Mem} {r : Int32} (hf : f_X1_holds x0 x2 = some r) : Cn l yX1_holds cX1_holds 6 (some .boolean) 2 47 (fun E => [.long x0, .long x2]) M (some (.int r), M) := by
  unfold f_X1_holds at hf
  refine cn_of RX1 (fun E => [some (.long x0), none, some (.long x2), none, none, none]) (by decide +kernel) rfl (fun E => Nat.le_of_ble_eq_true rfl) (fun E => rfl) (fun X hr => ?_)
  refine g_lload_n dX1_holds_0 rfl ?_
  refine g_cS_J_I (c_X1_length rfl) cs_X1_19 ⟨by decide, by decide⟩ (Nat.le_of_ble_eq_true rfl) dX1_holds_1 ?_
  refine g_lload_n dX1_holds_4 rfl ?_
  refine g_cS_J_I (c_X1_length rfl) cs_X1_19 ⟨by decide, by decide⟩ (Nat.le_of_ble_eq_true rfl) dX1_holds_5 ?_
  refine g_isub dX1_holds_8 ?_
  refine g_ist4 dX1_holds_9 (by decide) lnl_n ?_
  refine g_iconst (v := 0) dX1_holds_11 (by decide) ?_
  refine g_ist5 dX1_holds_12 (by decide) lnl_i ?_
  exact w_X1_holds_14 hr fu hf
-- X6_fewest_1
def b_X6_fewest_1_114 (rc : Int32 → Int64 → Int64 → Int32 → Int32 → Option Int32) (k28 : Int32 → Int32 → Option Int32) (M : Mem) (x1 : Int32) (x2 : Int64) (x4 : Int64) (x6 : Int32) (x7 : Int32) (x8 : Int32) (x9 : Int32) : Option Int32 :=
  k28 x8 (x9 + (1 : Int32))
set_option maxHeartbeats 4000000 in
set_option maxRecDepth 100000 in
theorem w_X6_fewest_1_114 {X : Cx} {r : Int32} {M : Mem} {k28 : Int32 → Int32 → Option Int32} {x1 : Int32} {x2 : Int64} {x4 : Int64} {x6 : Int32} {x7 : Int32}   {rc : Int32 → Int64 → Int64 → Int32 → Int32 → Option Int32} {fr lo frr lor : Nat} {x8 : Int32} {x9 : Int32} (hr : X.meth.sig.returnType = (some .int)) (hrc : ∀ {y1 : Int32} {y2 : Int64} {y4 : Int64} {y6 : Int32} {y7 : Int32} {r2 : Int32}, rc y1 y2 y4 y6 y7 = some r2 → Cn X.2.2.1 yX6_fewest cX6_fewest 13 (some .int) frr lor (fun E => [.ref (E.1 1), .int y1, .long y2, .long y4, .int y6, .int y7]) M (some (.int r2), M)) (hB : 5 ≤ fr ∧ 121 ≤ lo) (hrm : frr + 1 ≤ fr ∧ 8 + (13 + 11) + lor ≤ lo) (hk28 : ∀ {x8_ : Int32} {x9_ : Int32}, k28 x8_ x9_ = some r → G X (some (.int r), M) RX6 cX6_fewest 13 fr lo 28 [some (.ref (X.1.1 1)), some (.int x1), some (.long x2), none, some (.long x4), none, some (.int x6), some (.int x7), some (.int x8_), some (.int x9_), none, none, none] [] M) (hf : b_X6_fewest_1_114 rc k28 M x1 x2 x4 x6 x7 x8 x9 = some r) : G X (some (.int r), M) RX6 cX6_fewest 13 fr lo 114 [some (.ref (X.1.1 1)), some (.int x1), some (.long x2), none, some (.long x4), none, some (.int x6), some (.int x7), some (.int x8), some (.int x9), none, none, none] [] M := by
  unfold b_X6_fewest_1_114 at hf
  refine g_iinc9 (v := (x9 + (1 : Int32))) dX6_fewest_114 (by decide) lnl_i rfl ?_
  refine g_goto (tgt := 28) dX6_fewest_117 (by decide) ?_
  exact hk28 hf
def b_X6_fewest_1_110 (rc : Int32 → Int64 → Int64 → Int32 → Int32 → Option Int32) (k112 : Int32 → Int32 → Option Int32) (M : Mem) (x1 : Int32) (x2 : Int64) (x4 : Int64) (x6 : Int32) (x7 : Int32) (x8 : Int32) (x9 : Int32) : Option Int32 :=
  k112 x9 x8
set_option maxHeartbeats 4000000 in
set_option maxRecDepth 100000 in
theorem w_X6_fewest_1_110 {X : Cx} {r : Int32} {M : Mem} {k112 : Int32 → Int32 → Option Int32} {x1 : Int32} {x2 : Int64} {x4 : Int64} {x6 : Int32} {x7 : Int32}   {rc : Int32 → Int64 → Int64 → Int32 → Int32 → Option Int32} {fr lo frr lor : Nat} {x8 : Int32} {x9 : Int32} (hr : X.meth.sig.returnType = (some .int)) (hrc : ∀ {y1 : Int32} {y2 : Int64} {y4 : Int64} {y6 : Int32} {y7 : Int32} {r2 : Int32}, rc y1 y2 y4 y6 y7 = some r2 → Cn X.2.2.1 yX6_fewest cX6_fewest 13 (some .int) frr lor (fun E => [.ref (E.1 1), .int y1, .long y2, .long y4, .int y6, .int y7]) M (some (.int r2), M)) (hB : 5 ≤ fr ∧ 121 ≤ lo) (hrm : frr + 1 ≤ fr ∧ 8 + (13 + 11) + lor ≤ lo) (hk112 : ∀ {x9_ : Int32} {t0_ : Int32}, k112 x9_ t0_ = some r → G X (some (.int r), M) RX6 cX6_fewest 13 fr lo 112 [some (.ref (X.1.1 1)), some (.int x1), some (.long x2), none, some (.long x4), none, some (.int x6), some (.int x7), none, some (.int x9_), none, none, none] [.int t0_] M) (hf : b_X6_fewest_1_110 rc k112 M x1 x2 x4 x6 x7 x8 x9 = some r) : G X (some (.int r), M) RX6 cX6_fewest 13 fr lo 110 [some (.ref (X.1.1 1)), some (.int x1), some (.long x2), none, some (.long x4), none, some (.int x6), some (.int x7), some (.int x8), some (.int x9), none, none, none] [] M := by
  unfold b_X6_fewest_1_110 at hf
  refine g_iload dX6_fewest_110 rfl ?_
  exact g_weakr (hk112 hf) (lsk (lsk (lsk (lsd (lsk (lsd (lsk (lsk (lsd (lsk (lsd (lsd (lsd lsz)))))))))))))
def b_X6_fewest_1_112 (rc : Int32 → Int64 → Int64 → Int32 → Int32 → Option Int32) (k114 : Int32 → Int32 → Option Int32) (M : Mem) (x1 : Int32) (x2 : Int64) (x4 : Int64) (x6 : Int32) (x7 : Int32) (x9 : Int32) (t0 : Int32) : Option Int32 :=
  k114 t0 x9
set_option maxHeartbeats 4000000 in
set_option maxRecDepth 100000 in
theorem w_X6_fewest_1_112 {X : Cx} {r : Int32} {M : Mem} {k114 : Int32 → Int32 → Option Int32} {x1 : Int32} {x2 : Int64} {x4 : Int64} {x6 : Int32} {x7 : Int32}   {rc : Int32 → Int64 → Int64 → Int32 → Int32 → Option Int32} {fr lo frr lor : Nat} {x9 : Int32} {t0 : Int32} (hr : X.meth.sig.returnType = (some .int)) (hrc : ∀ {y1 : Int32} {y2 : Int64} {y4 : Int64} {y6 : Int32} {y7 : Int32} {r2 : Int32}, rc y1 y2 y4 y6 y7 = some r2 → Cn X.2.2.1 yX6_fewest cX6_fewest 13 (some .int) frr lor (fun E => [.ref (E.1 1), .int y1, .long y2, .long y4, .int y6, .int y7]) M (some (.int r2), M)) (hB : 5 ≤ fr ∧ 121 ≤ lo) (hrm : frr + 1 ≤ fr ∧ 8 + (13 + 11) + lor ≤ lo) (hk114 : ∀ {x8_ : Int32} {x9_ : Int32}, k114 x8_ x9_ = some r → G X (some (.int r), M) RX6 cX6_fewest 13 fr lo 114 [some (.ref (X.1.1 1)), some (.int x1), some (.long x2), none, some (.long x4), none, some (.int x6), some (.int x7), some (.int x8_), some (.int x9_), none, none, none] [] M) (hf : b_X6_fewest_1_112 rc k114 M x1 x2 x4 x6 x7 x9 t0 = some r) : G X (some (.int r), M) RX6 cX6_fewest 13 fr lo 112 [some (.ref (X.1.1 1)), some (.int x1), some (.long x2), none, some (.long x4), none, some (.int x6), some (.int x7), none, some (.int x9), none, none, none] [.int t0] M := by
  unfold b_X6_fewest_1_112 at hf
  refine g_ist8 dX6_fewest_112 (by decide) lnl_i ?_
  exact hk114 hf
def b_X6_fewest_1_105 (rc : Int32 → Int64 → Int64 → Int32 → Int32 → Option Int32) (k112 : Int32 → Int32 → Option Int32) (M : Mem) (x1 : Int32) (x2 : Int64) (x4 : Int64) (x6 : Int32) (x7 : Int32) (x9 : Int32) (x12 : Int32) : Option Int32 :=
  k112 x9 x12
set_option maxHeartbeats 4000000 in
set_option maxRecDepth 100000 in
theorem w_X6_fewest_1_105 {X : Cx} {r : Int32} {M : Mem} {k112 : Int32 → Int32 → Option Int32} {x1 : Int32} {x2 : Int64} {x4 : Int64} {x6 : Int32} {x7 : Int32}   {rc : Int32 → Int64 → Int64 → Int32 → Int32 → Option Int32} {fr lo frr lor : Nat} {x9 : Int32} {x12 : Int32} (hr : X.meth.sig.returnType = (some .int)) (hrc : ∀ {y1 : Int32} {y2 : Int64} {y4 : Int64} {y6 : Int32} {y7 : Int32} {r2 : Int32}, rc y1 y2 y4 y6 y7 = some r2 → Cn X.2.2.1 yX6_fewest cX6_fewest 13 (some .int) frr lor (fun E => [.ref (E.1 1), .int y1, .long y2, .long y4, .int y6, .int y7]) M (some (.int r2), M)) (hB : 5 ≤ fr ∧ 121 ≤ lo) (hrm : frr + 1 ≤ fr ∧ 8 + (13 + 11) + lor ≤ lo) (hk112 : ∀ {x9_ : Int32} {t0_ : Int32}, k112 x9_ t0_ = some r → G X (some (.int r), M) RX6 cX6_fewest 13 fr lo 112 [some (.ref (X.1.1 1)), some (.int x1), some (.long x2), none, some (.long x4), none, some (.int x6), some (.int x7), none, some (.int x9_), none, none, none] [.int t0_] M) (hf : b_X6_fewest_1_105 rc k112 M x1 x2 x4 x6 x7 x9 x12 = some r) : G X (some (.int r), M) RX6 cX6_fewest 13 fr lo 105 [some (.ref (X.1.1 1)), some (.int x1), some (.long x2), none, some (.long x4), none, some (.int x6), some (.int x7), none, some (.int x9), none, none, some (.int x12)] [] M := by
  unfold b_X6_fewest_1_105 at hf
  refine g_iload dX6_fewest_105 rfl ?_
  refine g_goto (tgt := 112) dX6_fewest_107 (by decide) ?_
  exact g_weakr (hk112 hf) (lsk (lsk (lsk (lsd (lsk (lsd (lsk (lsk (lsd (lsk (lsd (lsd (lsd lsz)))))))))))))
def b_X6_fewest_1_28 (rc : Int32 → Int64 → Int64 → Int32 → Int32 → Option Int32)  (M : Mem) (x1 : Int32) (x2 : Int64) (x4 : Int64) (x6 : Int32) (x7 : Int32) : Nat → Int32 → Int32 → Option Int32
  | 0, _, _ => none
  | n + 1, x8, x9 =>
    if (M.1 1 6) ≤ x9 then (some x8)
    else ((f_X6_isOpen_1 M x9 x1 x6).bind fun r2 =>
    if r2 = 0 then (b_X6_fewest_1_114 rc (fun x8_ x9_ => b_X6_fewest_1_28 rc M x1 x2 x4 x6 x7 n x8_ x9_) M x1 x2 x4 x6 x7 x8 x9)
    else ((f_X4_behind_1 M x9 x2).bind fun r3 =>
    ck x9 8 <|
    (rc (M.1 3 x9.toNatClampNeg) r3 x4 (x6 ||| ((1 : Int32) <<< (x9 &&& 31))) (x7 + (1 : Int32))).bind fun r4 =>
    if r4 = (-1 : Int32) then (b_X6_fewest_1_110 rc (fun x9_ t0_ => b_X6_fewest_1_112 rc (fun x8_ x9_ => b_X6_fewest_1_114 rc (fun x8_ x9_ => b_X6_fewest_1_28 rc M x1 x2 x4 x6 x7 n x8_ x9_) M x1 x2 x4 x6 x7 x8_ x9_) M x1 x2 x4 x6 x7 x9_ t0_) M x1 x2 x4 x6 x7 x8 x9)
    else (if x8 = (-1 : Int32) then (b_X6_fewest_1_105 rc (fun x9_ t0_ => b_X6_fewest_1_112 rc (fun x8_ x9_ => b_X6_fewest_1_114 rc (fun x8_ x9_ => b_X6_fewest_1_28 rc M x1 x2 x4 x6 x7 n x8_ x9_) M x1 x2 x4 x6 x7 x8_ x9_) M x1 x2 x4 x6 x7 x9_ t0_) M x1 x2 x4 x6 x7 x9 r4)
    else (if x8 ≤ r4 then (b_X6_fewest_1_110 rc (fun x9_ t0_ => b_X6_fewest_1_112 rc (fun x8_ x9_ => b_X6_fewest_1_114 rc (fun x8_ x9_ => b_X6_fewest_1_28 rc M x1 x2 x4 x6 x7 n x8_ x9_) M x1 x2 x4 x6 x7 x8_ x9_) M x1 x2 x4 x6 x7 x9_ t0_) M x1 x2 x4 x6 x7 x8 x9)
    else (b_X6_fewest_1_105 rc (fun x9_ t0_ => b_X6_fewest_1_112 rc (fun x8_ x9_ => b_X6_fewest_1_114 rc (fun x8_ x9_ => b_X6_fewest_1_28 rc M x1 x2 x4 x6 x7 n x8_ x9_) M x1 x2 x4 x6 x7 x8_ x9_) M x1 x2 x4 x6 x7 x9_ t0_) M x1 x2 x4 x6 x7 x9 r4)))))
set_option maxHeartbeats 4000000 in
set_option maxRecDepth 100000 in
theorem w_X6_fewest_1_28 {X : Cx} {r : Int32} {M : Mem}  {x1 : Int32} {x2 : Int64} {x4 : Int64} {x6 : Int32} {x7 : Int32}   {rc : Int32 → Int64 → Int64 → Int32 → Int32 → Option Int32} {fr lo frr lor : Nat} (hr : X.meth.sig.returnType = (some .int)) (hrc : ∀ {y1 : Int32} {y2 : Int64} {y4 : Int64} {y6 : Int32} {y7 : Int32} {r2 : Int32}, rc y1 y2 y4 y6 y7 = some r2 → Cn X.2.2.1 yX6_fewest cX6_fewest 13 (some .int) frr lor (fun E => [.ref (E.1 1), .int y1, .long y2, .long y4, .int y6, .int y7]) M (some (.int r2), M)) (hB : 5 ≤ fr ∧ 121 ≤ lo) (hrm : frr + 1 ≤ fr ∧ 8 + (13 + 11) + lor ≤ lo) : ∀ (n : Nat) {x8 : Int32} {x9 : Int32}, b_X6_fewest_1_28 rc M x1 x2 x4 x6 x7 n x8 x9 = some r → G X (some (.int r), M) RX6 cX6_fewest 13 fr lo 28 [some (.ref (X.1.1 1)), some (.int x1), some (.long x2), none, some (.long x4), none, some (.int x6), some (.int x7), some (.int x8), some (.int x9), none, none, none] [] M := by
  intro n
  induction n with
  | zero => intro x8 x9 hf; cases hf
  | succ n ih =>
    intro x8 x9 hf
    rw [b_X6_fewest_1_28.eq_2] at hf
    refine g_iload dX6_fewest_28 rfl ?_
    refine g_aload_n dX6_fewest_30 rfl ?_
    refine g_get (kk := 1) (by decide) (cel_1 _ _ _) rfl inX4 fl_X6_33 (by decide) rfl dX6_fewest_31 ?_
    refine g_icmp_ge (tgt := 120) dX6_fewest_34 (by decide) (fun hc => ?_) (fun hc => ?_)
    · have hf := ite_t hc hf
      refine g_iload dX6_fewest_120 rfl ?_
      exact g_iret_p hr hf dX6_fewest_122
    · have hf := ite_f hc hf
      refine g_aload_n dX6_fewest_37 rfl ?_
      refine g_iload dX6_fewest_38 rfl ?_
      refine g_iload_n dX6_fewest_40 rfl ?_
      refine g_iload dX6_fewest_41 rfl ?_
      obtain ⟨r2, hq, hf⟩ := bnd hf
      refine g_cS_RIII_I (c_X6_isOpen_1 hq) cs_X6_38 ⟨Nat.le_trans (by decide) hB.1, Nat.le_trans (by decide) hB.2⟩ (Nat.le_of_ble_eq_true rfl) dX6_fewest_43 ?_
      refine g_if_eq (tgt := 114) dX6_fewest_46 (by decide) (fun hc => ?_) (fun hc => ?_)
      · have hf := ite_t hc hf
        exact w_X6_fewest_1_114 hr hrc hB hrm (fun hf => ih hf) hf
      · have hf := ite_f hc hf
        refine g_aload_n dX6_fewest_49 rfl ?_
        refine g_iload dX6_fewest_50 rfl ?_
        refine g_lload_n dX6_fewest_52 rfl ?_
        obtain ⟨r3, hq, hf⟩ := bnd hf
        refine g_cV_IJ_J (c_X4_behind_1 hq) cv_X6_42 (by decide) (cel_1 _ _ _) rfl ⟨Nat.le_trans (by decide) hB.1, Nat.le_trans (by decide) hB.2⟩ (Nat.le_of_ble_eq_true rfl) dX6_fewest_53 ?_
        refine g_lst10 dX6_fewest_56 (by decide) lnl_i ?_
        refine g_aload_n dX6_fewest_58 rfl ?_
        refine g_aload_n dX6_fewest_59 rfl ?_
        refine g_get (kk := 1) (by decide) (cel_1 _ _ _) rfl inX4 fl_X6_46 (by decide) rfl dX6_fewest_60 ?_
        refine g_iload dX6_fewest_63 rfl ?_
        obtain ⟨hi, hf⟩ := ck_s hf
        refine g_iaload (kk := 3) (by decide) (fun f g => cel_3 _ f g) hi rfl dX6_fewest_65 ?_
        refine g_lload dX6_fewest_66 rfl ?_
        refine g_lload dX6_fewest_68 rfl ?_
        refine g_iload dX6_fewest_70 rfl ?_
        refine g_iconst (v := 1) dX6_fewest_72 (by decide) ?_
        refine g_iload dX6_fewest_73 rfl ?_
        refine g_ishl dX6_fewest_75 ?_
        refine g_ior dX6_fewest_76 ?_
        refine g_iload dX6_fewest_77 rfl ?_
        refine g_iconst (v := 1) dX6_fewest_79 (by decide) ?_
        refine g_iadd dX6_fewest_80 ?_
        obtain ⟨r4, hq, hf⟩ := bnd hf
        refine g_cS_RIJJII_I (hrc hq) cs_X6_67 hrm (Nat.le_of_ble_eq_true rfl) dX6_fewest_81 ?_
        refine g_ist12 dX6_fewest_84 (by decide) lnl_n ?_
        refine g_iload dX6_fewest_86 rfl ?_
        refine g_iconst (v := (-1)) dX6_fewest_88 (by decide) ?_
        refine g_icmp_eq (tgt := 110) dX6_fewest_89 (by decide) (fun hc => ?_) (fun hc => ?_)
        · have hf := ite_t hc hf
          exact g_weakr (w_X6_fewest_1_110 hr hrc hB hrm (fun hf => w_X6_fewest_1_112 hr hrc hB hrm (fun hf => w_X6_fewest_1_114 hr hrc hB hrm (fun hf => ih hf) hf) hf) hf) (lsk (lsk (lsk (lsd (lsk (lsd (lsk (lsk (lsk (lsk (lsd (lsd (lsd lsz)))))))))))))
        · have hf := ite_f hc hf
          refine g_iload dX6_fewest_92 rfl ?_
          refine g_iconst (v := (-1)) dX6_fewest_94 (by decide) ?_
          refine g_icmp_eq (tgt := 105) dX6_fewest_95 (by decide) (fun hc => ?_) (fun hc => ?_)
          · have hf := ite_t hc hf
            exact g_weakr (w_X6_fewest_1_105 hr hrc hB hrm (fun hf => w_X6_fewest_1_112 hr hrc hB hrm (fun hf => w_X6_fewest_1_114 hr hrc hB hrm (fun hf => ih hf) hf) hf) hf) (lsk (lsk (lsk (lsd (lsk (lsd (lsk (lsk (lsd (lsk (lsd (lsd (lsk lsz)))))))))))))
          · have hf := ite_f hc hf
            refine g_iload dX6_fewest_98 rfl ?_
            refine g_iload dX6_fewest_100 rfl ?_
            refine g_icmp_ge (tgt := 110) dX6_fewest_102 (by decide) (fun hc => ?_) (fun hc => ?_)
            · have hf := ite_t hc hf
              exact g_weakr (w_X6_fewest_1_110 hr hrc hB hrm (fun hf => w_X6_fewest_1_112 hr hrc hB hrm (fun hf => w_X6_fewest_1_114 hr hrc hB hrm (fun hf => ih hf) hf) hf) hf) (lsk (lsk (lsk (lsd (lsk (lsd (lsk (lsk (lsk (lsk (lsd (lsd (lsd lsz)))))))))))))
            · have hf := ite_f hc hf
              exact g_weakr (w_X6_fewest_1_105 hr hrc hB hrm (fun hf => w_X6_fewest_1_112 hr hrc hB hrm (fun hf => w_X6_fewest_1_114 hr hrc hB hrm (fun hf => ih hf) hf) hf) hf) (lsk (lsk (lsk (lsd (lsk (lsd (lsk (lsk (lsd (lsk (lsd (lsd (lsk lsz)))))))))))))
def f_X6_fewest_1 (M : Mem) : Nat → Int32 → Int64 → Int64 → Int32 → Int32 → Option Int32
  | 0, _, _, _, _, _ => none
  | n + 1, x1, x2, x4, x6, x7 =>
    (f_X1_holds x2 x4).bind fun r1 =>
    if r1 = 0 then (if x7 < (6 : Int32) then (b_X6_fewest_1_28 (f_X6_fewest_1 M n) M x1 x2 x4 x6 x7 fu (-1 : Int32) (0 : Int32))
    else (some (-1 : Int32)))
    else (some x7)
set_option maxHeartbeats 4000000 in
set_option maxRecDepth 100000 in
theorem c_X6_fewest_1 {M : Mem} : ∀ (n : Nat) {l : Launch} {x1 : Int32} {x2 : Int64} {x4 : Int64} {x6 : Int32} {x7 : Int32} {r : Int32}, f_X6_fewest_1 M n x1 x2 x4 x6 x7 = some r → Cn l yX6_fewest cX6_fewest 13 (some .int) (5 + n) (121 + n * 32) (fun E => [.ref (E.1 1), .int x1, .long x2, .long x4, .int x6, .int x7]) M (some (.int r), M) := by
  intro n
  induction n with
  | zero => intro l x1 x2 x4 x6 x7 r hf; cases hf
  | succ n ih =>
    intro l x1 x2 x4 x6 x7 r hf
    rw [f_X6_fewest_1.eq_2] at hf
    refine cn_of RX6 (fun E => [some (.ref (E.1 1)), some (.int x1), some (.long x2), none, some (.long x4), none, some (.int x6), some (.int x7), none, none, none, none, none]) (by decide +kernel) rfl (fun E => Nat.le_of_ble_eq_true rfl) (fun E => rfl) (fun X hr => ?_)
    have hrc := fun {l : Launch} => @ih l
    have hB : 5 ≤ 5 + (n + 1) ∧ 121 ≤ 121 + (n + 1) * 32 := ⟨Nat.le_add_right _ _, Nat.le_add_right _ _⟩
    have hrm : (5 + n) + 1 ≤ 5 + (n + 1) ∧ 8 + (13 + 11) + (121 + n * 32) ≤ 121 + (n + 1) * 32 := ⟨by omega, by omega⟩
    refine g_lload_n dX6_fewest_0 rfl ?_
    refine g_lload dX6_fewest_1 rfl ?_
    obtain ⟨r1, hq, hf⟩ := bnd hf
    refine g_cS_JJ_I (c_X1_holds hq) cs_X6_71 ⟨Nat.le_trans (by decide) hB.1, Nat.le_trans (by decide) hB.2⟩ (Nat.le_of_ble_eq_true rfl) dX6_fewest_3 ?_
    refine g_if_eq (tgt := 12) dX6_fewest_6 (by decide) (fun hc => ?_) (fun hc => ?_)
    · have hf := ite_t hc hf
      refine g_iconst (v := (-1)) dX6_fewest_12 (by decide) ?_
      refine g_ist8 dX6_fewest_13 (by decide) lnl_i ?_
      refine g_iload dX6_fewest_15 rfl ?_
      refine g_bipush (v := 6) dX6_fewest_17 (by decide) ?_
      refine g_icmp_lt (tgt := 25) dX6_fewest_19 (by decide) (fun hc => ?_) (fun hc => ?_)
      · have hf := ite_t hc hf
        refine g_iconst (v := 0) dX6_fewest_25 (by decide) ?_
        refine g_ist9 dX6_fewest_26 (by decide) lnl_i ?_
        exact w_X6_fewest_1_28 hr hrc hB hrm fu hf
      · have hf := ite_f hc hf
        refine g_iload dX6_fewest_22 rfl ?_
        exact g_iret_p hr hf dX6_fewest_24
    · have hf := ite_f hc hf
      refine g_iload dX6_fewest_9 rfl ?_
      exact g_iret_p hr hf dX6_fewest_11
-- X6_fewestToCurse_1
def f_X6_fewestToCurse_1 (M : Mem) (x1 : Int64) (x3 : Int64) (x5 : Int32) : Option Int32 :=
  (f_X6_fewest_1 M 8 x5 x1 x3 (0 : Int32) (0 : Int32)).bind fun r1 =>
  some r1
set_option maxHeartbeats 4000000 in
set_option maxRecDepth 100000 in
theorem c_X6_fewestToCurse_1 {l : Launch} {x1 : Int64} {x3 : Int64} {x5 : Int32} {M : Mem} {r : Int32} (hf : f_X6_fewestToCurse_1 M x1 x3 x5 = some r) : Cn l yX6_fewestToCurse cX6_fewestToCurse 6 (some .int) 14 409 (fun E => [.ref (E.1 1), .long x1, .long x3, .int x5]) M (some (.int r), M) := by
  unfold f_X6_fewestToCurse_1 at hf
  refine cn_of RX6 (fun E => [some (.ref (E.1 1)), some (.long x1), none, some (.long x3), none, some (.int x5)]) (by decide +kernel) rfl (fun E => Nat.le_of_ble_eq_true rfl) (fun E => rfl) (fun X hr => ?_)
  refine g_aload_n dX6_fewestToCurse_0 rfl ?_
  refine g_iload dX6_fewestToCurse_1 rfl ?_
  refine g_lload_n dX6_fewestToCurse_3 rfl ?_
  refine g_lload_n dX6_fewestToCurse_4 rfl ?_
  refine g_iconst (v := 0) dX6_fewestToCurse_5 (by decide) ?_
  refine g_iconst (v := 0) dX6_fewestToCurse_6 (by decide) ?_
  obtain ⟨r1, hq, hf⟩ := bnd hf
  refine g_cS_RIJJII_I (c_X6_fewest_1 8 hq) cs_X6_67 ⟨by decide, by decide⟩ (Nat.le_of_ble_eq_true rfl) dX6_fewestToCurse_7 ?_
  exact g_iret_p hr hf dX6_fewestToCurse_10
-- X7_curse
def f_X7_curse (x1 : Int32) (x2 : Int32) (x3 : Int32) (M : Mem) : Option (Int32 × Mem) :=
  if (f_X7_isRow x1) = 0 then ((f_X7_refuseBad (-2 : Int32) M).bind fun r1 =>
  some (r1.1, r1.2))
  else (if (f_X7_isRow x2) = 0 then ((f_X7_refuseBad (-2 : Int32) M).bind fun r2 =>
  some (r2.1, r2.2))
  else (if (f_X7_isBelow x3 (6 : Int32)) = 0 then ((f_X7_refuseBad (-2 : Int32) M).bind fun r4 =>
  some (r4.1, r4.2))
  else (ck x1 4 <|
  ck x2 4 <|
  (f_X6_fewestToCurse_1 M (M.2 6 x1.toNatClampNeg) (M.2 6 x2.toNatClampNeg) x3).bind fun r3 =>
  some (r3, M))))
set_option maxHeartbeats 4000000 in
set_option maxRecDepth 100000 in
theorem c_X7_curse {l : Launch} {x1 : Int32} {x2 : Int32} {x3 : Int32} {M : Mem} {r : Int32} {M1 : Mem} (hf : f_X7_curse x1 x2 x3 M = some (r, M1)) : Cn l yX7_curse cX7_curse 4 (some .int) 15 434 (fun E => [.ref (E.1 0), .int x1, .int x2, .int x3]) M (some (.int r), M1) := by
  unfold f_X7_curse at hf
  refine cn_of RX7 (fun E => [some (.ref (E.1 0)), some (.int x1), some (.int x2), some (.int x3)]) (by decide +kernel) rfl (fun E => Nat.le_of_ble_eq_true rfl) (fun E => rfl) (fun X hr => ?_)
  refine g_iload_n dX7_curse_0 rfl ?_
  refine g_cS_I_I (c_X7_isRow rfl) cs_X7_106 ⟨by decide, by decide⟩ (Nat.le_of_ble_eq_true rfl) dX7_curse_1 ?_
  refine g_if_eq (tgt := 23) dX7_curse_4 (by decide) (fun hc => ?_) (fun hc => ?_)
  · have hf := ite_t hc hf
    refine g_aload_n dX7_curse_23 rfl ?_
    refine g_bipush (v := (-2)) dX7_curse_24 (by decide) ?_
    obtain ⟨r1, hq, hf⟩ := bnd hf
    refine g_cV_I_I (c_X7_refuseBad (r := r1.1) (M1 := r1.2) hq) cv_X7_60 (by decide) (cel_0 _ _ _) rfl ⟨by decide, by decide⟩ (Nat.le_of_ble_eq_true rfl) dX7_curse_26 ?_
    exact g_iret_w hr hf dX7_curse_29
  · have hf := ite_f hc hf
    refine g_iload_n dX7_curse_7 rfl ?_
    refine g_cS_I_I (c_X7_isRow rfl) cs_X7_106 ⟨by decide, by decide⟩ (Nat.le_of_ble_eq_true rfl) dX7_curse_8 ?_
    refine g_if_eq (tgt := 23) dX7_curse_11 (by decide) (fun hc => ?_) (fun hc => ?_)
    · have hf := ite_t hc hf
      refine g_aload_n dX7_curse_23 rfl ?_
      refine g_bipush (v := (-2)) dX7_curse_24 (by decide) ?_
      obtain ⟨r2, hq, hf⟩ := bnd hf
      refine g_cV_I_I (c_X7_refuseBad (r := r2.1) (M1 := r2.2) hq) cv_X7_60 (by decide) (cel_0 _ _ _) rfl ⟨by decide, by decide⟩ (Nat.le_of_ble_eq_true rfl) dX7_curse_26 ?_
      exact g_iret_w hr hf dX7_curse_29
    · have hf := ite_f hc hf
      refine g_iload_n dX7_curse_14 rfl ?_
      refine g_bipush (v := 6) dX7_curse_15 (by decide) ?_
      refine g_cS_II_I (c_X7_isBelow rfl) cs_X7_56 ⟨by decide, by decide⟩ (Nat.le_of_ble_eq_true rfl) dX7_curse_17 ?_
      refine g_if_ne (tgt := 30) dX7_curse_20 (by decide) (fun hc => ?_) (fun hc => ?_)
      · have hf := ite_f hc hf
        refine g_aload_n dX7_curse_30 rfl ?_
        refine g_get (kk := 0) (by decide) (cel_0 _ _ _) rfl inX7 fl_X7_10 (by decide) rfl dX7_curse_31 ?_
        refine g_aload_n dX7_curse_34 rfl ?_
        refine g_get (kk := 0) (by decide) (cel_0 _ _ _) rfl inX7 fl_X7_10 (by decide) rfl dX7_curse_35 ?_
        refine g_get (kk := 1) (by decide) (cel_1 _ _ _) rfl inX4 fl_X7_109 (by decide) rfl dX7_curse_38 ?_
        refine g_iload_n dX7_curse_41 rfl ?_
        obtain ⟨hi, hf⟩ := ck_s hf
        refine g_laload (kk := 6) (by decide) (fun f g => cel_6 _ f g) hi rfl dX7_curse_42 ?_
        refine g_aload_n dX7_curse_43 rfl ?_
        refine g_get (kk := 0) (by decide) (cel_0 _ _ _) rfl inX7 fl_X7_10 (by decide) rfl dX7_curse_44 ?_
        refine g_get (kk := 1) (by decide) (cel_1 _ _ _) rfl inX4 fl_X7_109 (by decide) rfl dX7_curse_47 ?_
        refine g_iload_n dX7_curse_50 rfl ?_
        obtain ⟨hi, hf⟩ := ck_s hf
        refine g_laload (kk := 6) (by decide) (fun f g => cel_6 _ f g) hi rfl dX7_curse_51 ?_
        refine g_iload_n dX7_curse_52 rfl ?_
        obtain ⟨r3, hq, hf⟩ := bnd hf
        refine g_cS_RJJI_I (c_X6_fewestToCurse_1 hq) cs_X7_181 ⟨by decide, by decide⟩ (Nat.le_of_ble_eq_true rfl) dX7_curse_53 ?_
        exact g_iret_w hr hf dX7_curse_56
      · have hf := ite_t hc hf
        refine g_aload_n dX7_curse_23 rfl ?_
        refine g_bipush (v := (-2)) dX7_curse_24 (by decide) ?_
        obtain ⟨r4, hq, hf⟩ := bnd hf
        refine g_cV_I_I (c_X7_refuseBad (r := r4.1) (M1 := r4.2) hq) cv_X7_60 (by decide) (cel_0 _ _ _) rfl ⟨by decide, by decide⟩ (Nat.le_of_ble_eq_true rfl) dX7_curse_26 ?_
        exact g_iret_w hr hf dX7_curse_29
-- X1_isCode
def f_X1_isCode (x0 : Int32) : Int32 :=
  if x0 = 0 then ((1 : Int32))
  else (if (x0 - x0 / (17 : Int32) * (17 : Int32)) = 0 then ((0 : Int32))
  else ((1 : Int32)))
set_option maxHeartbeats 4000000 in
set_option maxRecDepth 100000 in
theorem c_X1_isCode {l : Launch} {x0 : Int32} {M : Mem} {r : Int32} (hf : f_X1_isCode x0 = r) : Cn l yX1_isCode cX1_isCode 1 (some .boolean) 0 0 (fun E => [.int x0]) M (some (.int r), M) := by
  unfold f_X1_isCode at hf
  refine cn_of RX1 (fun E => [some (.int x0)]) (by decide +kernel) rfl (fun E => Nat.le_of_ble_eq_true rfl) (fun E => rfl) (fun X hr => ?_)
  refine g_iload_n dX1_isCode_0 rfl ?_
  refine g_if_eq (tgt := 11) dX1_isCode_1 (by decide) (fun hc => ?_) (fun hc => ?_)
  · have hf := ite_t hc hf
    refine g_iconst (v := 1) dX1_isCode_11 (by decide) ?_
    refine g_goto (tgt := 16) dX1_isCode_12 (by decide) ?_
    exact g_zret_t hr (Or.inr rfl) hf dX1_isCode_16
  · have hf := ite_f hc hf
    refine g_iload_n dX1_isCode_4 rfl ?_
    refine g_bipush (v := 17) dX1_isCode_5 (by decide) ?_
    refine g_irem dX1_isCode_7 (by decide) ?_
    refine g_if_eq (tgt := 15) dX1_isCode_8 (by decide) (fun hc => ?_) (fun hc => ?_)
    · have hf := ite_t hc hf
      refine g_iconst (v := 0) dX1_isCode_15 (by decide) ?_
      exact g_zret_t hr (Or.inl rfl) hf dX1_isCode_16
    · have hf := ite_f hc hf
      refine g_iconst (v := 1) dX1_isCode_11 (by decide) ?_
      refine g_goto (tgt := 16) dX1_isCode_12 (by decide) ?_
      exact g_zret_t hr (Or.inr rfl) hf dX1_isCode_16
theorem z_X1_isCode  {x0 : Int32} : f_X1_isCode x0 = 0 ∨ f_X1_isCode x0 = 1 := by
  unfold f_X1_isCode
  first | (repeat' split) <;> first | exact Or.inl rfl | exact Or.inr rfl
-- X1_ofCode
def f_X1_ofCode (x0 : Int32) : Int64 :=
  if 0 < x0 then (if (16 : Int32) < x0 then ((f_X1_longer (f_X1_longer (0 : Int64) ((x0 / (17 : Int32)) - (1 : Int32))) ((x0 - x0 / (17 : Int32) * (17 : Int32)) - (1 : Int32))))
  else ((f_X1_longer (0 : Int64) (x0 - (1 : Int32)))))
  else ((0 : Int64))
set_option maxHeartbeats 4000000 in
set_option maxRecDepth 100000 in
theorem c_X1_ofCode {l : Launch} {x0 : Int32} {M : Mem} {r : Int64} (hf : f_X1_ofCode x0 = r) : Cn l yX1_ofCode cX1_ofCode 1 (some .long) 1 23 (fun E => [.int x0]) M (some (.long r), M) := by
  unfold f_X1_ofCode at hf
  refine cn_of RX1 (fun E => [some (.int x0)]) (by decide +kernel) rfl (fun E => Nat.le_of_ble_eq_true rfl) (fun E => rfl) (fun X hr => ?_)
  refine g_iload_n dX1_ofCode_0 rfl ?_
  refine g_if_gt (tgt := 6) dX1_ofCode_1 (by decide) (fun hc => ?_) (fun hc => ?_)
  · have hf := ite_t hc hf
    refine g_iload_n dX1_ofCode_6 rfl ?_
    refine g_bipush (v := 16) dX1_ofCode_7 (by decide) ?_
    refine g_icmp_gt (tgt := 20) dX1_ofCode_9 (by decide) (fun hc => ?_) (fun hc => ?_)
    · have hf := ite_t hc hf
      refine g_lconst (v := 0) dX1_ofCode_20 (by decide) ?_
      refine g_iload_n dX1_ofCode_21 rfl ?_
      refine g_bipush (v := 17) dX1_ofCode_22 (by decide) ?_
      refine g_idiv dX1_ofCode_24 (by decide) ?_
      refine g_iconst (v := 1) dX1_ofCode_25 (by decide) ?_
      refine g_isub dX1_ofCode_26 ?_
      refine g_cS_JI_J (c_X1_longer rfl) cs_X1_27 ⟨by decide, by decide⟩ (Nat.le_of_ble_eq_true rfl) dX1_ofCode_27 ?_
      refine g_iload_n dX1_ofCode_30 rfl ?_
      refine g_bipush (v := 17) dX1_ofCode_31 (by decide) ?_
      refine g_irem dX1_ofCode_33 (by decide) ?_
      refine g_iconst (v := 1) dX1_ofCode_34 (by decide) ?_
      refine g_isub dX1_ofCode_35 ?_
      refine g_cS_JI_J (c_X1_longer rfl) cs_X1_27 ⟨by decide, by decide⟩ (Nat.le_of_ble_eq_true rfl) dX1_ofCode_36 ?_
      exact g_lret_t hr hf dX1_ofCode_39
    · have hf := ite_f hc hf
      refine g_lconst (v := 0) dX1_ofCode_12 (by decide) ?_
      refine g_iload_n dX1_ofCode_13 rfl ?_
      refine g_iconst (v := 1) dX1_ofCode_14 (by decide) ?_
      refine g_isub dX1_ofCode_15 ?_
      refine g_cS_JI_J (c_X1_longer rfl) cs_X1_27 ⟨by decide, by decide⟩ (Nat.le_of_ble_eq_true rfl) dX1_ofCode_16 ?_
      exact g_lret_t hr hf dX1_ofCode_19
  · have hf := ite_f hc hf
    refine g_lconst (v := 0) dX1_ofCode_4 (by decide) ?_
    exact g_lret_t hr hf dX1_ofCode_5
-- X7_above
def b_X7_above_103 (k50 : Int32 → Int32 → Int32 → Mem → Option (Int32 × Mem))  (x1 : Int32) (x3 : Int32) (x4 : Int64) (x6 : Int32) (x7 : Int32) (x8 : Int32) (M : Mem) : Option (Int32 × Mem) :=
  k50 x6 x7 (x8 + (1 : Int32)) M
set_option maxHeartbeats 4000000 in
set_option maxRecDepth 100000 in
theorem w_X7_above_103 {X : Cx} {r : Int32} {M1 : Mem}  {k50 : Int32 → Int32 → Int32 → Mem → Option (Int32 × Mem)} {x1 : Int32} {x3 : Int32} {x4 : Int64}   {x6 : Int32} {x7 : Int32} {x8 : Int32} {M : Mem} (hr : X.meth.sig.returnType = (some .int)) (hk50 : ∀ {x6_ : Int32} {x7_ : Int32} {x8_ : Int32} {M_ : Mem}, k50 x6_ x7_ x8_ M_ = some (r, M1) → G X (some (.int r), M1) RX7 cX7_above 9 5 121 50 [some (.ref (X.1.1 0)), some (.int x1), none, some (.int x3), some (.long x4), none, some (.int x6_), some (.int x7_), some (.int x8_)] [] M_) (hf : b_X7_above_103 k50 x1 x3 x4 x6 x7 x8 M = some (r, M1)) : G X (some (.int r), M1) RX7 cX7_above 9 5 121 103 [some (.ref (X.1.1 0)), some (.int x1), none, some (.int x3), some (.long x4), none, some (.int x6), some (.int x7), some (.int x8)] [] M := by
  unfold b_X7_above_103 at hf
  refine g_iinc8 (v := (x8 + (1 : Int32))) dX7_above_103 (by decide) lnl_i rfl ?_
  refine g_goto (tgt := 50) dX7_above_106 (by decide) ?_
  exact hk50 hf
def b_X7_above_101 (k103 : Int32 → Int32 → Int32 → Mem → Option (Int32 × Mem))  (x1 : Int32) (x3 : Int32) (x4 : Int64) (x6 : Int32) (x8 : Int32) (t0 : Int32) (M : Mem) : Option (Int32 × Mem) :=
  k103 x6 t0 x8 M
set_option maxHeartbeats 4000000 in
set_option maxRecDepth 100000 in
theorem w_X7_above_101 {X : Cx} {r : Int32} {M1 : Mem}  {k103 : Int32 → Int32 → Int32 → Mem → Option (Int32 × Mem)} {x1 : Int32} {x3 : Int32} {x4 : Int64}   {x6 : Int32} {x8 : Int32} {t0 : Int32} {M : Mem} (hr : X.meth.sig.returnType = (some .int)) (hk103 : ∀ {x6_ : Int32} {x7_ : Int32} {x8_ : Int32} {M_ : Mem}, k103 x6_ x7_ x8_ M_ = some (r, M1) → G X (some (.int r), M1) RX7 cX7_above 9 5 121 103 [some (.ref (X.1.1 0)), some (.int x1), none, some (.int x3), some (.long x4), none, some (.int x6_), some (.int x7_), some (.int x8_)] [] M_) (hf : b_X7_above_101 k103 x1 x3 x4 x6 x8 t0 M = some (r, M1)) : G X (some (.int r), M1) RX7 cX7_above 9 5 121 101 [some (.ref (X.1.1 0)), some (.int x1), none, some (.int x3), some (.long x4), none, some (.int x6), none, some (.int x8)] [.int t0] M := by
  unfold b_X7_above_101 at hf
  refine g_ist7 dX7_above_101 (by decide) lnl_i ?_
  exact hk103 hf
def b_X7_above_50   (x1 : Int32) (x3 : Int32) (x4 : Int64) : Nat → Int32 → Int32 → Int32 → Mem → Option (Int32 × Mem)
  | 0, _, _, _, _ => none
  | n + 1, x6, x7, x8, M =>
    if (288 : Int32) < x8 then (if x3 = 0 then (some (x6, M))
    else (some (x7, M)))
    else (if (f_X1_isCode x8) = 0 then (b_X7_above_103 (fun x6_ x7_ x8_ M_ => b_X7_above_50 x1 x3 x4 n x6_ x7_ x8_ M_) x1 x3 x4 x6 x7 x8 M)
    else ((f_X4_behind_1 M x1 (f_X1_ofCode x8)).bind fun r3 =>
    if (lg_cmp r3 x4) = 0 then (if x7 = (-1 : Int32) then (b_X7_above_101 (fun x6_ x7_ x8_ M_ => b_X7_above_103 (fun x6_ x7_ x8_ M_ => b_X7_above_50 x1 x3 x4 n x6_ x7_ x8_ M_) x1 x3 x4 x6_ x7_ x8_ M_) x1 x3 x4 (x6 + (1 : Int32)) x8 x8 M)
    else (b_X7_above_101 (fun x6_ x7_ x8_ M_ => b_X7_above_103 (fun x6_ x7_ x8_ M_ => b_X7_above_50 x1 x3 x4 n x6_ x7_ x8_ M_) x1 x3 x4 x6_ x7_ x8_ M_) x1 x3 x4 (x6 + (1 : Int32)) x8 x7 M))
    else (b_X7_above_103 (fun x6_ x7_ x8_ M_ => b_X7_above_50 x1 x3 x4 n x6_ x7_ x8_ M_) x1 x3 x4 x6 x7 x8 M)))
set_option maxHeartbeats 4000000 in
set_option maxRecDepth 100000 in
theorem w_X7_above_50 {X : Cx} {r : Int32} {M1 : Mem}   {x1 : Int32} {x3 : Int32} {x4 : Int64}   (hr : X.meth.sig.returnType = (some .int)) : ∀ (n : Nat) {x6 : Int32} {x7 : Int32} {x8 : Int32} {M : Mem}, b_X7_above_50 x1 x3 x4 n x6 x7 x8 M = some (r, M1) → G X (some (.int r), M1) RX7 cX7_above 9 5 121 50 [some (.ref (X.1.1 0)), some (.int x1), none, some (.int x3), some (.long x4), none, some (.int x6), some (.int x7), some (.int x8)] [] M := by
  intro n
  induction n with
  | zero => intro x6 x7 x8 M hf; cases hf
  | succ n ih =>
    intro x6 x7 x8 M hf
    rw [b_X7_above_50.eq_2] at hf
    refine g_iload dX7_above_50 rfl ?_
    refine g_sipush (v := 288) dX7_above_52 (by decide) ?_
    refine g_icmp_gt (tgt := 109) dX7_above_55 (by decide) (fun hc => ?_) (fun hc => ?_)
    · have hf := ite_t hc hf
      refine g_iload_n dX7_above_109 rfl ?_
      refine g_if_ne (tgt := 118) dX7_above_110 (by decide) (fun hc => ?_) (fun hc => ?_)
      · have hf := ite_f hc hf
        refine g_iload dX7_above_118 rfl ?_
        exact g_iret_w hr hf dX7_above_120
      · have hf := ite_t hc hf
        refine g_iload dX7_above_113 rfl ?_
        refine g_goto (tgt := 120) dX7_above_115 (by decide) ?_
        exact g_iret_w hr hf dX7_above_120
    · have hf := ite_f hc hf
      refine g_iload dX7_above_58 rfl ?_
      refine g_cS_I_I (c_X1_isCode rfl) cs_X7_185 ⟨by decide, by decide⟩ (Nat.le_of_ble_eq_true rfl) dX7_above_60 ?_
      refine g_if_eq (tgt := 103) dX7_above_63 (by decide) (fun hc => ?_) (fun hc => ?_)
      · have hf := ite_t hc hf
        exact w_X7_above_103 hr (fun hf => ih hf) hf
      · have hf := ite_f hc hf
        refine g_aload_n dX7_above_66 rfl ?_
        refine g_get (kk := 0) (by decide) (cel_0 _ _ _) rfl inX7 fl_X7_10 (by decide) rfl dX7_above_67 ?_
        refine g_iload_n dX7_above_70 rfl ?_
        refine g_iload dX7_above_71 rfl ?_
        refine g_cS_I_J (c_X1_ofCode rfl) cs_X7_188 ⟨by decide, by decide⟩ (Nat.le_of_ble_eq_true rfl) dX7_above_73 ?_
        obtain ⟨r3, hq, hf⟩ := bnd hf
        refine g_cV_IJ_J (c_X4_behind_1 hq) cv_X7_154 (by decide) (cel_1 _ _ _) rfl ⟨by decide, by decide⟩ (Nat.le_of_ble_eq_true rfl) dX7_above_76 ?_
        refine g_lload dX7_above_79 rfl ?_
        refine g_lcmp dX7_above_81 ?_
        refine g_if_ne (tgt := 103) dX7_above_82 (by decide) (fun hc => ?_) (fun hc => ?_)
        · have hf := ite_f hc hf
          exact w_X7_above_103 hr (fun hf => ih hf) hf
        · have hf := ite_t hc hf
          refine g_iinc6 (v := (x6 + (1 : Int32))) dX7_above_85 (by decide) lnl_n rfl ?_
          refine g_iload dX7_above_88 rfl ?_
          refine g_iconst (v := (-1)) dX7_above_90 (by decide) ?_
          refine g_icmp_ne (tgt := 99) dX7_above_91 (by decide) (fun hc => ?_) (fun hc => ?_)
          · have hf := ite_f hc hf
            refine g_iload dX7_above_99 rfl ?_
            exact g_weakr (w_X7_above_101 hr (fun hf => w_X7_above_103 hr (fun hf => ih hf) hf) hf) (lsk (lsk (lsd (lsk (lsk (lsd (lsk (lsd (lsk lsz)))))))))
          · have hf := ite_t hc hf
            refine g_iload dX7_above_94 rfl ?_
            refine g_goto (tgt := 101) dX7_above_96 (by decide) ?_
            exact g_weakr (w_X7_above_101 hr (fun hf => w_X7_above_103 hr (fun hf => ih hf) hf) hf) (lsk (lsk (lsd (lsk (lsk (lsd (lsk (lsd (lsk lsz)))))))))
def f_X7_above (x1 : Int32) (x2 : Int32) (x3 : Int32) (M : Mem) : Option (Int32 × Mem) :=
  if (f_X7_isBridge M x1) = 0 then ((f_X7_refuseBad (-10 : Int32) M).bind fun r1 =>
  some (r1.1, r1.2))
  else (if (f_X7_isRow x2) = 0 then ((f_X7_refuseBad (-10 : Int32) M).bind fun r2 =>
  some (r2.1, r2.2))
  else (if (f_X7_isBelow x3 (2 : Int32)) = 0 then ((f_X7_refuseBad (-10 : Int32) M).bind fun r4 =>
  some (r4.1, r4.2))
  else (ck x2 4 <|
  b_X7_above_50 x1 x3 (M.2 6 x2.toNatClampNeg) fu (0 : Int32) (-1 : Int32) (0 : Int32) M)))
set_option maxHeartbeats 4000000 in
set_option maxRecDepth 100000 in
theorem c_X7_above {l : Launch} {x1 : Int32} {x2 : Int32} {x3 : Int32} {M : Mem} {r : Int32} {M1 : Mem} (hf : f_X7_above x1 x2 x3 M = some (r, M1)) : Cn l yX7_above cX7_above 9 (some .int) 5 121 (fun E => [.ref (E.1 0), .int x1, .int x2, .int x3]) M (some (.int r), M1) := by
  unfold f_X7_above at hf
  refine cn_of RX7 (fun E => [some (.ref (E.1 0)), some (.int x1), some (.int x2), some (.int x3), none, none, none, none, none]) (by decide +kernel) rfl (fun E => Nat.le_of_ble_eq_true rfl) (fun E => rfl) (fun X hr => ?_)
  refine g_aload_n dX7_above_0 rfl ?_
  refine g_iload_n dX7_above_1 rfl ?_
  refine g_cV_I_I (c_X7_isBridge rfl) cv_X7_83 (by decide) (cel_0 _ _ _) rfl ⟨by decide, by decide⟩ (Nat.le_of_ble_eq_true rfl) dX7_above_2 ?_
  refine g_if_eq (tgt := 23) dX7_above_5 (by decide) (fun hc => ?_) (fun hc => ?_)
  · have hf := ite_t hc hf
    refine g_aload_n dX7_above_23 rfl ?_
    refine g_bipush (v := (-10)) dX7_above_24 (by decide) ?_
    obtain ⟨r1, hq, hf⟩ := bnd hf
    refine g_cV_I_I (c_X7_refuseBad (r := r1.1) (M1 := r1.2) hq) cv_X7_60 (by decide) (cel_0 _ _ _) rfl ⟨by decide, by decide⟩ (Nat.le_of_ble_eq_true rfl) dX7_above_26 ?_
    exact g_iret_w hr hf dX7_above_29
  · have hf := ite_f hc hf
    refine g_iload_n dX7_above_8 rfl ?_
    refine g_cS_I_I (c_X7_isRow rfl) cs_X7_106 ⟨by decide, by decide⟩ (Nat.le_of_ble_eq_true rfl) dX7_above_9 ?_
    refine g_if_eq (tgt := 23) dX7_above_12 (by decide) (fun hc => ?_) (fun hc => ?_)
    · have hf := ite_t hc hf
      refine g_aload_n dX7_above_23 rfl ?_
      refine g_bipush (v := (-10)) dX7_above_24 (by decide) ?_
      obtain ⟨r2, hq, hf⟩ := bnd hf
      refine g_cV_I_I (c_X7_refuseBad (r := r2.1) (M1 := r2.2) hq) cv_X7_60 (by decide) (cel_0 _ _ _) rfl ⟨by decide, by decide⟩ (Nat.le_of_ble_eq_true rfl) dX7_above_26 ?_
      exact g_iret_w hr hf dX7_above_29
    · have hf := ite_f hc hf
      refine g_iload_n dX7_above_15 rfl ?_
      refine g_iconst (v := 2) dX7_above_16 (by decide) ?_
      refine g_cS_II_I (c_X7_isBelow rfl) cs_X7_56 ⟨by decide, by decide⟩ (Nat.le_of_ble_eq_true rfl) dX7_above_17 ?_
      refine g_if_ne (tgt := 30) dX7_above_20 (by decide) (fun hc => ?_) (fun hc => ?_)
      · have hf := ite_f hc hf
        refine g_aload_n dX7_above_30 rfl ?_
        refine g_get (kk := 0) (by decide) (cel_0 _ _ _) rfl inX7 fl_X7_10 (by decide) rfl dX7_above_31 ?_
        refine g_get (kk := 1) (by decide) (cel_1 _ _ _) rfl inX4 fl_X7_109 (by decide) rfl dX7_above_34 ?_
        refine g_iload_n dX7_above_37 rfl ?_
        obtain ⟨hi, hf⟩ := ck_s hf
        refine g_laload (kk := 6) (by decide) (fun f g => cel_6 _ f g) hi rfl dX7_above_38 ?_
        refine g_lst4 dX7_above_39 (by decide) lnl_i ?_
        refine g_iconst (v := 0) dX7_above_41 (by decide) ?_
        refine g_ist6 dX7_above_42 (by decide) lnl_n ?_
        refine g_iconst (v := (-1)) dX7_above_44 (by decide) ?_
        refine g_ist7 dX7_above_45 (by decide) lnl_i ?_
        refine g_iconst (v := 0) dX7_above_47 (by decide) ?_
        refine g_ist8 dX7_above_48 (by decide) lnl_i ?_
        exact g_weakr (w_X7_above_50 hr fu hf) (lsk (lsk (lsd (lsk (lsk (lsd (lsk (lsk (lsk lsz)))))))))
      · have hf := ite_t hc hf
        refine g_aload_n dX7_above_23 rfl ?_
        refine g_bipush (v := (-10)) dX7_above_24 (by decide) ?_
        obtain ⟨r4, hq, hf⟩ := bnd hf
        refine g_cV_I_I (c_X7_refuseBad (r := r4.1) (M1 := r4.2) hq) cv_X7_60 (by decide) (cel_0 _ _ _) rfl ⟨by decide, by decide⟩ (Nat.le_of_ble_eq_true rfl) dX7_above_26 ?_
        exact g_iret_w hr hf dX7_above_29
-- X2_put_7
def f_X2_put_7 (x1 : Int32) (x2 : Int32) (x3 : Int64) (x5 : Int64) (M : Mem) : Option Mem :=
  if (M.1 7 4) < (8 : Int32) then (ck (M.1 7 4) 8 <|
  let M1 := mI M 8 ((M.1 7 4).toNatClampNeg) x1
  ck (M1.1 7 4) 8 <|
  let M2 := mI M1 9 ((M1.1 7 4).toNatClampNeg) x2
  ck (M2.1 7 4) 8 <|
  let M3 := mL M2 10 ((M2.1 7 4).toNatClampNeg) x3
  ck (M3.1 7 4) 8 <|
  let M4 := mL M3 11 ((M3.1 7 4).toNatClampNeg) x5
  let M5 := mI M4 7 4 ((M4.1 7 4) + (1 : Int32))
  some M5)
  else (some M)
set_option maxHeartbeats 4000000 in
set_option maxRecDepth 100000 in
theorem c_X2_put_7 {l : Launch} {x1 : Int32} {x2 : Int32} {x3 : Int64} {x5 : Int64} {M : Mem} {M1 : Mem} (hf : f_X2_put_7 x1 x2 x3 x5 M = some M1) : Cn l yX2_put cX2_put 7 none 0 0 (fun E => [.ref (E.1 7), .int x1, .int x2, .long x3, .long x5]) M (none, M1) := by
  unfold f_X2_put_7 at hf
  refine cn_of RX2 (fun E => [some (.ref (E.1 7)), some (.int x1), some (.int x2), some (.long x3), none, some (.long x5), none]) (by decide +kernel) rfl (fun E => Nat.le_of_ble_eq_true rfl) (fun E => rfl) (fun X hr => ?_)
  refine g_aload_n dX2_put_0 rfl ?_
  refine g_get (kk := 7) (by decide) (cel_7 _ _ _) rfl inX2 fl_X2_25 (by decide) rfl dX2_put_1 ?_
  refine g_bipush (v := 8) dX2_put_4 (by decide) ?_
  refine g_icmp_lt (tgt := 10) dX2_put_6 (by decide) (fun hc => ?_) (fun hc => ?_)
  · have hf := ite_t hc hf
    refine g_aload_n dX2_put_10 rfl ?_
    refine g_get (kk := 7) (by decide) (cel_7 _ _ _) rfl inX2 fl_X2_9 (by decide) rfl dX2_put_11 ?_
    refine g_aload_n dX2_put_14 rfl ?_
    refine g_get (kk := 7) (by decide) (cel_7 _ _ _) rfl inX2 fl_X2_25 (by decide) rfl dX2_put_15 ?_
    refine g_iload_n dX2_put_18 rfl ?_
    obtain ⟨hi, hf⟩ := ck_s hf
    refine g_iastore (kk := 8) (by decide) (fun f g => cel_8 _ f g) hi rfl dX2_put_19 ?_
    refine g_aload_n dX2_put_20 rfl ?_
    refine g_get (kk := 7) (by decide) (cel_7 _ _ _) rfl inX2 fl_X2_15 (by decide) rfl dX2_put_21 ?_
    refine g_aload_n dX2_put_24 rfl ?_
    refine g_get (kk := 7) (by decide) (cel_7 _ _ _) rfl inX2 fl_X2_25 (by decide) rfl dX2_put_25 ?_
    refine g_iload_n dX2_put_28 rfl ?_
    obtain ⟨hi, hf⟩ := ck_s hf
    refine g_iastore (kk := 9) (by decide) (fun f g => cel_9 _ f g) hi rfl dX2_put_29 ?_
    refine g_aload_n dX2_put_30 rfl ?_
    refine g_get (kk := 7) (by decide) (cel_7 _ _ _) rfl inX2 fl_X2_18 (by decide) rfl dX2_put_31 ?_
    refine g_aload_n dX2_put_34 rfl ?_
    refine g_get (kk := 7) (by decide) (cel_7 _ _ _) rfl inX2 fl_X2_25 (by decide) rfl dX2_put_35 ?_
    refine g_lload_n dX2_put_38 rfl ?_
    obtain ⟨hi, hf⟩ := ck_s hf
    refine g_lastore (kk := 10) (by decide) (fun f g => cel_10 _ f g) hi rfl dX2_put_39 ?_
    refine g_aload_n dX2_put_40 rfl ?_
    refine g_get (kk := 7) (by decide) (cel_7 _ _ _) rfl inX2 fl_X2_22 (by decide) rfl dX2_put_41 ?_
    refine g_aload_n dX2_put_44 rfl ?_
    refine g_get (kk := 7) (by decide) (cel_7 _ _ _) rfl inX2 fl_X2_25 (by decide) rfl dX2_put_45 ?_
    refine g_lload dX2_put_48 rfl ?_
    obtain ⟨hi, hf⟩ := ck_s hf
    refine g_lastore (kk := 11) (by decide) (fun f g => cel_11 _ f g) hi rfl dX2_put_50 ?_
    refine g_aload_n dX2_put_51 rfl ?_
    refine g_dup dX2_put_52 rfl ?_
    refine g_get (kk := 7) (by decide) (cel_7 _ _ _) rfl inX2 fl_X2_25 (by decide) rfl dX2_put_53 ?_
    refine g_iconst (v := 1) dX2_put_56 (by decide) ?_
    refine g_iadd dX2_put_57 ?_
    refine g_putI (kk := 7) (by decide) (cel_7 _ _ _) (pI_7_4 _ _ _ _) rfl inX2 tyX2_ok nmX2 fl_X2_25 (by decide) (Nat.le_of_ble_eq_true rfl) rfl (by decide +kernel) dX2_put_58 ?_
    exact g_vret_w hr hf dX2_put_61
  · have hf := ite_f hc hf
    exact g_vret_w hr hf dX2_put_9
-- X7_note
def f_X7_note (x1 : Int32) (x2 : Int32) (x3 : Int32) (M : Mem) : Option (Int32 × Mem) :=
  if (f_X7_isBridge M x1) = 0 then ((f_X7_refuseBad (-2 : Int32) M).bind fun r1 =>
  some (r1.1, r1.2))
  else (if (f_X7_isRow x2) = 0 then ((f_X7_refuseBad (-2 : Int32) M).bind fun r2 =>
  some (r2.1, r2.2))
  else (if (f_X7_isRow x3) = 0 then ((f_X7_refuseBad (-2 : Int32) M).bind fun r5 =>
  some (r5.1, r5.2))
  else (if (M.1 7 4) < (8 : Int32) then (ck x2 4 <|
  ck x3 4 <|
  (f_X2_put_7 x1 (M.1 1 7) (M.2 6 x2.toNatClampNeg) (M.2 6 x3.toNatClampNeg) M).bind fun r3 =>
  some ((r3.1 7 4), r3))
  else ((f_X7_refuseFull M).bind fun r4 =>
  some (r4.1, r4.2)))))
set_option maxHeartbeats 4000000 in
set_option maxRecDepth 100000 in
theorem c_X7_note {l : Launch} {x1 : Int32} {x2 : Int32} {x3 : Int32} {M : Mem} {r : Int32} {M1 : Mem} (hf : f_X7_note x1 x2 x3 M = some (r, M1)) : Cn l yX7_note cX7_note 4 (some .int) 2 42 (fun E => [.ref (E.1 0), .int x1, .int x2, .int x3]) M (some (.int r), M1) := by
  unfold f_X7_note at hf
  refine cn_of RX7 (fun E => [some (.ref (E.1 0)), some (.int x1), some (.int x2), some (.int x3)]) (by decide +kernel) rfl (fun E => Nat.le_of_ble_eq_true rfl) (fun E => rfl) (fun X hr => ?_)
  refine g_aload_n dX7_note_0 rfl ?_
  refine g_iload_n dX7_note_1 rfl ?_
  refine g_cV_I_I (c_X7_isBridge rfl) cv_X7_83 (by decide) (cel_0 _ _ _) rfl ⟨by decide, by decide⟩ (Nat.le_of_ble_eq_true rfl) dX7_note_2 ?_
  refine g_if_eq (tgt := 22) dX7_note_5 (by decide) (fun hc => ?_) (fun hc => ?_)
  · have hf := ite_t hc hf
    refine g_aload_n dX7_note_22 rfl ?_
    refine g_bipush (v := (-2)) dX7_note_23 (by decide) ?_
    obtain ⟨r1, hq, hf⟩ := bnd hf
    refine g_cV_I_I (c_X7_refuseBad (r := r1.1) (M1 := r1.2) hq) cv_X7_60 (by decide) (cel_0 _ _ _) rfl ⟨by decide, by decide⟩ (Nat.le_of_ble_eq_true rfl) dX7_note_25 ?_
    exact g_iret_w hr hf dX7_note_28
  · have hf := ite_f hc hf
    refine g_iload_n dX7_note_8 rfl ?_
    refine g_cS_I_I (c_X7_isRow rfl) cs_X7_106 ⟨by decide, by decide⟩ (Nat.le_of_ble_eq_true rfl) dX7_note_9 ?_
    refine g_if_eq (tgt := 22) dX7_note_12 (by decide) (fun hc => ?_) (fun hc => ?_)
    · have hf := ite_t hc hf
      refine g_aload_n dX7_note_22 rfl ?_
      refine g_bipush (v := (-2)) dX7_note_23 (by decide) ?_
      obtain ⟨r2, hq, hf⟩ := bnd hf
      refine g_cV_I_I (c_X7_refuseBad (r := r2.1) (M1 := r2.2) hq) cv_X7_60 (by decide) (cel_0 _ _ _) rfl ⟨by decide, by decide⟩ (Nat.le_of_ble_eq_true rfl) dX7_note_25 ?_
      exact g_iret_w hr hf dX7_note_28
    · have hf := ite_f hc hf
      refine g_iload_n dX7_note_15 rfl ?_
      refine g_cS_I_I (c_X7_isRow rfl) cs_X7_106 ⟨by decide, by decide⟩ (Nat.le_of_ble_eq_true rfl) dX7_note_16 ?_
      refine g_if_ne (tgt := 29) dX7_note_19 (by decide) (fun hc => ?_) (fun hc => ?_)
      · have hf := ite_f hc hf
        refine g_aload_n dX7_note_29 rfl ?_
        refine g_get (kk := 0) (by decide) (cel_0 _ _ _) rfl inX7 fl_X7_10 (by decide) rfl dX7_note_30 ?_
        refine g_get (kk := 1) (by decide) (cel_1 _ _ _) rfl inX4 fl_X7_192 (by decide) rfl dX7_note_33 ?_
        refine g_get (kk := 7) (by decide) (cel_7 _ _ _) rfl inX2 fl_X7_196 (by decide) rfl dX7_note_36 ?_
        refine g_bipush (v := 8) dX7_note_39 (by decide) ?_
        refine g_icmp_lt (tgt := 49) dX7_note_41 (by decide) (fun hc => ?_) (fun hc => ?_)
        · have hf := ite_t hc hf
          refine g_aload_n dX7_note_49 rfl ?_
          refine g_get (kk := 0) (by decide) (cel_0 _ _ _) rfl inX7 fl_X7_10 (by decide) rfl dX7_note_50 ?_
          refine g_get (kk := 1) (by decide) (cel_1 _ _ _) rfl inX4 fl_X7_192 (by decide) rfl dX7_note_53 ?_
          refine g_iload_n dX7_note_56 rfl ?_
          refine g_aload_n dX7_note_57 rfl ?_
          refine g_get (kk := 0) (by decide) (cel_0 _ _ _) rfl inX7 fl_X7_10 (by decide) rfl dX7_note_58 ?_
          refine g_get (kk := 1) (by decide) (cel_1 _ _ _) rfl inX4 fl_X7_94 (by decide) rfl dX7_note_61 ?_
          refine g_aload_n dX7_note_64 rfl ?_
          refine g_get (kk := 0) (by decide) (cel_0 _ _ _) rfl inX7 fl_X7_10 (by decide) rfl dX7_note_65 ?_
          refine g_get (kk := 1) (by decide) (cel_1 _ _ _) rfl inX4 fl_X7_109 (by decide) rfl dX7_note_68 ?_
          refine g_iload_n dX7_note_71 rfl ?_
          obtain ⟨hi, hf⟩ := ck_s hf
          refine g_laload (kk := 6) (by decide) (fun f g => cel_6 _ f g) hi rfl dX7_note_72 ?_
          refine g_aload_n dX7_note_73 rfl ?_
          refine g_get (kk := 0) (by decide) (cel_0 _ _ _) rfl inX7 fl_X7_10 (by decide) rfl dX7_note_74 ?_
          refine g_get (kk := 1) (by decide) (cel_1 _ _ _) rfl inX4 fl_X7_109 (by decide) rfl dX7_note_77 ?_
          refine g_iload_n dX7_note_80 rfl ?_
          obtain ⟨hi, hf⟩ := ck_s hf
          refine g_laload (kk := 6) (by decide) (fun f g => cel_6 _ f g) hi rfl dX7_note_81 ?_
          obtain ⟨r3, hq, hf⟩ := bnd hf
          refine g_cV_IIJJ_V (c_X2_put_7 hq) cv_X7_201 (by decide) (cel_7 _ _ _) rfl ⟨by decide, by decide⟩ (Nat.le_of_ble_eq_true rfl) dX7_note_82 ?_
          refine g_aload_n dX7_note_85 rfl ?_
          refine g_get (kk := 0) (by decide) (cel_0 _ _ _) rfl inX7 fl_X7_10 (by decide) rfl dX7_note_86 ?_
          refine g_get (kk := 1) (by decide) (cel_1 _ _ _) rfl inX4 fl_X7_192 (by decide) rfl dX7_note_89 ?_
          refine g_get (kk := 7) (by decide) (cel_7 _ _ _) rfl inX2 fl_X7_196 (by decide) rfl dX7_note_92 ?_
          exact g_iret_w hr hf dX7_note_95
        · have hf := ite_f hc hf
          refine g_aload_n dX7_note_44 rfl ?_
          obtain ⟨r4, hq, hf⟩ := bnd hf
          refine g_cV_0_I (c_X7_refuseFull (r := r4.1) (M1 := r4.2) hq) cv_X7_75 (by decide) (cel_0 _ _ _) rfl ⟨by decide, by decide⟩ (Nat.le_of_ble_eq_true rfl) dX7_note_45 ?_
          exact g_iret_w hr hf dX7_note_48
      · have hf := ite_t hc hf
        refine g_aload_n dX7_note_22 rfl ?_
        refine g_bipush (v := (-2)) dX7_note_23 (by decide) ?_
        obtain ⟨r5, hq, hf⟩ := bnd hf
        refine g_cV_I_I (c_X7_refuseBad (r := r5.1) (M1 := r5.2) hq) cv_X7_60 (by decide) (cel_0 _ _ _) rfl ⟨by decide, by decide⟩ (Nat.le_of_ble_eq_true rfl) dX7_note_25 ?_
        exact g_iret_w hr hf dX7_note_28
-- X7_forget
def f_X7_forget  (M : Mem) : Option (Int32 × Mem) :=
  let M1 := mI M 7 4 (0 : Int32)
  some ((M.1 7 4), M1)
set_option maxHeartbeats 4000000 in
set_option maxRecDepth 100000 in
theorem c_X7_forget {l : Launch}  {M : Mem} {r : Int32} {M1 : Mem} (hf : f_X7_forget M = some (r, M1)) : Cn l yX7_forget cX7_forget 2 (some .int) 0 0 (fun E => [.ref (E.1 0)]) M (some (.int r), M1) := by
  unfold f_X7_forget at hf
  refine cn_of RX7 (fun E => [some (.ref (E.1 0)), none]) (by decide +kernel) rfl (fun E => Nat.le_of_ble_eq_true rfl) (fun E => rfl) (fun X hr => ?_)
  refine g_aload_n dX7_forget_0 rfl ?_
  refine g_get (kk := 0) (by decide) (cel_0 _ _ _) rfl inX7 fl_X7_10 (by decide) rfl dX7_forget_1 ?_
  refine g_get (kk := 1) (by decide) (cel_1 _ _ _) rfl inX4 fl_X7_192 (by decide) rfl dX7_forget_4 ?_
  refine g_get (kk := 7) (by decide) (cel_7 _ _ _) rfl inX2 fl_X7_196 (by decide) rfl dX7_forget_7 ?_
  refine g_ist1 dX7_forget_10 (by decide) lnl_r ?_
  refine g_aload_n dX7_forget_11 rfl ?_
  refine g_get (kk := 0) (by decide) (cel_0 _ _ _) rfl inX7 fl_X7_10 (by decide) rfl dX7_forget_12 ?_
  refine g_get (kk := 1) (by decide) (cel_1 _ _ _) rfl inX4 fl_X7_192 (by decide) rfl dX7_forget_15 ?_
  refine g_iconst (v := 0) dX7_forget_18 (by decide) ?_
  refine g_putI (kk := 7) (by decide) (cel_7 _ _ _) (pI_7_4 _ _ _ _) rfl inX2 tyX2_ok nmX2 fl_X7_196 (by decide) (Nat.le_of_ble_eq_true rfl) rfl (by decide +kernel) dX7_forget_19 ?_
  refine g_iload_n dX7_forget_22 rfl ?_
  exact g_iret_w hr hf dX7_forget_23
-- X5_appliedPair
def f_X5_appliedPair (x0 : Int64) (x2 : Int32) (x3 : Int32) : Option Int64 :=
  (f_X5_applied x0 (x2 / (16 : Int32)) (x2 - x2 / (16 : Int32) * (16 : Int32)) x3).bind fun r1 =>
  some r1
set_option maxHeartbeats 4000000 in
set_option maxRecDepth 100000 in
theorem c_X5_appliedPair {l : Launch} {x0 : Int64} {x2 : Int32} {x3 : Int32} {M : Mem} {r : Int64} (hf : f_X5_appliedPair x0 x2 x3 = some r) : Cn l yX5_appliedPair cX5_appliedPair 4 (some .long) 4 98 (fun E => [.long x0, .int x2, .int x3]) M (some (.long r), M) := by
  unfold f_X5_appliedPair at hf
  refine cn_of RX5 (fun E => [some (.long x0), none, some (.int x2), some (.int x3)]) (by decide +kernel) rfl (fun E => Nat.le_of_ble_eq_true rfl) (fun E => rfl) (fun X hr => ?_)
  refine g_lload_n dX5_appliedPair_0 rfl ?_
  refine g_iload_n dX5_appliedPair_1 rfl ?_
  refine g_bipush (v := 16) dX5_appliedPair_2 (by decide) ?_
  refine g_idiv dX5_appliedPair_4 (by decide) ?_
  refine g_iload_n dX5_appliedPair_5 rfl ?_
  refine g_bipush (v := 16) dX5_appliedPair_6 (by decide) ?_
  refine g_irem dX5_appliedPair_8 (by decide) ?_
  refine g_iload_n dX5_appliedPair_9 rfl ?_
  obtain ⟨r1, hq, hf⟩ := bnd hf
  refine g_cS_JIII_J (c_X5_applied hq) cs_X5_32 ⟨by decide, by decide⟩ (Nat.le_of_ble_eq_true rfl) dX5_appliedPair_10 ?_
  exact g_lret_p hr hf dX5_appliedPair_13
-- X2_agreeWith_7
def b_X2_agreeWith_7_48 (k2 : Int32 → Option Int32) (M : Mem) (x1 : Int32) (x2 : Int32) (x3 : Int32) : Option Int32 :=
  k2 (x3 + (1 : Int32))
set_option maxHeartbeats 4000000 in
set_option maxRecDepth 100000 in
theorem w_X2_agreeWith_7_48 {X : Cx} {r : Int32} {M : Mem} {k2 : Int32 → Option Int32} {x1 : Int32} {x2 : Int32}   {x3 : Int32} (hr : X.meth.sig.returnType = (some .boolean)) (hk2 : ∀ {x3_ : Int32}, k2 x3_ = some r → G X (some (.int r), M) RX2 cX2_agreeWith 4 5 121 2 [some (.ref (X.1.1 7)), some (.int x1), some (.int x2), some (.int x3_)] [] M) (hf : b_X2_agreeWith_7_48 k2 M x1 x2 x3 = some r) : G X (some (.int r), M) RX2 cX2_agreeWith 4 5 121 48 [some (.ref (X.1.1 7)), some (.int x1), some (.int x2), some (.int x3)] [] M := by
  unfold b_X2_agreeWith_7_48 at hf
  refine g_iinc3 (v := (x3 + (1 : Int32))) dX2_agreeWith_48 (by decide) lnl_i rfl ?_
  refine g_goto (tgt := 2) dX2_agreeWith_51 (by decide) ?_
  exact hk2 hf
def b_X2_agreeWith_7_2  (M : Mem) (x1 : Int32) (x2 : Int32) : Nat → Int32 → Option Int32
  | 0, _ => none
  | n + 1, x3 =>
    if (M.1 7 4) ≤ x3 then (some (1 : Int32))
    else (ck x3 8 <|
    if (M.1 8 x3.toNatClampNeg) = x1 then (ck x3 8 <|
    ck x3 8 <|
    (f_X5_appliedPair (M.2 10 x3.toNatClampNeg) x2 (M.1 9 x3.toNatClampNeg)).bind fun r1 =>
    ck x3 8 <|
    if (lg_cmp r1 (M.2 11 x3.toNatClampNeg)) = 0 then (b_X2_agreeWith_7_48 (fun x3_ => b_X2_agreeWith_7_2 M x1 x2 n x3_) M x1 x2 x3)
    else (some (0 : Int32)))
    else (b_X2_agreeWith_7_48 (fun x3_ => b_X2_agreeWith_7_2 M x1 x2 n x3_) M x1 x2 x3))
set_option maxHeartbeats 4000000 in
set_option maxRecDepth 100000 in
theorem w_X2_agreeWith_7_2 {X : Cx} {r : Int32} {M : Mem}  {x1 : Int32} {x2 : Int32}   (hr : X.meth.sig.returnType = (some .boolean)) : ∀ (n : Nat) {x3 : Int32}, b_X2_agreeWith_7_2 M x1 x2 n x3 = some r → G X (some (.int r), M) RX2 cX2_agreeWith 4 5 121 2 [some (.ref (X.1.1 7)), some (.int x1), some (.int x2), some (.int x3)] [] M := by
  intro n
  induction n with
  | zero => intro x3 hf; cases hf
  | succ n ih =>
    intro x3 hf
    rw [b_X2_agreeWith_7_2.eq_2] at hf
    refine g_iload_n dX2_agreeWith_2 rfl ?_
    refine g_aload_n dX2_agreeWith_3 rfl ?_
    refine g_get (kk := 7) (by decide) (cel_7 _ _ _) rfl inX2 fl_X2_25 (by decide) rfl dX2_agreeWith_4 ?_
    refine g_icmp_ge (tgt := 54) dX2_agreeWith_7 (by decide) (fun hc => ?_) (fun hc => ?_)
    · have hf := ite_t hc hf
      refine g_iconst (v := 1) dX2_agreeWith_54 (by decide) ?_
      exact g_zret_p hr (Or.inr rfl) hf dX2_agreeWith_55
    · have hf := ite_f hc hf
      refine g_aload_n dX2_agreeWith_10 rfl ?_
      refine g_get (kk := 7) (by decide) (cel_7 _ _ _) rfl inX2 fl_X2_9 (by decide) rfl dX2_agreeWith_11 ?_
      refine g_iload_n dX2_agreeWith_14 rfl ?_
      obtain ⟨hi, hf⟩ := ck_s hf
      refine g_iaload (kk := 8) (by decide) (fun f g => cel_8 _ f g) hi rfl dX2_agreeWith_15 ?_
      refine g_iload_n dX2_agreeWith_16 rfl ?_
      refine g_icmp_ne (tgt := 48) dX2_agreeWith_17 (by decide) (fun hc => ?_) (fun hc => ?_)
      · have hf := ite_f hc hf
        exact w_X2_agreeWith_7_48 hr (fun hf => ih hf) hf
      · have hf := ite_t hc hf
        refine g_aload_n dX2_agreeWith_20 rfl ?_
        refine g_get (kk := 7) (by decide) (cel_7 _ _ _) rfl inX2 fl_X2_18 (by decide) rfl dX2_agreeWith_21 ?_
        refine g_iload_n dX2_agreeWith_24 rfl ?_
        obtain ⟨hi, hf⟩ := ck_s hf
        refine g_laload (kk := 10) (by decide) (fun f g => cel_10 _ f g) hi rfl dX2_agreeWith_25 ?_
        refine g_iload_n dX2_agreeWith_26 rfl ?_
        refine g_aload_n dX2_agreeWith_27 rfl ?_
        refine g_get (kk := 7) (by decide) (cel_7 _ _ _) rfl inX2 fl_X2_15 (by decide) rfl dX2_agreeWith_28 ?_
        refine g_iload_n dX2_agreeWith_31 rfl ?_
        obtain ⟨hi, hf⟩ := ck_s hf
        refine g_iaload (kk := 9) (by decide) (fun f g => cel_9 _ f g) hi rfl dX2_agreeWith_32 ?_
        obtain ⟨r1, hq, hf⟩ := bnd hf
        refine g_cS_JII_J (c_X5_appliedPair hq) cs_X2_35 ⟨by decide, by decide⟩ (Nat.le_of_ble_eq_true rfl) dX2_agreeWith_33 ?_
        refine g_aload_n dX2_agreeWith_36 rfl ?_
        refine g_get (kk := 7) (by decide) (cel_7 _ _ _) rfl inX2 fl_X2_22 (by decide) rfl dX2_agreeWith_37 ?_
        refine g_iload_n dX2_agreeWith_40 rfl ?_
        obtain ⟨hi, hf⟩ := ck_s hf
        refine g_laload (kk := 11) (by decide) (fun f g => cel_11 _ f g) hi rfl dX2_agreeWith_41 ?_
        refine g_lcmp dX2_agreeWith_42 ?_
        refine g_if_eq (tgt := 48) dX2_agreeWith_43 (by decide) (fun hc => ?_) (fun hc => ?_)
        · have hf := ite_t hc hf
          exact w_X2_agreeWith_7_48 hr (fun hf => ih hf) hf
        · have hf := ite_f hc hf
          refine g_iconst (v := 0) dX2_agreeWith_46 (by decide) ?_
          exact g_zret_p hr (Or.inl rfl) hf dX2_agreeWith_47
def f_X2_agreeWith_7 (M : Mem) (x1 : Int32) (x2 : Int32) : Option Int32 :=
  b_X2_agreeWith_7_2 M x1 x2 fu (0 : Int32)
set_option maxHeartbeats 4000000 in
set_option maxRecDepth 100000 in
theorem c_X2_agreeWith_7 {l : Launch} {x1 : Int32} {x2 : Int32} {M : Mem} {r : Int32} (hf : f_X2_agreeWith_7 M x1 x2 = some r) : Cn l yX2_agreeWith cX2_agreeWith 4 (some .boolean) 5 121 (fun E => [.ref (E.1 7), .int x1, .int x2]) M (some (.int r), M) := by
  unfold f_X2_agreeWith_7 at hf
  refine cn_of RX2 (fun E => [some (.ref (E.1 7)), some (.int x1), some (.int x2), none]) (by decide +kernel) rfl (fun E => Nat.le_of_ble_eq_true rfl) (fun E => rfl) (fun X hr => ?_)
  refine g_iconst (v := 0) dX2_agreeWith_0 (by decide) ?_
  refine g_ist3 dX2_agreeWith_1 (by decide) lnl_i ?_
  exact w_X2_agreeWith_7_2 hr fu hf
-- X7_collectFitting
def b_X7_collectFitting_35 (k4 : Int32 → Int32 → Mem → Option (Int32 × Mem))  (x1 : Int32) (x2 : Int32) (x3 : Int32) (M : Mem) : Option (Int32 × Mem) :=
  k4 x2 (x3 + (1 : Int32)) M
set_option maxHeartbeats 4000000 in
set_option maxRecDepth 100000 in
theorem w_X7_collectFitting_35 {X : Cx} {r : Int32} {M1 : Mem}  {k4 : Int32 → Int32 → Mem → Option (Int32 × Mem)} {x1 : Int32}   {x2 : Int32} {x3 : Int32} {M : Mem} (hr : X.meth.sig.returnType = (some .int)) (hk4 : ∀ {x2_ : Int32} {x3_ : Int32} {M_ : Mem}, k4 x2_ x3_ M_ = some (r, M1) → G X (some (.int r), M1) RX7 cX7_collectFitting 4 6 144 4 [some (.ref (X.1.1 0)), some (.int x1), some (.int x2_), some (.int x3_)] [] M_) (hf : b_X7_collectFitting_35 k4 x1 x2 x3 M = some (r, M1)) : G X (some (.int r), M1) RX7 cX7_collectFitting 4 6 144 35 [some (.ref (X.1.1 0)), some (.int x1), some (.int x2), some (.int x3)] [] M := by
  unfold b_X7_collectFitting_35 at hf
  refine g_iinc3 (v := (x3 + (1 : Int32))) dX7_collectFitting_35 (by decide) lnl_i rfl ?_
  refine g_goto (tgt := 4) dX7_collectFitting_38 (by decide) ?_
  exact hk4 hf
def b_X7_collectFitting_4   (x1 : Int32) : Nat → Int32 → Int32 → Mem → Option (Int32 × Mem)
  | 0, _, _, _ => none
  | n + 1, x2, x3, M =>
    if (96 : Int32) ≤ x3 then (some (x2, M))
    else ((f_X2_agreeWith_7 M x1 x3).bind fun r1 =>
    if r1 = 0 then (b_X7_collectFitting_35 (fun x2_ x3_ M_ => b_X7_collectFitting_4 x1 n x2_ x3_ M_) x1 x2 x3 M)
    else (ck x2 96 <|
    let M2 := mI M 61 (x2.toNatClampNeg) x3
    b_X7_collectFitting_35 (fun x2_ x3_ M_ => b_X7_collectFitting_4 x1 n x2_ x3_ M_) x1 (x2 + (1 : Int32)) x3 M2))
set_option maxHeartbeats 4000000 in
set_option maxRecDepth 100000 in
theorem w_X7_collectFitting_4 {X : Cx} {r : Int32} {M1 : Mem}   {x1 : Int32}   (hr : X.meth.sig.returnType = (some .int)) : ∀ (n : Nat) {x2 : Int32} {x3 : Int32} {M : Mem}, b_X7_collectFitting_4 x1 n x2 x3 M = some (r, M1) → G X (some (.int r), M1) RX7 cX7_collectFitting 4 6 144 4 [some (.ref (X.1.1 0)), some (.int x1), some (.int x2), some (.int x3)] [] M := by
  intro n
  induction n with
  | zero => intro x2 x3 M hf; cases hf
  | succ n ih =>
    intro x2 x3 M hf
    rw [b_X7_collectFitting_4.eq_2] at hf
    refine g_iload_n dX7_collectFitting_4 rfl ?_
    refine g_bipush (v := 96) dX7_collectFitting_5 (by decide) ?_
    refine g_icmp_ge (tgt := 41) dX7_collectFitting_7 (by decide) (fun hc => ?_) (fun hc => ?_)
    · have hf := ite_t hc hf
      refine g_iload_n dX7_collectFitting_41 rfl ?_
      exact g_iret_w hr hf dX7_collectFitting_42
    · have hf := ite_f hc hf
      refine g_aload_n dX7_collectFitting_10 rfl ?_
      refine g_get (kk := 0) (by decide) (cel_0 _ _ _) rfl inX7 fl_X7_10 (by decide) rfl dX7_collectFitting_11 ?_
      refine g_get (kk := 1) (by decide) (cel_1 _ _ _) rfl inX4 fl_X7_192 (by decide) rfl dX7_collectFitting_14 ?_
      refine g_iload_n dX7_collectFitting_17 rfl ?_
      refine g_iload_n dX7_collectFitting_18 rfl ?_
      obtain ⟨r1, hq, hf⟩ := bnd hf
      refine g_cV_II_I (c_X2_agreeWith_7 hq) cv_X7_283 (by decide) (cel_7 _ _ _) rfl ⟨by decide, by decide⟩ (Nat.le_of_ble_eq_true rfl) dX7_collectFitting_19 ?_
      refine g_if_eq (tgt := 35) dX7_collectFitting_22 (by decide) (fun hc => ?_) (fun hc => ?_)
      · have hf := ite_t hc hf
        exact w_X7_collectFitting_35 hr (fun hf => ih hf) hf
      · have hf := ite_f hc hf
        refine g_aload_n dX7_collectFitting_25 rfl ?_
        refine g_get (kk := 0) (by decide) (cel_0 _ _ _) rfl inX7 fl_X7_48 (by decide) rfl dX7_collectFitting_26 ?_
        refine g_iload_n dX7_collectFitting_29 rfl ?_
        refine g_iload_n dX7_collectFitting_30 rfl ?_
        obtain ⟨hi, hf⟩ := ck_s hf
        refine g_iastore (kk := 61) (by decide) (fun f g => cel_61 _ f g) hi rfl dX7_collectFitting_31 ?_
        refine g_iinc2 (v := (x2 + (1 : Int32))) dX7_collectFitting_32 (by decide) lnl_i rfl ?_
        exact w_X7_collectFitting_35 hr (fun hf => ih hf) hf
def f_X7_collectFitting (x1 : Int32) (M : Mem) : Option (Int32 × Mem) :=
  b_X7_collectFitting_4 x1 fu (0 : Int32) (0 : Int32) M
set_option maxHeartbeats 4000000 in
set_option maxRecDepth 100000 in
theorem c_X7_collectFitting {l : Launch} {x1 : Int32} {M : Mem} {r : Int32} {M1 : Mem} (hf : f_X7_collectFitting x1 M = some (r, M1)) : Cn l yX7_collectFitting cX7_collectFitting 4 (some .int) 6 144 (fun E => [.ref (E.1 0), .int x1]) M (some (.int r), M1) := by
  unfold f_X7_collectFitting at hf
  refine cn_of RX7 (fun E => [some (.ref (E.1 0)), some (.int x1), none, none]) (by decide +kernel) rfl (fun E => Nat.le_of_ble_eq_true rfl) (fun E => rfl) (fun X hr => ?_)
  refine g_iconst (v := 0) dX7_collectFitting_0 (by decide) ?_
  refine g_ist2 dX7_collectFitting_1 (by decide) lnl_i ?_
  refine g_iconst (v := 0) dX7_collectFitting_2 (by decide) ?_
  refine g_ist3 dX7_collectFitting_3 (by decide) lnl_i ?_
  exact w_X7_collectFitting_4 hr fu hf
-- X7_fits
def f_X7_fits (x1 : Int32) (x2 : Int32) (M : Mem) : Option (Int32 × Mem) :=
  if (f_X7_isBridge M x1) = 0 then ((f_X7_refuseBad (-10 : Int32) M).bind fun r1 =>
  some (r1.1, r1.2))
  else (if (f_X7_isBelow x2 (2 : Int32)) = 0 then ((f_X7_refuseBad (-10 : Int32) M).bind fun r3 =>
  some (r3.1, r3.2))
  else ((f_X7_collectFitting x1 M).bind fun r2 =>
  if x2 = 0 then (some (r2.1, r2.2))
  else (if r2.1 = 0 then (some ((-1 : Int32), r2.2))
  else (some ((r2.2.1 61 0), r2.2)))))
set_option maxHeartbeats 4000000 in
set_option maxRecDepth 100000 in
theorem c_X7_fits {l : Launch} {x1 : Int32} {x2 : Int32} {M : Mem} {r : Int32} {M1 : Mem} (hf : f_X7_fits x1 x2 M = some (r, M1)) : Cn l yX7_fits cX7_fits 4 (some .int) 7 167 (fun E => [.ref (E.1 0), .int x1, .int x2]) M (some (.int r), M1) := by
  unfold f_X7_fits at hf
  refine cn_of RX7 (fun E => [some (.ref (E.1 0)), some (.int x1), some (.int x2), none]) (by decide +kernel) rfl (fun E => Nat.le_of_ble_eq_true rfl) (fun E => rfl) (fun X hr => ?_)
  refine g_aload_n dX7_fits_0 rfl ?_
  refine g_iload_n dX7_fits_1 rfl ?_
  refine g_cV_I_I (c_X7_isBridge rfl) cv_X7_83 (by decide) (cel_0 _ _ _) rfl ⟨by decide, by decide⟩ (Nat.le_of_ble_eq_true rfl) dX7_fits_2 ?_
  refine g_if_eq (tgt := 16) dX7_fits_5 (by decide) (fun hc => ?_) (fun hc => ?_)
  · have hf := ite_t hc hf
    refine g_aload_n dX7_fits_16 rfl ?_
    refine g_bipush (v := (-10)) dX7_fits_17 (by decide) ?_
    obtain ⟨r1, hq, hf⟩ := bnd hf
    refine g_cV_I_I (c_X7_refuseBad (r := r1.1) (M1 := r1.2) hq) cv_X7_60 (by decide) (cel_0 _ _ _) rfl ⟨by decide, by decide⟩ (Nat.le_of_ble_eq_true rfl) dX7_fits_19 ?_
    exact g_iret_w hr hf dX7_fits_22
  · have hf := ite_f hc hf
    refine g_iload_n dX7_fits_8 rfl ?_
    refine g_iconst (v := 2) dX7_fits_9 (by decide) ?_
    refine g_cS_II_I (c_X7_isBelow rfl) cs_X7_56 ⟨by decide, by decide⟩ (Nat.le_of_ble_eq_true rfl) dX7_fits_10 ?_
    refine g_if_ne (tgt := 23) dX7_fits_13 (by decide) (fun hc => ?_) (fun hc => ?_)
    · have hf := ite_f hc hf
      refine g_aload_n dX7_fits_23 rfl ?_
      refine g_iload_n dX7_fits_24 rfl ?_
      obtain ⟨r2, hq, hf⟩ := bnd hf
      refine g_cV_I_I (c_X7_collectFitting (r := r2.1) (M1 := r2.2) hq) cv_X7_204 (by decide) (cel_0 _ _ _) rfl ⟨by decide, by decide⟩ (Nat.le_of_ble_eq_true rfl) dX7_fits_25 ?_
      refine g_ist3 dX7_fits_28 (by decide) lnl_i ?_
      refine g_iload_n dX7_fits_29 rfl ?_
      refine g_if_ne (tgt := 35) dX7_fits_30 (by decide) (fun hc => ?_) (fun hc => ?_)
      · have hf := ite_f hc hf
        refine g_iload_n dX7_fits_35 rfl ?_
        refine g_if_ne (tgt := 43) dX7_fits_36 (by decide) (fun hc => ?_) (fun hc => ?_)
        · have hf := ite_f hc hf
          refine g_aload_n dX7_fits_43 rfl ?_
          refine g_get (kk := 0) (by decide) (cel_0 _ _ _) rfl inX7 fl_X7_48 (by decide) rfl dX7_fits_44 ?_
          refine g_iconst (v := 0) dX7_fits_47 (by decide) ?_
          refine g_iaload (kk := 61) (by decide) (fun f g => cel_61 _ f g) (vp_in_iff.mpr ⟨by decide, by decide⟩) (j := 0) (by decide) dX7_fits_48 ?_
          exact g_iret_w hr hf dX7_fits_49
        · have hf := ite_t hc hf
          refine g_iconst (v := (-1)) dX7_fits_39 (by decide) ?_
          refine g_goto (tgt := 49) dX7_fits_40 (by decide) ?_
          exact g_iret_w hr hf dX7_fits_49
      · have hf := ite_t hc hf
        refine g_iload_n dX7_fits_33 rfl ?_
        exact g_iret_w hr hf dX7_fits_34
    · have hf := ite_t hc hf
      refine g_aload_n dX7_fits_16 rfl ?_
      refine g_bipush (v := (-10)) dX7_fits_17 (by decide) ?_
      obtain ⟨r3, hq, hf⟩ := bnd hf
      refine g_cV_I_I (c_X7_refuseBad (r := r3.1) (M1 := r3.2) hq) cv_X7_60 (by decide) (cel_0 _ _ _) rfl ⟨by decide, by decide⟩ (Nat.le_of_ble_eq_true rfl) dX7_fits_19 ?_
      exact g_iret_w hr hf dX7_fits_22
-- X7_mostAlike
def b_X7_mostAlike_84 (k6 : Int32 → Int32 → Mem → Option (Int32 × Mem))  (x1 : Int64) (x3 : Int32) (x4 : Int32) (x5 : Int32) (x6 : Int32) (M : Mem) : Option (Int32 × Mem) :=
  k6 (if x4 < x6 then x6 else x4) (x5 + (1 : Int32)) M
set_option maxHeartbeats 4000000 in
set_option maxRecDepth 100000 in
theorem w_X7_mostAlike_84 {X : Cx} {r : Int32} {M1 : Mem}  {k6 : Int32 → Int32 → Mem → Option (Int32 × Mem)} {x1 : Int64} {x3 : Int32}   {x4 : Int32} {x5 : Int32} {x6 : Int32} {M : Mem} (hr : X.meth.sig.returnType = (some .int)) (hk6 : ∀ {x4_ : Int32} {x5_ : Int32} {M_ : Mem}, k6 x4_ x5_ M_ = some (r, M1) → G X (some (.int r), M1) RX7 cX7_mostAlike 8 5 121 6 [some (.ref (X.1.1 0)), some (.long x1), none, some (.int x3), some (.int x4_), some (.int x5_), none, none] [] M_) (hf : b_X7_mostAlike_84 k6 x1 x3 x4 x5 x6 M = some (r, M1)) : G X (some (.int r), M1) RX7 cX7_mostAlike 8 5 121 84 [some (.ref (X.1.1 0)), some (.long x1), none, some (.int x3), some (.int x4), some (.int x5), some (.int x6), none] [] M := by
  unfold b_X7_mostAlike_84 at hf
  refine g_iload dX7_mostAlike_84 rfl ?_
  refine g_iload dX7_mostAlike_86 rfl ?_
  refine g_max mx_X7_290 mx_st mx_in mx_co (by decide) (Nat.le_of_ble_eq_true rfl) dX7_mostAlike_88 ?_
  refine g_ist4 dX7_mostAlike_91 (by decide) lnl_i ?_
  refine g_iinc5 (v := (x5 + (1 : Int32))) dX7_mostAlike_93 (by decide) lnl_i rfl ?_
  refine g_goto (tgt := 6) dX7_mostAlike_96 (by decide) ?_
  exact g_weakr (hk6 hf) (lsk (lsk (lsd (lsk (lsk (lsk (lsd (lsd lsz))))))))
def b_X7_mostAlike_75 (k43 : Int32 → Int32 → Mem → Option (Int32 × Mem))  (x1 : Int64) (x3 : Int32) (x4 : Int32) (x5 : Int32) (x7 : Int32) (t0 : Int32) (t1 : Int32) (M : Mem) : Option (Int32 × Mem) :=
  k43 (t1 + t0) (x7 + (1 : Int32)) M
set_option maxHeartbeats 4000000 in
set_option maxRecDepth 100000 in
theorem w_X7_mostAlike_75 {X : Cx} {r : Int32} {M1 : Mem}  {k43 : Int32 → Int32 → Mem → Option (Int32 × Mem)} {x1 : Int64} {x3 : Int32} {x4 : Int32} {x5 : Int32}   {x7 : Int32} {t0 : Int32} {t1 : Int32} {M : Mem} (hr : X.meth.sig.returnType = (some .int)) (hk43 : ∀ {x6_ : Int32} {x7_ : Int32} {M_ : Mem}, k43 x6_ x7_ M_ = some (r, M1) → G X (some (.int r), M1) RX7 cX7_mostAlike 8 5 121 43 [some (.ref (X.1.1 0)), some (.long x1), none, some (.int x3), some (.int x4), some (.int x5), some (.int x6_), some (.int x7_)] [] M_) (hf : b_X7_mostAlike_75 k43 x1 x3 x4 x5 x7 t0 t1 M = some (r, M1)) : G X (some (.int r), M1) RX7 cX7_mostAlike 8 5 121 75 [some (.ref (X.1.1 0)), some (.long x1), none, some (.int x3), some (.int x4), some (.int x5), none, some (.int x7)] [.int t0, .int t1] M := by
  unfold b_X7_mostAlike_75 at hf
  refine g_iadd dX7_mostAlike_75 ?_
  refine g_ist6 dX7_mostAlike_76 (by decide) lnl_i ?_
  refine g_iinc7 (v := (x7 + (1 : Int32))) dX7_mostAlike_78 (by decide) lnl_i rfl ?_
  refine g_goto (tgt := 43) dX7_mostAlike_81 (by decide) ?_
  exact hk43 hf
def b_X7_mostAlike_43 (k6 : Int32 → Int32 → Mem → Option (Int32 × Mem))  (x1 : Int64) (x3 : Int32) (x4 : Int32) (x5 : Int32) : Nat → Int32 → Int32 → Mem → Option (Int32 × Mem)
  | 0, _, _, _ => none
  | n + 1, x6, x7, M =>
    if x5 < x7 then (b_X7_mostAlike_84 k6 x1 x3 x4 x5 x6 M)
    else (ck x7 96 <|
    ck x5 96 <|
    if (lg_cmp (M.2 62 x7.toNatClampNeg) (M.2 62 x5.toNatClampNeg)) = 0 then (b_X7_mostAlike_75 (fun x6_ x7_ M_ => b_X7_mostAlike_43 k6 x1 x3 x4 x5 n x6_ x7_ M_) x1 x3 x4 x5 x7 (1 : Int32) x6 M)
    else (b_X7_mostAlike_75 (fun x6_ x7_ M_ => b_X7_mostAlike_43 k6 x1 x3 x4 x5 n x6_ x7_ M_) x1 x3 x4 x5 x7 (0 : Int32) x6 M))
set_option maxHeartbeats 4000000 in
set_option maxRecDepth 100000 in
theorem w_X7_mostAlike_43 {X : Cx} {r : Int32} {M1 : Mem}  {k6 : Int32 → Int32 → Mem → Option (Int32 × Mem)} {x1 : Int64} {x3 : Int32} {x4 : Int32} {x5 : Int32}   (hr : X.meth.sig.returnType = (some .int)) (hk6 : ∀ {x4_ : Int32} {x5_ : Int32} {M_ : Mem}, k6 x4_ x5_ M_ = some (r, M1) → G X (some (.int r), M1) RX7 cX7_mostAlike 8 5 121 6 [some (.ref (X.1.1 0)), some (.long x1), none, some (.int x3), some (.int x4_), some (.int x5_), none, none] [] M_) : ∀ (n : Nat) {x6 : Int32} {x7 : Int32} {M : Mem}, b_X7_mostAlike_43 k6 x1 x3 x4 x5 n x6 x7 M = some (r, M1) → G X (some (.int r), M1) RX7 cX7_mostAlike 8 5 121 43 [some (.ref (X.1.1 0)), some (.long x1), none, some (.int x3), some (.int x4), some (.int x5), some (.int x6), some (.int x7)] [] M := by
  intro n
  induction n with
  | zero => intro x6 x7 M hf; cases hf
  | succ n ih =>
    intro x6 x7 M hf
    rw [b_X7_mostAlike_43.eq_2] at hf
    refine g_iload dX7_mostAlike_43 rfl ?_
    refine g_iload dX7_mostAlike_45 rfl ?_
    refine g_icmp_gt (tgt := 84) dX7_mostAlike_47 (by decide) (fun hc => ?_) (fun hc => ?_)
    · have hf := ite_t hc hf
      exact g_weakr (w_X7_mostAlike_84 hr hk6 hf) (lsk (lsk (lsd (lsk (lsk (lsk (lsk (lsd lsz))))))))
    · have hf := ite_f hc hf
      refine g_iload dX7_mostAlike_50 rfl ?_
      refine g_aload_n dX7_mostAlike_52 rfl ?_
      refine g_get (kk := 0) (by decide) (cel_0 _ _ _) rfl inX7 fl_X7_52 (by decide) rfl dX7_mostAlike_53 ?_
      refine g_iload dX7_mostAlike_56 rfl ?_
      obtain ⟨hi, hf⟩ := ck_s hf
      refine g_laload (kk := 62) (by decide) (fun f g => cel_62 _ f g) hi rfl dX7_mostAlike_58 ?_
      refine g_aload_n dX7_mostAlike_59 rfl ?_
      refine g_get (kk := 0) (by decide) (cel_0 _ _ _) rfl inX7 fl_X7_52 (by decide) rfl dX7_mostAlike_60 ?_
      refine g_iload dX7_mostAlike_63 rfl ?_
      obtain ⟨hi, hf⟩ := ck_s hf
      refine g_laload (kk := 62) (by decide) (fun f g => cel_62 _ f g) hi rfl dX7_mostAlike_65 ?_
      refine g_lcmp dX7_mostAlike_66 ?_
      refine g_if_ne (tgt := 74) dX7_mostAlike_67 (by decide) (fun hc => ?_) (fun hc => ?_)
      · have hf := ite_f hc hf
        refine g_iconst (v := 0) dX7_mostAlike_74 (by decide) ?_
        exact g_weakr (w_X7_mostAlike_75 hr (fun hf => ih hf) hf) (lsk (lsk (lsd (lsk (lsk (lsk (lsd (lsk lsz))))))))
      · have hf := ite_t hc hf
        refine g_iconst (v := 1) dX7_mostAlike_70 (by decide) ?_
        refine g_goto (tgt := 75) dX7_mostAlike_71 (by decide) ?_
        exact g_weakr (w_X7_mostAlike_75 hr (fun hf => ih hf) hf) (lsk (lsk (lsd (lsk (lsk (lsk (lsd (lsk lsz))))))))
def b_X7_mostAlike_6   (x1 : Int64) (x3 : Int32) : Nat → Int32 → Int32 → Mem → Option (Int32 × Mem)
  | 0, _, _, _ => none
  | n + 1, x4, x5, M =>
    if x3 ≤ x5 then (some (x4, M))
    else (ck x5 96 <|
    (f_X5_appliedPair x1 (M.1 61 x5.toNatClampNeg) (M.1 1 7)).bind fun r1 =>
    ck x5 96 <|
    let M2 := mL M 62 (x5.toNatClampNeg) r1
    b_X7_mostAlike_43 (fun x4_ x5_ M_ => b_X7_mostAlike_6 x1 x3 n x4_ x5_ M_) x1 x3 x4 x5 fu (0 : Int32) (0 : Int32) M2)
set_option maxHeartbeats 4000000 in
set_option maxRecDepth 100000 in
theorem w_X7_mostAlike_6 {X : Cx} {r : Int32} {M1 : Mem}   {x1 : Int64} {x3 : Int32}   (hr : X.meth.sig.returnType = (some .int)) : ∀ (n : Nat) {x4 : Int32} {x5 : Int32} {M : Mem}, b_X7_mostAlike_6 x1 x3 n x4 x5 M = some (r, M1) → G X (some (.int r), M1) RX7 cX7_mostAlike 8 5 121 6 [some (.ref (X.1.1 0)), some (.long x1), none, some (.int x3), some (.int x4), some (.int x5), none, none] [] M := by
  intro n
  induction n with
  | zero => intro x4 x5 M hf; cases hf
  | succ n ih =>
    intro x4 x5 M hf
    rw [b_X7_mostAlike_6.eq_2] at hf
    refine g_iload dX7_mostAlike_6 rfl ?_
    refine g_iload_n dX7_mostAlike_8 rfl ?_
    refine g_icmp_ge (tgt := 99) dX7_mostAlike_9 (by decide) (fun hc => ?_) (fun hc => ?_)
    · have hf := ite_t hc hf
      refine g_iload dX7_mostAlike_99 rfl ?_
      exact g_iret_w hr hf dX7_mostAlike_101
    · have hf := ite_f hc hf
      refine g_aload_n dX7_mostAlike_12 rfl ?_
      refine g_get (kk := 0) (by decide) (cel_0 _ _ _) rfl inX7 fl_X7_52 (by decide) rfl dX7_mostAlike_13 ?_
      refine g_iload dX7_mostAlike_16 rfl ?_
      refine g_lload_n dX7_mostAlike_18 rfl ?_
      refine g_aload_n dX7_mostAlike_19 rfl ?_
      refine g_get (kk := 0) (by decide) (cel_0 _ _ _) rfl inX7 fl_X7_48 (by decide) rfl dX7_mostAlike_20 ?_
      refine g_iload dX7_mostAlike_23 rfl ?_
      obtain ⟨hi, hf⟩ := ck_s hf
      refine g_iaload (kk := 61) (by decide) (fun f g => cel_61 _ f g) hi rfl dX7_mostAlike_25 ?_
      refine g_aload_n dX7_mostAlike_26 rfl ?_
      refine g_get (kk := 0) (by decide) (cel_0 _ _ _) rfl inX7 fl_X7_10 (by decide) rfl dX7_mostAlike_27 ?_
      refine g_get (kk := 1) (by decide) (cel_1 _ _ _) rfl inX4 fl_X7_94 (by decide) rfl dX7_mostAlike_30 ?_
      obtain ⟨r1, hq, hf⟩ := bnd hf
      refine g_cS_JII_J (c_X5_appliedPair hq) cs_X7_286 ⟨by decide, by decide⟩ (Nat.le_of_ble_eq_true rfl) dX7_mostAlike_33 ?_
      obtain ⟨hi, hf⟩ := ck_s hf
      refine g_lastore (kk := 62) (by decide) (fun f g => cel_62 _ f g) hi rfl dX7_mostAlike_36 ?_
      refine g_iconst (v := 0) dX7_mostAlike_37 (by decide) ?_
      refine g_ist6 dX7_mostAlike_38 (by decide) lnl_i ?_
      refine g_iconst (v := 0) dX7_mostAlike_40 (by decide) ?_
      refine g_ist7 dX7_mostAlike_41 (by decide) lnl_i ?_
      exact w_X7_mostAlike_43 hr (fun hf => ih hf) fu hf
def f_X7_mostAlike (x1 : Int64) (x3 : Int32) (M : Mem) : Option (Int32 × Mem) :=
  b_X7_mostAlike_6 x1 x3 fu (0 : Int32) (0 : Int32) M
set_option maxHeartbeats 4000000 in
set_option maxRecDepth 100000 in
theorem c_X7_mostAlike {l : Launch} {x1 : Int64} {x3 : Int32} {M : Mem} {r : Int32} {M1 : Mem} (hf : f_X7_mostAlike x1 x3 M = some (r, M1)) : Cn l yX7_mostAlike cX7_mostAlike 8 (some .int) 5 121 (fun E => [.ref (E.1 0), .long x1, .int x3]) M (some (.int r), M1) := by
  unfold f_X7_mostAlike at hf
  refine cn_of RX7 (fun E => [some (.ref (E.1 0)), some (.long x1), none, some (.int x3), none, none, none, none]) (by decide +kernel) rfl (fun E => Nat.le_of_ble_eq_true rfl) (fun E => rfl) (fun X hr => ?_)
  refine g_iconst (v := 0) dX7_mostAlike_0 (by decide) ?_
  refine g_ist4 dX7_mostAlike_1 (by decide) lnl_i ?_
  refine g_iconst (v := 0) dX7_mostAlike_3 (by decide) ?_
  refine g_ist5 dX7_mostAlike_4 (by decide) lnl_i ?_
  exact w_X7_mostAlike_6 hr fu hf
-- X7_tries
def b_X7_tries_72 (k31 : Int32 → Int32 → Int32 → Mem → Option (Int32 × Mem))  (x2 : Int32) (x3 : Int32) (x4 : Int32) (x5 : Int32) (M : Mem) : Option (Int32 × Mem) :=
  k31 x3 x4 (x5 + (1 : Int32)) M
set_option maxHeartbeats 4000000 in
set_option maxRecDepth 100000 in
theorem w_X7_tries_72 {X : Cx} {r : Int32} {M1 : Mem}  {k31 : Int32 → Int32 → Int32 → Mem → Option (Int32 × Mem)} {x2 : Int32}   {x3 : Int32} {x4 : Int32} {x5 : Int32} {M : Mem} (hr : X.meth.sig.returnType = (some .int)) (hk31 : ∀ {x3_ : Int32} {x4_ : Int32} {x5_ : Int32} {M_ : Mem}, k31 x3_ x4_ x5_ M_ = some (r, M1) → G X (some (.int r), M1) RX7 cX7_tries 7 7 167 31 [some (.ref (X.1.1 0)), none, some (.int x2), some (.int x3_), some (.int x4_), some (.int x5_), none] [] M_) (hf : b_X7_tries_72 k31 x2 x3 x4 x5 M = some (r, M1)) : G X (some (.int r), M1) RX7 cX7_tries 7 7 167 72 [some (.ref (X.1.1 0)), none, some (.int x2), some (.int x3), some (.int x4), some (.int x5), none] [] M := by
  unfold b_X7_tries_72 at hf
  refine g_iinc5 (v := (x5 + (1 : Int32))) dX7_tries_72 (by decide) lnl_i rfl ?_
  refine g_goto (tgt := 31) dX7_tries_75 (by decide) ?_
  exact hk31 hf
def b_X7_tries_31   (x2 : Int32) : Nat → Int32 → Int32 → Int32 → Mem → Option (Int32 × Mem)
  | 0, _, _, _, _ => none
  | n + 1, x3, x4, x5, M =>
    if (4 : Int32) ≤ x5 then (some (x3, M))
    else (if x2 ≤ 0 then (some (x3, M))
    else (ck x5 4 <|
    (f_X7_mostAlike (M.2 6 x5.toNatClampNeg) x2 M).bind fun r2 =>
    if x4 ≤ r2.1 then (b_X7_tries_72 (fun x3_ x4_ x5_ M_ => b_X7_tries_31 x2 n x3_ x4_ x5_ M_) x2 x3 x4 x5 r2.2)
    else (b_X7_tries_72 (fun x3_ x4_ x5_ M_ => b_X7_tries_31 x2 n x3_ x4_ x5_ M_) x2 x5 r2.1 x5 r2.2)))
set_option maxHeartbeats 4000000 in
set_option maxRecDepth 100000 in
theorem w_X7_tries_31 {X : Cx} {r : Int32} {M1 : Mem}   {x2 : Int32}   (hr : X.meth.sig.returnType = (some .int)) : ∀ (n : Nat) {x3 : Int32} {x4 : Int32} {x5 : Int32} {M : Mem}, b_X7_tries_31 x2 n x3 x4 x5 M = some (r, M1) → G X (some (.int r), M1) RX7 cX7_tries 7 7 167 31 [some (.ref (X.1.1 0)), none, some (.int x2), some (.int x3), some (.int x4), some (.int x5), none] [] M := by
  intro n
  induction n with
  | zero => intro x3 x4 x5 M hf; cases hf
  | succ n ih =>
    intro x3 x4 x5 M hf
    rw [b_X7_tries_31.eq_2] at hf
    refine g_iload dX7_tries_31 rfl ?_
    refine g_iconst (v := 4) dX7_tries_33 (by decide) ?_
    refine g_icmp_ge (tgt := 78) dX7_tries_34 (by decide) (fun hc => ?_) (fun hc => ?_)
    · have hf := ite_t hc hf
      refine g_iload_n dX7_tries_78 rfl ?_
      exact g_iret_w hr hf dX7_tries_79
    · have hf := ite_f hc hf
      refine g_iload_n dX7_tries_37 rfl ?_
      refine g_if_le (tgt := 78) dX7_tries_38 (by decide) (fun hc => ?_) (fun hc => ?_)
      · have hf := ite_t hc hf
        refine g_iload_n dX7_tries_78 rfl ?_
        exact g_iret_w hr hf dX7_tries_79
      · have hf := ite_f hc hf
        refine g_aload_n dX7_tries_41 rfl ?_
        refine g_aload_n dX7_tries_42 rfl ?_
        refine g_get (kk := 0) (by decide) (cel_0 _ _ _) rfl inX7 fl_X7_10 (by decide) rfl dX7_tries_43 ?_
        refine g_get (kk := 1) (by decide) (cel_1 _ _ _) rfl inX4 fl_X7_109 (by decide) rfl dX7_tries_46 ?_
        refine g_iload dX7_tries_49 rfl ?_
        obtain ⟨hi, hf⟩ := ck_s hf
        refine g_laload (kk := 6) (by decide) (fun f g => cel_6 _ f g) hi rfl dX7_tries_51 ?_
        refine g_iload_n dX7_tries_52 rfl ?_
        obtain ⟨r2, hq, hf⟩ := bnd hf
        refine g_cV_JI_I (c_X7_mostAlike (r := r2.1) (M1 := r2.2) hq) cv_X7_207 (by decide) (cel_0 _ _ _) rfl ⟨by decide, by decide⟩ (Nat.le_of_ble_eq_true rfl) dX7_tries_53 ?_
        refine g_ist6 dX7_tries_56 (by decide) lnl_i ?_
        refine g_iload dX7_tries_58 rfl ?_
        refine g_iload dX7_tries_60 rfl ?_
        refine g_icmp_ge (tgt := 72) dX7_tries_62 (by decide) (fun hc => ?_) (fun hc => ?_)
        · have hf := ite_t hc hf
          exact g_weakr (w_X7_tries_72 hr (fun hf => ih hf) hf) (lsk (lsd (lsk (lsk (lsk (lsk (lsd lsz)))))))
        · have hf := ite_f hc hf
          refine g_iload dX7_tries_65 rfl ?_
          refine g_ist3 dX7_tries_67 (by decide) lnl_i ?_
          refine g_iload dX7_tries_68 rfl ?_
          refine g_ist4 dX7_tries_70 (by decide) lnl_i ?_
          exact g_weakr (w_X7_tries_72 hr (fun hf => ih hf) hf) (lsk (lsd (lsk (lsk (lsk (lsk (lsd lsz)))))))
def f_X7_tries (x1 : Int32) (M : Mem) : Option (Int32 × Mem) :=
  if (f_X7_isBridge M x1) = 0 then ((f_X7_refuseBad (-2 : Int32) M).bind fun r3 =>
  some (r3.1, r3.2))
  else ((f_X7_collectFitting x1 M).bind fun r1 =>
  b_X7_tries_31 r1.1 fu (-1 : Int32) (r1.1 + (1 : Int32)) (0 : Int32) r1.2)
set_option maxHeartbeats 4000000 in
set_option maxRecDepth 100000 in
theorem c_X7_tries {l : Launch} {x1 : Int32} {M : Mem} {r : Int32} {M1 : Mem} (hf : f_X7_tries x1 M = some (r, M1)) : Cn l yX7_tries cX7_tries 7 (some .int) 7 167 (fun E => [.ref (E.1 0), .int x1]) M (some (.int r), M1) := by
  unfold f_X7_tries at hf
  refine cn_of RX7 (fun E => [some (.ref (E.1 0)), some (.int x1), none, none, none, none, none]) (by decide +kernel) rfl (fun E => Nat.le_of_ble_eq_true rfl) (fun E => rfl) (fun X hr => ?_)
  refine g_aload_n dX7_tries_0 rfl ?_
  refine g_iload_n dX7_tries_1 rfl ?_
  refine g_cV_I_I (c_X7_isBridge rfl) cv_X7_83 (by decide) (cel_0 _ _ _) rfl ⟨by decide, by decide⟩ (Nat.le_of_ble_eq_true rfl) dX7_tries_2 ?_
  refine g_if_ne (tgt := 15) dX7_tries_5 (by decide) (fun hc => ?_) (fun hc => ?_)
  · have hf := ite_f hc hf
    refine g_aload_n dX7_tries_15 rfl ?_
    refine g_iload_n dX7_tries_16 rfl ?_
    obtain ⟨r1, hq, hf⟩ := bnd hf
    refine g_cV_I_I (c_X7_collectFitting (r := r1.1) (M1 := r1.2) hq) cv_X7_204 (by decide) (cel_0 _ _ _) rfl ⟨by decide, by decide⟩ (Nat.le_of_ble_eq_true rfl) dX7_tries_17 ?_
    refine g_ist2 dX7_tries_20 (by decide) lnl_i ?_
    refine g_iconst (v := (-1)) dX7_tries_21 (by decide) ?_
    refine g_ist3 dX7_tries_22 (by decide) lnl_i ?_
    refine g_iload_n dX7_tries_23 rfl ?_
    refine g_iconst (v := 1) dX7_tries_24 (by decide) ?_
    refine g_iadd dX7_tries_25 ?_
    refine g_ist4 dX7_tries_26 (by decide) lnl_i ?_
    refine g_iconst (v := 0) dX7_tries_28 (by decide) ?_
    refine g_ist5 dX7_tries_29 (by decide) lnl_i ?_
    exact g_weakr (w_X7_tries_31 hr fu hf) (lsk (lsd (lsk (lsk (lsk (lsk (lsd lsz)))))))
  · have hf := ite_t hc hf
    refine g_aload_n dX7_tries_8 rfl ?_
    refine g_bipush (v := (-2)) dX7_tries_9 (by decide) ?_
    obtain ⟨r3, hq, hf⟩ := bnd hf
    refine g_cV_I_I (c_X7_refuseBad (r := r3.1) (M1 := r3.2) hq) cv_X7_60 (by decide) (cel_0 _ _ _) rfl ⟨by decide, by decide⟩ (Nat.le_of_ble_eq_true rfl) dX7_tries_11 ?_
    exact g_iret_w hr hf dX7_tries_14
-- X7_renamed
def b_X7_renamed_38   (x2 : Int32) (x3 : Int64) : Nat → Int64 → Int32 → Mem → Option (Int32 × Mem)
  | 0, _, _, _ => none
  | n + 1, x5, x7, M =>
    if (60 : Int32) ≤ x7 then (some ((-1 : Int32), M))
    else (ck x2 8 <|
    ck x2 8 <|
    (f_X5_applied x5 (M.1 4 x2.toNatClampNeg) (M.1 5 x2.toNatClampNeg) (((M.1 1 7) + x7) - ((M.1 1 7) + x7) / (12 : Int32) * (12 : Int32))).bind fun r2 =>
    if (lg_cmp r2 x3) = 0 then (some ((x7 + (1 : Int32)), M))
    else (b_X7_renamed_38 x2 x3 n r2 (x7 + (1 : Int32)) M))
set_option maxHeartbeats 4000000 in
set_option maxRecDepth 100000 in
theorem w_X7_renamed_38 {X : Cx} {r : Int32} {M1 : Mem}   {x2 : Int32} {x3 : Int64}   (hr : X.meth.sig.returnType = (some .int)) : ∀ (n : Nat) {x5 : Int64} {x7 : Int32} {M : Mem}, b_X7_renamed_38 x2 x3 n x5 x7 M = some (r, M1) → G X (some (.int r), M1) RX7 cX7_renamed 9 4 98 38 [some (.ref (X.1.1 0)), none, some (.int x2), some (.long x3), none, some (.long x5), none, some (.int x7), none] [] M := by
  intro n
  induction n with
  | zero => intro x5 x7 M hf; cases hf
  | succ n ih =>
    intro x5 x7 M hf
    rw [b_X7_renamed_38.eq_2] at hf
    refine g_iload dX7_renamed_38 rfl ?_
    refine g_bipush (v := 60) dX7_renamed_40 (by decide) ?_
    refine g_icmp_ge (tgt := 105) dX7_renamed_42 (by decide) (fun hc => ?_) (fun hc => ?_)
    · have hf := ite_t hc hf
      refine g_iconst (v := (-1)) dX7_renamed_105 (by decide) ?_
      exact g_iret_w hr hf dX7_renamed_106
    · have hf := ite_f hc hf
      refine g_aload_n dX7_renamed_45 rfl ?_
      refine g_get (kk := 0) (by decide) (cel_0 _ _ _) rfl inX7 fl_X7_10 (by decide) rfl dX7_renamed_46 ?_
      refine g_get (kk := 1) (by decide) (cel_1 _ _ _) rfl inX4 fl_X7_94 (by decide) rfl dX7_renamed_49 ?_
      refine g_iload dX7_renamed_52 rfl ?_
      refine g_iadd dX7_renamed_54 ?_
      refine g_bipush (v := 12) dX7_renamed_55 (by decide) ?_
      refine g_irem dX7_renamed_57 (by decide) ?_
      refine g_ist8 dX7_renamed_58 (by decide) lnl_i ?_
      refine g_lload dX7_renamed_60 rfl ?_
      refine g_aload_n dX7_renamed_62 rfl ?_
      refine g_get (kk := 0) (by decide) (cel_0 _ _ _) rfl inX7 fl_X7_10 (by decide) rfl dX7_renamed_63 ?_
      refine g_get (kk := 1) (by decide) (cel_1 _ _ _) rfl inX4 fl_X7_144 (by decide) rfl dX7_renamed_66 ?_
      refine g_iload_n dX7_renamed_69 rfl ?_
      obtain ⟨hi, hf⟩ := ck_s hf
      refine g_iaload (kk := 4) (by decide) (fun f g => cel_4 _ f g) hi rfl dX7_renamed_70 ?_
      refine g_aload_n dX7_renamed_71 rfl ?_
      refine g_get (kk := 0) (by decide) (cel_0 _ _ _) rfl inX7 fl_X7_10 (by decide) rfl dX7_renamed_72 ?_
      refine g_get (kk := 1) (by decide) (cel_1 _ _ _) rfl inX4 fl_X7_147 (by decide) rfl dX7_renamed_75 ?_
      refine g_iload_n dX7_renamed_78 rfl ?_
      obtain ⟨hi, hf⟩ := ck_s hf
      refine g_iaload (kk := 5) (by decide) (fun f g => cel_5 _ f g) hi rfl dX7_renamed_79 ?_
      refine g_iload dX7_renamed_80 rfl ?_
      obtain ⟨r2, hq, hf⟩ := bnd hf
      refine g_cS_JIII_J (c_X5_applied hq) cs_X7_210 ⟨by decide, by decide⟩ (Nat.le_of_ble_eq_true rfl) dX7_renamed_82 ?_
      refine g_lst5 dX7_renamed_85 (by decide) lnl_n ?_
      refine g_lload dX7_renamed_87 rfl ?_
      refine g_lload_n dX7_renamed_89 rfl ?_
      refine g_lcmp dX7_renamed_90 ?_
      refine g_if_ne (tgt := 99) dX7_renamed_91 (by decide) (fun hc => ?_) (fun hc => ?_)
      · have hf := ite_f hc hf
        refine g_iinc7 (v := (x7 + (1 : Int32))) dX7_renamed_99 (by decide) lnl_n rfl ?_
        refine g_goto (tgt := 38) dX7_renamed_102 (by decide) ?_
        exact g_weakr (ih hf) (lsk (lsd (lsk (lsk (lsd (lsk (lsd (lsk (lsd lsz)))))))))
      · have hf := ite_t hc hf
        refine g_iload dX7_renamed_94 rfl ?_
        refine g_iconst (v := 1) dX7_renamed_96 (by decide) ?_
        refine g_iadd dX7_renamed_97 ?_
        exact g_iret_w hr hf dX7_renamed_98
def f_X7_renamed (x1 : Int32) (x2 : Int32) (M : Mem) : Option (Int32 × Mem) :=
  if (f_X7_isRow x1) = 0 then ((f_X7_refuseBad (-2 : Int32) M).bind fun r1 =>
  some (r1.1, r1.2))
  else (if (f_X7_isBridge M x2) = 0 then ((f_X7_refuseBad (-2 : Int32) M).bind fun r3 =>
  some (r3.1, r3.2))
  else (ck x1 4 <|
  b_X7_renamed_38 x2 (M.2 6 x1.toNatClampNeg) fu (M.2 6 x1.toNatClampNeg) (0 : Int32) M))
set_option maxHeartbeats 4000000 in
set_option maxRecDepth 100000 in
theorem c_X7_renamed {l : Launch} {x1 : Int32} {x2 : Int32} {M : Mem} {r : Int32} {M1 : Mem} (hf : f_X7_renamed x1 x2 M = some (r, M1)) : Cn l yX7_renamed cX7_renamed 9 (some .int) 4 98 (fun E => [.ref (E.1 0), .int x1, .int x2]) M (some (.int r), M1) := by
  unfold f_X7_renamed at hf
  refine cn_of RX7 (fun E => [some (.ref (E.1 0)), some (.int x1), some (.int x2), none, none, none, none, none, none]) (by decide +kernel) rfl (fun E => Nat.le_of_ble_eq_true rfl) (fun E => rfl) (fun X hr => ?_)
  refine g_iload_n dX7_renamed_0 rfl ?_
  refine g_cS_I_I (c_X7_isRow rfl) cs_X7_106 ⟨by decide, by decide⟩ (Nat.le_of_ble_eq_true rfl) dX7_renamed_1 ?_
  refine g_if_eq (tgt := 15) dX7_renamed_4 (by decide) (fun hc => ?_) (fun hc => ?_)
  · have hf := ite_t hc hf
    refine g_aload_n dX7_renamed_15 rfl ?_
    refine g_bipush (v := (-2)) dX7_renamed_16 (by decide) ?_
    obtain ⟨r1, hq, hf⟩ := bnd hf
    refine g_cV_I_I (c_X7_refuseBad (r := r1.1) (M1 := r1.2) hq) cv_X7_60 (by decide) (cel_0 _ _ _) rfl ⟨by decide, by decide⟩ (Nat.le_of_ble_eq_true rfl) dX7_renamed_18 ?_
    exact g_iret_w hr hf dX7_renamed_21
  · have hf := ite_f hc hf
    refine g_aload_n dX7_renamed_7 rfl ?_
    refine g_iload_n dX7_renamed_8 rfl ?_
    refine g_cV_I_I (c_X7_isBridge rfl) cv_X7_83 (by decide) (cel_0 _ _ _) rfl ⟨by decide, by decide⟩ (Nat.le_of_ble_eq_true rfl) dX7_renamed_9 ?_
    refine g_if_ne (tgt := 22) dX7_renamed_12 (by decide) (fun hc => ?_) (fun hc => ?_)
    · have hf := ite_f hc hf
      refine g_aload_n dX7_renamed_22 rfl ?_
      refine g_get (kk := 0) (by decide) (cel_0 _ _ _) rfl inX7 fl_X7_10 (by decide) rfl dX7_renamed_23 ?_
      refine g_get (kk := 1) (by decide) (cel_1 _ _ _) rfl inX4 fl_X7_109 (by decide) rfl dX7_renamed_26 ?_
      refine g_iload_n dX7_renamed_29 rfl ?_
      obtain ⟨hi, hf⟩ := ck_s hf
      refine g_laload (kk := 6) (by decide) (fun f g => cel_6 _ f g) hi rfl dX7_renamed_30 ?_
      refine g_lst3 dX7_renamed_31 (by decide) lnl_i ?_
      refine g_lload_n dX7_renamed_32 rfl ?_
      refine g_lst5 dX7_renamed_33 (by decide) lnl_n ?_
      refine g_iconst (v := 0) dX7_renamed_35 (by decide) ?_
      refine g_ist7 dX7_renamed_36 (by decide) lnl_n ?_
      exact g_weakr (w_X7_renamed_38 hr fu hf) (lsk (lsd (lsk (lsk (lsd (lsk (lsd (lsk (lsd lsz)))))))))
    · have hf := ite_t hc hf
      refine g_aload_n dX7_renamed_15 rfl ?_
      refine g_bipush (v := (-2)) dX7_renamed_16 (by decide) ?_
      obtain ⟨r3, hq, hf⟩ := bnd hf
      refine g_cV_I_I (c_X7_refuseBad (r := r3.1) (M1 := r3.2) hq) cv_X7_60 (by decide) (cel_0 _ _ _) rfl ⟨by decide, by decide⟩ (Nat.le_of_ble_eq_true rfl) dX7_renamed_18 ?_
      exact g_iret_w hr hf dX7_renamed_21
-- X0_commonPart
def b_X0_commonPart_9    : Nat → Int64 → Int64 → Int32 → Option Int64
  | 0, _, _, _ => none
  | n + 1, x4, x6, x8 =>
    if (100 : Int32) ≤ x8 then (some x4)
    else (if (lg_cmp x6 (0 : Int64)) = 0 then (some x4)
    else (ckM x6 (b_X0_commonPart_9 n x6 (x4 - x4 / x6 * x6) (x8 + (1 : Int32)))))
set_option maxHeartbeats 4000000 in
set_option maxRecDepth 100000 in
theorem w_X0_commonPart_9 {X : Cx} {r : Int64} {M : Mem}     (hr : X.meth.sig.returnType = (some .long)) : ∀ (n : Nat) {x4 : Int64} {x6 : Int64} {x8 : Int32}, b_X0_commonPart_9  n x4 x6 x8 = some r → G X (some (.long r), M) RX0 cX0_commonPart 11 0 0 9 [none, none, none, none, some (.long x4), none, some (.long x6), none, some (.int x8), none, none] [] M := by
  intro n
  induction n with
  | zero => intro x4 x6 x8 hf; cases hf
  | succ n ih =>
    intro x4 x6 x8 hf
    rw [b_X0_commonPart_9.eq_2] at hf
    refine g_iload dX0_commonPart_9 rfl ?_
    refine g_bipush (v := 100) dX0_commonPart_11 (by decide) ?_
    refine g_icmp_ge (tgt := 44) dX0_commonPart_13 (by decide) (fun hc => ?_) (fun hc => ?_)
    · have hf := ite_t hc hf
      refine g_lload dX0_commonPart_44 rfl ?_
      exact g_lret_p hr hf dX0_commonPart_46
    · have hf := ite_f hc hf
      refine g_lload dX0_commonPart_16 rfl ?_
      refine g_lconst (v := 0) dX0_commonPart_18 (by decide) ?_
      refine g_lcmp dX0_commonPart_19 ?_
      refine g_if_eq (tgt := 44) dX0_commonPart_20 (by decide) (fun hc => ?_) (fun hc => ?_)
      · have hf := ite_t hc hf
        refine g_lload dX0_commonPart_44 rfl ?_
        exact g_lret_p hr hf dX0_commonPart_46
      · have hf := ite_f hc hf
        refine g_lload dX0_commonPart_23 rfl ?_
        refine g_lload dX0_commonPart_25 rfl ?_
        obtain ⟨hn, hf⟩ := ckM_s hf
        refine g_lrem dX0_commonPart_27 hn ?_
        refine g_lst9 dX0_commonPart_28 (by decide) lnl_i ?_
        refine g_lload dX0_commonPart_30 rfl ?_
        refine g_lst4 dX0_commonPart_32 (by decide) lnl_n ?_
        refine g_lload dX0_commonPart_34 rfl ?_
        refine g_lst6 dX0_commonPart_36 (by decide) lnl_n ?_
        refine g_iinc8 (v := (x8 + (1 : Int32))) dX0_commonPart_38 (by decide) lnl_n rfl ?_
        refine g_goto (tgt := 9) dX0_commonPart_41 (by decide) ?_
        exact g_weakr (ih hf) (lsd (lsd (lsd (lsd (lsk (lsd (lsk (lsd (lsk (lsd (lsd lsz)))))))))))
def f_X0_commonPart (x0 : Int64) (x2 : Int64) : Option Int64 :=
  b_X0_commonPart_9 fu x0 x2 (0 : Int32)
set_option maxHeartbeats 4000000 in
set_option maxRecDepth 100000 in
theorem c_X0_commonPart {l : Launch} {x0 : Int64} {x2 : Int64} {M : Mem} {r : Int64} (hf : f_X0_commonPart x0 x2 = some r) : Cn l yX0_commonPart cX0_commonPart 11 (some .long) 0 0 (fun E => [.long x0, .long x2]) M (some (.long r), M) := by
  unfold f_X0_commonPart at hf
  refine cn_of RX0 (fun E => [some (.long x0), none, some (.long x2), none, none, none, none, none, none, none, none]) (by decide +kernel) rfl (fun E => Nat.le_of_ble_eq_true rfl) (fun E => rfl) (fun X hr => ?_)
  refine g_lload_n dX0_commonPart_0 rfl ?_
  refine g_lst4 dX0_commonPart_1 (by decide) lnl_n ?_
  refine g_lload_n dX0_commonPart_3 rfl ?_
  refine g_lst6 dX0_commonPart_4 (by decide) lnl_n ?_
  refine g_iconst (v := 0) dX0_commonPart_6 (by decide) ?_
  refine g_ist8 dX0_commonPart_7 (by decide) lnl_n ?_
  exact g_weakr (w_X0_commonPart_9 hr fu hf) (lsd (lsd (lsd (lsd (lsk (lsd (lsk (lsd (lsk (lsd (lsd lsz)))))))))))
-- X0_setLowest
def f_X0_setLowest (x1 : Int64) (x3 : Int64) (M : Mem) : Option Mem :=
  (f_X0_commonPart x1 x3).bind fun r1 =>
  if 0 ≤ (lg_cmp r1 (1 : Int64)) then (ckM r1 (let M2 := mL M 60 0 (x1 / r1)
  ckM r1 (let M3 := mL M2 60 1 (x3 / r1)
  some M3)))
  else (some M)
set_option maxHeartbeats 4000000 in
set_option maxRecDepth 100000 in
theorem c_X0_setLowest {l : Launch} {x1 : Int64} {x3 : Int64} {M : Mem} {M1 : Mem} (hf : f_X0_setLowest x1 x3 M = some M1) : Cn l yX0_setLowest cX0_setLowest 7 none 1 30 (fun E => [.ref (E.1 60), .long x1, .long x3]) M (none, M1) := by
  unfold f_X0_setLowest at hf
  refine cn_of RX0 (fun E => [some (.ref (E.1 60)), some (.long x1), none, some (.long x3), none, none, none]) (by decide +kernel) rfl (fun E => Nat.le_of_ble_eq_true rfl) (fun E => rfl) (fun X hr => ?_)
  refine g_lload_n dX0_setLowest_0 rfl ?_
  refine g_lload_n dX0_setLowest_1 rfl ?_
  obtain ⟨r1, hq, hf⟩ := bnd hf
  refine g_cS_JJ_J (c_X0_commonPart hq) cs_X0_27 ⟨by decide, by decide⟩ (Nat.le_of_ble_eq_true rfl) dX0_setLowest_2 ?_
  refine g_lst5 dX0_setLowest_5 (by decide) lnl_n ?_
  refine g_lload dX0_setLowest_7 rfl ?_
  refine g_lconst (v := 1) dX0_setLowest_9 (by decide) ?_
  refine g_lcmp dX0_setLowest_10 ?_
  refine g_if_ge (tgt := 15) dX0_setLowest_11 (by decide) (fun hc => ?_) (fun hc => ?_)
  · have hf := ite_t hc hf
    refine g_aload_n dX0_setLowest_15 rfl ?_
    refine g_lload_n dX0_setLowest_16 rfl ?_
    refine g_lload dX0_setLowest_17 rfl ?_
    obtain ⟨hn, hf⟩ := ckM_s hf
    refine g_ldiv dX0_setLowest_19 hn ?_
    refine g_putL (kk := 60) (by decide) (cel_60 _ _ _) (pL_60_0 _ _ _ _) rfl inX0 tyX0_ok nmX0 fl_X0_7 (by decide) (Nat.le_of_ble_eq_true rfl) rfl (by decide +kernel) dX0_setLowest_20 ?_
    refine g_aload_n dX0_setLowest_23 rfl ?_
    refine g_lload_n dX0_setLowest_24 rfl ?_
    refine g_lload dX0_setLowest_25 rfl ?_
    obtain ⟨hn, hf⟩ := ckM_s hf
    refine g_ldiv dX0_setLowest_27 hn ?_
    refine g_putL (kk := 60) (by decide) (cel_60 _ _ _) (pL_60_1 _ _ _ _) rfl inX0 tyX0_ok nmX0 fl_X0_13 (by decide) (Nat.le_of_ble_eq_true rfl) rfl (by decide +kernel) dX0_setLowest_28 ?_
    exact g_vret_w hr hf dX0_setLowest_31
  · have hf := ite_f hc hf
    exact g_vret_w hr hf dX0_setLowest_14
-- X0_chosen
def b_X0_chosen_5   (x0 : Int32) (x1 : Int32) : Nat → Int64 → Int32 → Option Int64
  | 0, _, _ => none
  | n + 1, x2, x4 =>
    if x1 < x4 then (some x2)
    else (ckM x4.toInt64 (b_X0_chosen_5 x0 x1 n ((x2 * ((x0 - x1) + x4).toInt64) / x4.toInt64) (x4 + (1 : Int32))))
set_option maxHeartbeats 4000000 in
set_option maxRecDepth 100000 in
theorem w_X0_chosen_5 {X : Cx} {r : Int64} {M : Mem}  {x0 : Int32} {x1 : Int32}   (hr : X.meth.sig.returnType = (some .long)) : ∀ (n : Nat) {x2 : Int64} {x4 : Int32}, b_X0_chosen_5 x0 x1 n x2 x4 = some r → G X (some (.long r), M) RX0 cX0_chosen 5 0 0 5 [some (.int x0), some (.int x1), some (.long x2), none, some (.int x4)] [] M := by
  intro n
  induction n with
  | zero => intro x2 x4 hf; cases hf
  | succ n ih =>
    intro x2 x4 hf
    rw [b_X0_chosen_5.eq_2] at hf
    refine g_iload dX0_chosen_5 rfl ?_
    refine g_iload_n dX0_chosen_7 rfl ?_
    refine g_icmp_gt (tgt := 31) dX0_chosen_8 (by decide) (fun hc => ?_) (fun hc => ?_)
    · have hf := ite_t hc hf
      refine g_lload_n dX0_chosen_31 rfl ?_
      exact g_lret_p hr hf dX0_chosen_32
    · have hf := ite_f hc hf
      refine g_lload_n dX0_chosen_11 rfl ?_
      refine g_iload_n dX0_chosen_12 rfl ?_
      refine g_iload_n dX0_chosen_13 rfl ?_
      refine g_isub dX0_chosen_14 ?_
      refine g_iload dX0_chosen_15 rfl ?_
      refine g_iadd dX0_chosen_17 ?_
      refine g_i2l dX0_chosen_18 ?_
      refine g_lmul dX0_chosen_19 ?_
      refine g_iload dX0_chosen_20 rfl ?_
      refine g_i2l dX0_chosen_22 ?_
      obtain ⟨hn, hf⟩ := ckM_s hf
      refine g_ldiv dX0_chosen_23 hn ?_
      refine g_lst2 dX0_chosen_24 (by decide) lnl_i ?_
      refine g_iinc4 (v := (x4 + (1 : Int32))) dX0_chosen_25 (by decide) lnl_n rfl ?_
      refine g_goto (tgt := 5) dX0_chosen_28 (by decide) ?_
      exact ih hf
def f_X0_chosen (x0 : Int32) (x1 : Int32) : Option Int64 :=
  b_X0_chosen_5 x0 x1 fu (1 : Int64) (1 : Int32)
set_option maxHeartbeats 4000000 in
set_option maxRecDepth 100000 in
theorem c_X0_chosen {l : Launch} {x0 : Int32} {x1 : Int32} {M : Mem} {r : Int64} (hf : f_X0_chosen x0 x1 = some r) : Cn l yX0_chosen cX0_chosen 5 (some .long) 0 0 (fun E => [.int x0, .int x1]) M (some (.long r), M) := by
  unfold f_X0_chosen at hf
  refine cn_of RX0 (fun E => [some (.int x0), some (.int x1), none, none, none]) (by decide +kernel) rfl (fun E => Nat.le_of_ble_eq_true rfl) (fun E => rfl) (fun X hr => ?_)
  refine g_lconst (v := 1) dX0_chosen_0 (by decide) ?_
  refine g_lst2 dX0_chosen_1 (by decide) lnl_i ?_
  refine g_iconst (v := 1) dX0_chosen_2 (by decide) ?_
  refine g_ist4 dX0_chosen_3 (by decide) lnl_n ?_
  exact w_X0_chosen_5 hr fu hf
-- X0_power
def b_X0_power_5   (x0 : Int32) (x1 : Int32) : Nat → Int64 → Int32 → Option Int64
  | 0, _, _ => none
  | n + 1, x2, x4 =>
    if x1 ≤ x4 then (some x2)
    else (b_X0_power_5 x0 x1 n (x2 * x0.toInt64) (x4 + (1 : Int32)))
set_option maxHeartbeats 4000000 in
set_option maxRecDepth 100000 in
theorem w_X0_power_5 {X : Cx} {r : Int64} {M : Mem}  {x0 : Int32} {x1 : Int32}   (hr : X.meth.sig.returnType = (some .long)) : ∀ (n : Nat) {x2 : Int64} {x4 : Int32}, b_X0_power_5 x0 x1 n x2 x4 = some r → G X (some (.long r), M) RX0 cX0_power 5 0 0 5 [some (.int x0), some (.int x1), some (.long x2), none, some (.int x4)] [] M := by
  intro n
  induction n with
  | zero => intro x2 x4 hf; cases hf
  | succ n ih =>
    intro x2 x4 hf
    rw [b_X0_power_5.eq_2] at hf
    refine g_iload dX0_power_5 rfl ?_
    refine g_iload_n dX0_power_7 rfl ?_
    refine g_icmp_ge (tgt := 22) dX0_power_8 (by decide) (fun hc => ?_) (fun hc => ?_)
    · have hf := ite_t hc hf
      refine g_lload_n dX0_power_22 rfl ?_
      exact g_lret_p hr hf dX0_power_23
    · have hf := ite_f hc hf
      refine g_lload_n dX0_power_11 rfl ?_
      refine g_iload_n dX0_power_12 rfl ?_
      refine g_i2l dX0_power_13 ?_
      refine g_lmul dX0_power_14 ?_
      refine g_lst2 dX0_power_15 (by decide) lnl_i ?_
      refine g_iinc4 (v := (x4 + (1 : Int32))) dX0_power_16 (by decide) lnl_n rfl ?_
      refine g_goto (tgt := 5) dX0_power_19 (by decide) ?_
      exact ih hf
def f_X0_power (x0 : Int32) (x1 : Int32) : Option Int64 :=
  b_X0_power_5 x0 x1 fu (1 : Int64) (0 : Int32)
set_option maxHeartbeats 4000000 in
set_option maxRecDepth 100000 in
theorem c_X0_power {l : Launch} {x0 : Int32} {x1 : Int32} {M : Mem} {r : Int64} (hf : f_X0_power x0 x1 = some r) : Cn l yX0_power cX0_power 5 (some .long) 0 0 (fun E => [.int x0, .int x1]) M (some (.long r), M) := by
  unfold f_X0_power at hf
  refine cn_of RX0 (fun E => [some (.int x0), some (.int x1), none, none, none]) (by decide +kernel) rfl (fun E => Nat.le_of_ble_eq_true rfl) (fun E => rfl) (fun X hr => ?_)
  refine g_lconst (v := 1) dX0_power_0 (by decide) ?_
  refine g_lst2 dX0_power_1 (by decide) lnl_i ?_
  refine g_iconst (v := 0) dX0_power_2 (by decide) ?_
  refine g_ist4 dX0_power_3 (by decide) lnl_n ?_
  exact w_X0_power_5 hr fu hf
-- X0_setChance
def f_X0_setChance (x1 : Int32) (x2 : Int32) (x3 : Int32) (x4 : Int32) (M : Mem) : Option Mem :=
  if x2 < 0 then ((f_X0_setLowest (0 : Int64) (1 : Int64) M).bind fun r1 =>
  some r1)
  else (if x2 ≤ x1 then ((f_X0_chosen x1 x2).bind fun r2 =>
  (f_X0_power x3 x2).bind fun r3 =>
  (f_X0_power (x4 - x3) (x1 - x2)).bind fun r4 =>
  (f_X0_power x4 x1).bind fun r5 =>
  (f_X0_setLowest ((r2 * r3) * r4) r5 M).bind fun r6 =>
  some r6)
  else ((f_X0_setLowest (0 : Int64) (1 : Int64) M).bind fun r7 =>
  some r7))
set_option maxHeartbeats 4000000 in
set_option maxRecDepth 100000 in
theorem c_X0_setChance {l : Launch} {x1 : Int32} {x2 : Int32} {x3 : Int32} {x4 : Int32} {M : Mem} {M1 : Mem} (hf : f_X0_setChance x1 x2 x3 x4 M = some M1) : Cn l yX0_setChance cX0_setChance 7 none 2 56 (fun E => [.ref (E.1 60), .int x1, .int x2, .int x3, .int x4]) M (none, M1) := by
  unfold f_X0_setChance at hf
  refine cn_of RX0 (fun E => [some (.ref (E.1 60)), some (.int x1), some (.int x2), some (.int x3), some (.int x4), none, none]) (by decide +kernel) rfl (fun E => Nat.le_of_ble_eq_true rfl) (fun E => rfl) (fun X hr => ?_)
  refine g_iload_n dX0_setChance_0 rfl ?_
  refine g_if_lt (tgt := 9) dX0_setChance_1 (by decide) (fun hc => ?_) (fun hc => ?_)
  · have hf := ite_t hc hf
    refine g_aload_n dX0_setChance_9 rfl ?_
    refine g_lconst (v := 0) dX0_setChance_10 (by decide) ?_
    refine g_lconst (v := 1) dX0_setChance_11 (by decide) ?_
    obtain ⟨r1, hq, hf⟩ := bnd hf
    refine g_cV_JJ_V (c_X0_setLowest hq) cv_X0_16 (by decide) (cel_60 _ _ _) rfl ⟨by decide, by decide⟩ (Nat.le_of_ble_eq_true rfl) dX0_setChance_12 ?_
    exact g_vret_w hr hf dX0_setChance_15
  · have hf := ite_f hc hf
    refine g_iload_n dX0_setChance_4 rfl ?_
    refine g_iload_n dX0_setChance_5 rfl ?_
    refine g_icmp_le (tgt := 16) dX0_setChance_6 (by decide) (fun hc => ?_) (fun hc => ?_)
    · have hf := ite_t hc hf
      refine g_iload_n dX0_setChance_16 rfl ?_
      refine g_iload_n dX0_setChance_17 rfl ?_
      obtain ⟨r2, hq, hf⟩ := bnd hf
      refine g_cS_II_J (c_X0_chosen hq) cs_X0_20 ⟨by decide, by decide⟩ (Nat.le_of_ble_eq_true rfl) dX0_setChance_18 ?_
      refine g_lst5 dX0_setChance_21 (by decide) lnl_i ?_
      refine g_aload_n dX0_setChance_23 rfl ?_
      refine g_lload dX0_setChance_24 rfl ?_
      refine g_iload_n dX0_setChance_26 rfl ?_
      refine g_iload_n dX0_setChance_27 rfl ?_
      obtain ⟨r3, hq, hf⟩ := bnd hf
      refine g_cS_II_J (c_X0_power hq) cs_X0_24 ⟨by decide, by decide⟩ (Nat.le_of_ble_eq_true rfl) dX0_setChance_28 ?_
      refine g_lmul dX0_setChance_31 ?_
      refine g_iload dX0_setChance_32 rfl ?_
      refine g_iload_n dX0_setChance_34 rfl ?_
      refine g_isub dX0_setChance_35 ?_
      refine g_iload_n dX0_setChance_36 rfl ?_
      refine g_iload_n dX0_setChance_37 rfl ?_
      refine g_isub dX0_setChance_38 ?_
      obtain ⟨r4, hq, hf⟩ := bnd hf
      refine g_cS_II_J (c_X0_power hq) cs_X0_24 ⟨by decide, by decide⟩ (Nat.le_of_ble_eq_true rfl) dX0_setChance_39 ?_
      refine g_lmul dX0_setChance_42 ?_
      refine g_iload dX0_setChance_43 rfl ?_
      refine g_iload_n dX0_setChance_45 rfl ?_
      obtain ⟨r5, hq, hf⟩ := bnd hf
      refine g_cS_II_J (c_X0_power hq) cs_X0_24 ⟨by decide, by decide⟩ (Nat.le_of_ble_eq_true rfl) dX0_setChance_46 ?_
      obtain ⟨r6, hq, hf⟩ := bnd hf
      refine g_cV_JJ_V (c_X0_setLowest hq) cv_X0_16 (by decide) (cel_60 _ _ _) rfl ⟨by decide, by decide⟩ (Nat.le_of_ble_eq_true rfl) dX0_setChance_49 ?_
      exact g_vret_w hr hf dX0_setChance_52
    · have hf := ite_f hc hf
      refine g_aload_n dX0_setChance_9 rfl ?_
      refine g_lconst (v := 0) dX0_setChance_10 (by decide) ?_
      refine g_lconst (v := 1) dX0_setChance_11 (by decide) ?_
      obtain ⟨r7, hq, hf⟩ := bnd hf
      refine g_cV_JJ_V (c_X0_setLowest hq) cv_X0_16 (by decide) (cel_60 _ _ _) rfl ⟨by decide, by decide⟩ (Nat.le_of_ble_eq_true rfl) dX0_setChance_12 ?_
      exact g_vret_w hr hf dX0_setChance_15
-- X7_stammer
def f_X7_stammer (x1 : Int32) (x2 : Int32) (x3 : Int32) (x4 : Int32) (M : Mem) : Option (Int32 × Mem) :=
  if (f_X7_isRow x1) = 0 then ((f_X7_refuseBad (-2 : Int32) M).bind fun r1 =>
  some (r1.1, r1.2))
  else (if (f_X7_isBridge M x2) = 0 then ((f_X7_refuseBad (-2 : Int32) M).bind fun r2 =>
  some (r2.1, r2.2))
  else (if x3 < 0 then ((f_X7_refuseBad (-2 : Int32) M).bind fun r3 =>
  some (r3.1, r3.2))
  else (if (10 : Int32) < x3 then ((f_X7_refuseBad (-2 : Int32) M).bind fun r4 =>
  some (r4.1, r4.2))
  else (if x4 < 0 then ((f_X7_refuseBad (-2 : Int32) M).bind fun r5 =>
  some (r5.1, r5.2))
  else (if x4 ≤ (24 : Int32) then (ck x1 4 <|
  (f_X4_behind_1 M x2 (M.2 6 x1.toNatClampNeg)).bind fun r6 =>
  (f_X0_setChance (f_X1_length r6) (x4 - (f_X1_length r6)) x3 (10 : Int32) M).bind fun r7 =>
  some ((1 : Int32), r7))
  else ((f_X7_refuseBad (-2 : Int32) M).bind fun r8 =>
  some (r8.1, r8.2)))))))
set_option maxHeartbeats 4000000 in
set_option maxRecDepth 100000 in
theorem c_X7_stammer {l : Launch} {x1 : Int32} {x2 : Int32} {x3 : Int32} {x4 : Int32} {M : Mem} {r : Int32} {M1 : Mem} (hf : f_X7_stammer x1 x2 x3 x4 M = some (r, M1)) : Cn l yX7_stammer cX7_stammer 6 (some .int) 5 121 (fun E => [.ref (E.1 0), .int x1, .int x2, .int x3, .int x4]) M (some (.int r), M1) := by
  unfold f_X7_stammer at hf
  refine cn_of RX7 (fun E => [some (.ref (E.1 0)), some (.int x1), some (.int x2), some (.int x3), some (.int x4), none]) (by decide +kernel) rfl (fun E => Nat.le_of_ble_eq_true rfl) (fun E => rfl) (fun X hr => ?_)
  refine g_iload_n dX7_stammer_0 rfl ?_
  refine g_cS_I_I (c_X7_isRow rfl) cs_X7_106 ⟨by decide, by decide⟩ (Nat.le_of_ble_eq_true rfl) dX7_stammer_1 ?_
  refine g_if_eq (tgt := 37) dX7_stammer_4 (by decide) (fun hc => ?_) (fun hc => ?_)
  · have hf := ite_t hc hf
    refine g_aload_n dX7_stammer_37 rfl ?_
    refine g_bipush (v := (-2)) dX7_stammer_38 (by decide) ?_
    obtain ⟨r1, hq, hf⟩ := bnd hf
    refine g_cV_I_I (c_X7_refuseBad (r := r1.1) (M1 := r1.2) hq) cv_X7_60 (by decide) (cel_0 _ _ _) rfl ⟨by decide, by decide⟩ (Nat.le_of_ble_eq_true rfl) dX7_stammer_40 ?_
    exact g_iret_w hr hf dX7_stammer_43
  · have hf := ite_f hc hf
    refine g_aload_n dX7_stammer_7 rfl ?_
    refine g_iload_n dX7_stammer_8 rfl ?_
    refine g_cV_I_I (c_X7_isBridge rfl) cv_X7_83 (by decide) (cel_0 _ _ _) rfl ⟨by decide, by decide⟩ (Nat.le_of_ble_eq_true rfl) dX7_stammer_9 ?_
    refine g_if_eq (tgt := 37) dX7_stammer_12 (by decide) (fun hc => ?_) (fun hc => ?_)
    · have hf := ite_t hc hf
      refine g_aload_n dX7_stammer_37 rfl ?_
      refine g_bipush (v := (-2)) dX7_stammer_38 (by decide) ?_
      obtain ⟨r2, hq, hf⟩ := bnd hf
      refine g_cV_I_I (c_X7_refuseBad (r := r2.1) (M1 := r2.2) hq) cv_X7_60 (by decide) (cel_0 _ _ _) rfl ⟨by decide, by decide⟩ (Nat.le_of_ble_eq_true rfl) dX7_stammer_40 ?_
      exact g_iret_w hr hf dX7_stammer_43
    · have hf := ite_f hc hf
      refine g_iload_n dX7_stammer_15 rfl ?_
      refine g_if_lt (tgt := 37) dX7_stammer_16 (by decide) (fun hc => ?_) (fun hc => ?_)
      · have hf := ite_t hc hf
        refine g_aload_n dX7_stammer_37 rfl ?_
        refine g_bipush (v := (-2)) dX7_stammer_38 (by decide) ?_
        obtain ⟨r3, hq, hf⟩ := bnd hf
        refine g_cV_I_I (c_X7_refuseBad (r := r3.1) (M1 := r3.2) hq) cv_X7_60 (by decide) (cel_0 _ _ _) rfl ⟨by decide, by decide⟩ (Nat.le_of_ble_eq_true rfl) dX7_stammer_40 ?_
        exact g_iret_w hr hf dX7_stammer_43
      · have hf := ite_f hc hf
        refine g_iload_n dX7_stammer_19 rfl ?_
        refine g_bipush (v := 10) dX7_stammer_20 (by decide) ?_
        refine g_icmp_gt (tgt := 37) dX7_stammer_22 (by decide) (fun hc => ?_) (fun hc => ?_)
        · have hf := ite_t hc hf
          refine g_aload_n dX7_stammer_37 rfl ?_
          refine g_bipush (v := (-2)) dX7_stammer_38 (by decide) ?_
          obtain ⟨r4, hq, hf⟩ := bnd hf
          refine g_cV_I_I (c_X7_refuseBad (r := r4.1) (M1 := r4.2) hq) cv_X7_60 (by decide) (cel_0 _ _ _) rfl ⟨by decide, by decide⟩ (Nat.le_of_ble_eq_true rfl) dX7_stammer_40 ?_
          exact g_iret_w hr hf dX7_stammer_43
        · have hf := ite_f hc hf
          refine g_iload dX7_stammer_25 rfl ?_
          refine g_if_lt (tgt := 37) dX7_stammer_27 (by decide) (fun hc => ?_) (fun hc => ?_)
          · have hf := ite_t hc hf
            refine g_aload_n dX7_stammer_37 rfl ?_
            refine g_bipush (v := (-2)) dX7_stammer_38 (by decide) ?_
            obtain ⟨r5, hq, hf⟩ := bnd hf
            refine g_cV_I_I (c_X7_refuseBad (r := r5.1) (M1 := r5.2) hq) cv_X7_60 (by decide) (cel_0 _ _ _) rfl ⟨by decide, by decide⟩ (Nat.le_of_ble_eq_true rfl) dX7_stammer_40 ?_
            exact g_iret_w hr hf dX7_stammer_43
          · have hf := ite_f hc hf
            refine g_iload dX7_stammer_30 rfl ?_
            refine g_bipush (v := 24) dX7_stammer_32 (by decide) ?_
            refine g_icmp_le (tgt := 44) dX7_stammer_34 (by decide) (fun hc => ?_) (fun hc => ?_)
            · have hf := ite_t hc hf
              refine g_aload_n dX7_stammer_44 rfl ?_
              refine g_get (kk := 0) (by decide) (cel_0 _ _ _) rfl inX7 fl_X7_10 (by decide) rfl dX7_stammer_45 ?_
              refine g_iload_n dX7_stammer_48 rfl ?_
              refine g_aload_n dX7_stammer_49 rfl ?_
              refine g_get (kk := 0) (by decide) (cel_0 _ _ _) rfl inX7 fl_X7_10 (by decide) rfl dX7_stammer_50 ?_
              refine g_get (kk := 1) (by decide) (cel_1 _ _ _) rfl inX4 fl_X7_109 (by decide) rfl dX7_stammer_53 ?_
              refine g_iload_n dX7_stammer_56 rfl ?_
              obtain ⟨hi, hf⟩ := ck_s hf
              refine g_laload (kk := 6) (by decide) (fun f g => cel_6 _ f g) hi rfl dX7_stammer_57 ?_
              obtain ⟨r6, hq, hf⟩ := bnd hf
              refine g_cV_IJ_J (c_X4_behind_1 hq) cv_X7_154 (by decide) (cel_1 _ _ _) rfl ⟨by decide, by decide⟩ (Nat.le_of_ble_eq_true rfl) dX7_stammer_58 ?_
              refine g_cS_J_I (c_X1_length rfl) cs_X7_112 ⟨by decide, by decide⟩ (Nat.le_of_ble_eq_true rfl) dX7_stammer_61 ?_
              refine g_ist5 dX7_stammer_64 (by decide) lnl_i ?_
              refine g_aload_n dX7_stammer_66 rfl ?_
              refine g_get (kk := 0) (by decide) (cel_0 _ _ _) rfl inX7 fl_X7_44 (by decide) rfl dX7_stammer_67 ?_
              refine g_iload dX7_stammer_70 rfl ?_
              refine g_iload dX7_stammer_72 rfl ?_
              refine g_iload dX7_stammer_74 rfl ?_
              refine g_isub dX7_stammer_76 ?_
              refine g_iload_n dX7_stammer_77 rfl ?_
              refine g_bipush (v := 10) dX7_stammer_78 (by decide) ?_
              obtain ⟨r7, hq, hf⟩ := bnd hf
              refine g_cV_IIII_V (c_X0_setChance hq) cv_X7_216 (by decide) (cel_60 _ _ _) rfl ⟨by decide, by decide⟩ (Nat.le_of_ble_eq_true rfl) dX7_stammer_80 ?_
              refine g_iconst (v := 1) dX7_stammer_83 (by decide) ?_
              exact g_iret_w hr hf dX7_stammer_84
            · have hf := ite_f hc hf
              refine g_aload_n dX7_stammer_37 rfl ?_
              refine g_bipush (v := (-2)) dX7_stammer_38 (by decide) ?_
              obtain ⟨r8, hq, hf⟩ := bnd hf
              refine g_cV_I_I (c_X7_refuseBad (r := r8.1) (M1 := r8.2) hq) cv_X7_60 (by decide) (cel_0 _ _ _) rfl ⟨by decide, by decide⟩ (Nat.le_of_ble_eq_true rfl) dX7_stammer_40 ?_
              exact g_iret_w hr hf dX7_stammer_43
-- X7_isFleet
def f_X7_isFleet (x0 : Int32) (x1 : Int32) : Int32 :=
  if (f_X7_isBelow x0 (1000000 : Int32)) = 0 then ((0 : Int32))
  else (if x1 < 0 then ((0 : Int32))
  else (if (60 : Int32) < x1 then ((0 : Int32))
  else ((1 : Int32))))
set_option maxHeartbeats 4000000 in
set_option maxRecDepth 100000 in
theorem c_X7_isFleet {l : Launch} {x0 : Int32} {x1 : Int32} {M : Mem} {r : Int32} (hf : f_X7_isFleet x0 x1 = r) : Cn l yX7_isFleet cX7_isFleet 2 (some .boolean) 1 21 (fun E => [.int x0, .int x1]) M (some (.int r), M) := by
  unfold f_X7_isFleet at hf
  refine cn_of RX7 (fun E => [some (.int x0), some (.int x1)]) (by decide +kernel) rfl (fun E => Nat.le_of_ble_eq_true rfl) (fun E => rfl) (fun X hr => ?_)
  refine g_iload_n dX7_isFleet_0 rfl ?_
  refine g_ldc_w ct_X7_269 dX7_isFleet_1 ?_
  refine g_cS_II_I (c_X7_isBelow rfl) cs_X7_56 ⟨by decide, by decide⟩ (Nat.le_of_ble_eq_true rfl) dX7_isFleet_4 ?_
  refine g_if_eq (tgt := 24) dX7_isFleet_7 (by decide) (fun hc => ?_) (fun hc => ?_)
  · have hf := ite_t hc hf
    refine g_iconst (v := 0) dX7_isFleet_24 (by decide) ?_
    exact g_zret_t hr (Or.inl rfl) hf dX7_isFleet_25
  · have hf := ite_f hc hf
    refine g_iload_n dX7_isFleet_10 rfl ?_
    refine g_if_lt (tgt := 24) dX7_isFleet_11 (by decide) (fun hc => ?_) (fun hc => ?_)
    · have hf := ite_t hc hf
      refine g_iconst (v := 0) dX7_isFleet_24 (by decide) ?_
      exact g_zret_t hr (Or.inl rfl) hf dX7_isFleet_25
    · have hf := ite_f hc hf
      refine g_iload_n dX7_isFleet_14 rfl ?_
      refine g_bipush (v := 60) dX7_isFleet_15 (by decide) ?_
      refine g_icmp_gt (tgt := 24) dX7_isFleet_17 (by decide) (fun hc => ?_) (fun hc => ?_)
      · have hf := ite_t hc hf
        refine g_iconst (v := 0) dX7_isFleet_24 (by decide) ?_
        exact g_zret_t hr (Or.inl rfl) hf dX7_isFleet_25
      · have hf := ite_f hc hf
        refine g_iconst (v := 1) dX7_isFleet_20 (by decide) ?_
        refine g_goto (tgt := 25) dX7_isFleet_21 (by decide) ?_
        exact g_zret_t hr (Or.inr rfl) hf dX7_isFleet_25
theorem z_X7_isFleet  {x0 : Int32} {x1 : Int32} : f_X7_isFleet x0 x1 = 0 ∨ f_X7_isFleet x0 x1 = 1 := by
  unfold f_X7_isFleet
  first | exact z_X7_isBelow | (repeat' split) <;> first | exact Or.inl rfl | exact Or.inr rfl | exact z_X7_isBelow
-- X4_allSounds_1
def b_X4_allSounds_1_42 (k9 : Int64 → Int32 → Int32 → Option Int32) (M : Mem) (x3 : Int32) (x4 : Int32) (x5 : Int64) (x7 : Int32) (x8 : Int32) (t0 : Int32) : Option Int32 :=
  (f_X4_behind_1 M t0 x5).bind fun r1 =>
  (f_X1_sounds r1).bind fun r2 =>
  k9 r1 (x7 ||| r2) (x8 + (1 : Int32))
set_option maxHeartbeats 4000000 in
set_option maxRecDepth 100000 in
theorem w_X4_allSounds_1_42 {X : Cx} {r : Int32} {M : Mem} {k9 : Int64 → Int32 → Int32 → Option Int32} {x3 : Int32} {x4 : Int32}   {x5 : Int64} {x7 : Int32} {x8 : Int32} {t0 : Int32} (hr : X.meth.sig.returnType = (some .int)) (hk9 : ∀ {x5_ : Int64} {x7_ : Int32} {x8_ : Int32}, k9 x5_ x7_ x8_ = some r → G X (some (.int r), M) RX4 cX4_allSounds 10 5 121 9 [some (.ref (X.1.1 1)), none, none, some (.int x3), some (.int x4), some (.long x5_), none, some (.int x7_), some (.int x8_), none] [] M) (hf : b_X4_allSounds_1_42 k9 M x3 x4 x5 x7 x8 t0 = some r) : G X (some (.int r), M) RX4 cX4_allSounds 10 5 121 42 [some (.ref (X.1.1 1)), none, none, some (.int x3), some (.int x4), some (.long x5), none, some (.int x7), some (.int x8), none] [.int t0] M := by
  unfold b_X4_allSounds_1_42 at hf
  refine g_ist9 dX4_allSounds_42 (by decide) lnl_i ?_
  refine g_aload_n dX4_allSounds_44 rfl ?_
  refine g_iload dX4_allSounds_45 rfl ?_
  refine g_lload dX4_allSounds_47 rfl ?_
  obtain ⟨r1, hq, hf⟩ := bnd hf
  refine g_cV_IJ_J (c_X4_behind_1 hq) cv_X4_76 (by decide) (cel_1 _ _ _) rfl ⟨by decide, by decide⟩ (Nat.le_of_ble_eq_true rfl) dX4_allSounds_49 ?_
  refine g_lst5 dX4_allSounds_52 (by decide) lnl_i ?_
  refine g_iload dX4_allSounds_54 rfl ?_
  refine g_lload dX4_allSounds_56 rfl ?_
  obtain ⟨r2, hq, hf⟩ := bnd hf
  refine g_cS_J_I (c_X1_sounds hq) cs_X4_80 ⟨by decide, by decide⟩ (Nat.le_of_ble_eq_true rfl) dX4_allSounds_58 ?_
  refine g_ior dX4_allSounds_61 ?_
  refine g_ist7 dX4_allSounds_62 (by decide) lnl_n ?_
  refine g_iinc8 (v := (x8 + (1 : Int32))) dX4_allSounds_64 (by decide) lnl_i rfl ?_
  refine g_goto (tgt := 9) dX4_allSounds_67 (by decide) ?_
  exact g_weakr (hk9 hf) (lsk (lsd (lsd (lsk (lsk (lsk (lsd (lsk (lsk (lsd lsz))))))))))
def b_X4_allSounds_1_9  (M : Mem) (x3 : Int32) (x4 : Int32) : Nat → Int64 → Int32 → Int32 → Option Int32
  | 0, _, _, _ => none
  | n + 1, x5, x7, x8 =>
    if (M.1 1 6) ≤ x8 then (some x7)
    else (if x8 = x3 then (b_X4_allSounds_1_42 (fun x5_ x7_ x8_ => b_X4_allSounds_1_9 M x3 x4 n x5_ x7_ x8_) M x3 x4 x5 x7 x8 x4)
    else (if x8 = x4 then (b_X4_allSounds_1_42 (fun x5_ x7_ x8_ => b_X4_allSounds_1_9 M x3 x4 n x5_ x7_ x8_) M x3 x4 x5 x7 x8 x3)
    else (b_X4_allSounds_1_42 (fun x5_ x7_ x8_ => b_X4_allSounds_1_9 M x3 x4 n x5_ x7_ x8_) M x3 x4 x5 x7 x8 x8)))
set_option maxHeartbeats 4000000 in
set_option maxRecDepth 100000 in
theorem w_X4_allSounds_1_9 {X : Cx} {r : Int32} {M : Mem}  {x3 : Int32} {x4 : Int32}   (hr : X.meth.sig.returnType = (some .int)) : ∀ (n : Nat) {x5 : Int64} {x7 : Int32} {x8 : Int32}, b_X4_allSounds_1_9 M x3 x4 n x5 x7 x8 = some r → G X (some (.int r), M) RX4 cX4_allSounds 10 5 121 9 [some (.ref (X.1.1 1)), none, none, some (.int x3), some (.int x4), some (.long x5), none, some (.int x7), some (.int x8), none] [] M := by
  intro n
  induction n with
  | zero => intro x5 x7 x8 hf; cases hf
  | succ n ih =>
    intro x5 x7 x8 hf
    rw [b_X4_allSounds_1_9.eq_2] at hf
    refine g_iload dX4_allSounds_9 rfl ?_
    refine g_aload_n dX4_allSounds_11 rfl ?_
    refine g_get (kk := 1) (by decide) (cel_1 _ _ _) rfl inX4 fl_X4_47 (by decide) rfl dX4_allSounds_12 ?_
    refine g_icmp_ge (tgt := 70) dX4_allSounds_15 (by decide) (fun hc => ?_) (fun hc => ?_)
    · have hf := ite_t hc hf
      refine g_iload dX4_allSounds_70 rfl ?_
      exact g_iret_p hr hf dX4_allSounds_72
    · have hf := ite_f hc hf
      refine g_iload dX4_allSounds_18 rfl ?_
      refine g_iload_n dX4_allSounds_20 rfl ?_
      refine g_icmp_ne (tgt := 29) dX4_allSounds_21 (by decide) (fun hc => ?_) (fun hc => ?_)
      · have hf := ite_f hc hf
        refine g_iload dX4_allSounds_29 rfl ?_
        refine g_iload dX4_allSounds_31 rfl ?_
        refine g_icmp_ne (tgt := 40) dX4_allSounds_33 (by decide) (fun hc => ?_) (fun hc => ?_)
        · have hf := ite_f hc hf
          refine g_iload dX4_allSounds_40 rfl ?_
          exact w_X4_allSounds_1_42 hr (fun hf => ih hf) hf
        · have hf := ite_t hc hf
          refine g_iload_n dX4_allSounds_36 rfl ?_
          refine g_goto (tgt := 42) dX4_allSounds_37 (by decide) ?_
          exact w_X4_allSounds_1_42 hr (fun hf => ih hf) hf
      · have hf := ite_t hc hf
        refine g_iload dX4_allSounds_24 rfl ?_
        refine g_goto (tgt := 42) dX4_allSounds_26 (by decide) ?_
        exact w_X4_allSounds_1_42 hr (fun hf => ih hf) hf
def f_X4_allSounds_1 (M : Mem) (x1 : Int64) (x3 : Int32) (x4 : Int32) : Option Int32 :=
  b_X4_allSounds_1_9 M x3 x4 fu x1 (0 : Int32) (0 : Int32)
set_option maxHeartbeats 4000000 in
set_option maxRecDepth 100000 in
theorem c_X4_allSounds_1 {l : Launch} {x1 : Int64} {x3 : Int32} {x4 : Int32} {M : Mem} {r : Int32} (hf : f_X4_allSounds_1 M x1 x3 x4 = some r) : Cn l yX4_allSounds cX4_allSounds 10 (some .int) 5 121 (fun E => [.ref (E.1 1), .long x1, .int x3, .int x4]) M (some (.int r), M) := by
  unfold f_X4_allSounds_1 at hf
  refine cn_of RX4 (fun E => [some (.ref (E.1 1)), some (.long x1), none, some (.int x3), some (.int x4), none, none, none, none, none]) (by decide +kernel) rfl (fun E => Nat.le_of_ble_eq_true rfl) (fun E => rfl) (fun X hr => ?_)
  refine g_lload_n dX4_allSounds_0 rfl ?_
  refine g_lst5 dX4_allSounds_1 (by decide) lnl_i ?_
  refine g_iconst (v := 0) dX4_allSounds_3 (by decide) ?_
  refine g_ist7 dX4_allSounds_4 (by decide) lnl_n ?_
  refine g_iconst (v := 0) dX4_allSounds_6 (by decide) ?_
  refine g_ist8 dX4_allSounds_7 (by decide) lnl_i ?_
  exact g_weakr (w_X4_allSounds_1_9 hr fu hf) (lsk (lsd (lsd (lsk (lsk (lsk (lsd (lsk (lsk (lsd lsz))))))))))
-- X7_boatsSaying
def b_X7_boatsSaying_57 (k9 : Int64 → Int32 → Int32 → Option Int32)  (x0 : Int32) (x2 : Int32) (x3 : Int64) (x6 : Int32) (t0 : Int32) (t1 : Int32) : Option Int32 :=
  k9 x3 (t1 + t0) (x6 + (1 : Int32))
set_option maxHeartbeats 4000000 in
set_option maxRecDepth 100000 in
theorem w_X7_boatsSaying_57 {X : Cx} {r : Int32} {M : Mem} {k9 : Int64 → Int32 → Int32 → Option Int32} {x0 : Int32} {x2 : Int32}   {x3 : Int64} {x6 : Int32} {t0 : Int32} {t1 : Int32} (hr : X.meth.sig.returnType = (some .int)) (hk9 : ∀ {x3_ : Int64} {x5_ : Int32} {x6_ : Int32}, k9 x3_ x5_ x6_ = some r → G X (some (.int r), M) RX7 cX7_boatsSaying 8 1 21 9 [some (.int x0), none, some (.int x2), some (.long x3_), none, some (.int x5_), some (.int x6_), none] [] M) (hf : b_X7_boatsSaying_57 k9 x0 x2 x3 x6 t0 t1 = some r) : G X (some (.int r), M) RX7 cX7_boatsSaying 8 1 21 57 [some (.int x0), none, some (.int x2), some (.long x3), none, none, some (.int x6), none] [.int t0, .int t1] M := by
  unfold b_X7_boatsSaying_57 at hf
  refine g_iadd dX7_boatsSaying_57 ?_
  refine g_ist5 dX7_boatsSaying_58 (by decide) lnl_n ?_
  refine g_iinc6 (v := (x6 + (1 : Int32))) dX7_boatsSaying_60 (by decide) lnl_i rfl ?_
  refine g_goto (tgt := 9) dX7_boatsSaying_63 (by decide) ?_
  exact hk9 hf
def b_X7_boatsSaying_9   (x0 : Int32) (x2 : Int32) : Nat → Int64 → Int32 → Int32 → Option Int32
  | 0, _, _, _ => none
  | n + 1, x3, x5, x6 =>
    if x2 ≤ x6 then (some x5)
    else (if (f_X7_canSay (((((x3 * (1103515245 : Int64)) + (12345 : Int64)) - ((x3 * (1103515245 : Int64)) + (12345 : Int64)) / (2147483648 : Int64) * (2147483648 : Int64)) / (32768 : Int64)) - ((((x3 * (1103515245 : Int64)) + (12345 : Int64)) - ((x3 * (1103515245 : Int64)) + (12345 : Int64)) / (2147483648 : Int64) * (2147483648 : Int64)) / (32768 : Int64)) / (65536 : Int64) * (65536 : Int64)).toInt32 x0) = 0 then (b_X7_boatsSaying_57 (fun x3_ x5_ x6_ => b_X7_boatsSaying_9 x0 x2 n x3_ x5_ x6_) x0 x2 (((x3 * (1103515245 : Int64)) + (12345 : Int64)) - ((x3 * (1103515245 : Int64)) + (12345 : Int64)) / (2147483648 : Int64) * (2147483648 : Int64)) x6 (0 : Int32) x5)
    else (b_X7_boatsSaying_57 (fun x3_ x5_ x6_ => b_X7_boatsSaying_9 x0 x2 n x3_ x5_ x6_) x0 x2 (((x3 * (1103515245 : Int64)) + (12345 : Int64)) - ((x3 * (1103515245 : Int64)) + (12345 : Int64)) / (2147483648 : Int64) * (2147483648 : Int64)) x6 (1 : Int32) x5))
set_option maxHeartbeats 4000000 in
set_option maxRecDepth 100000 in
theorem w_X7_boatsSaying_9 {X : Cx} {r : Int32} {M : Mem}  {x0 : Int32} {x2 : Int32}   (hr : X.meth.sig.returnType = (some .int)) : ∀ (n : Nat) {x3 : Int64} {x5 : Int32} {x6 : Int32}, b_X7_boatsSaying_9 x0 x2 n x3 x5 x6 = some r → G X (some (.int r), M) RX7 cX7_boatsSaying 8 1 21 9 [some (.int x0), none, some (.int x2), some (.long x3), none, some (.int x5), some (.int x6), none] [] M := by
  intro n
  induction n with
  | zero => intro x3 x5 x6 hf; cases hf
  | succ n ih =>
    intro x3 x5 x6 hf
    rw [b_X7_boatsSaying_9.eq_2] at hf
    refine g_iload dX7_boatsSaying_9 rfl ?_
    refine g_iload_n dX7_boatsSaying_11 rfl ?_
    refine g_icmp_ge (tgt := 66) dX7_boatsSaying_12 (by decide) (fun hc => ?_) (fun hc => ?_)
    · have hf := ite_t hc hf
      refine g_iload dX7_boatsSaying_66 rfl ?_
      exact g_iret_p hr hf dX7_boatsSaying_68
    · have hf := ite_f hc hf
      refine g_lload_n dX7_boatsSaying_15 rfl ?_
      refine g_ldc2 cl_X7_273 dX7_boatsSaying_16 ?_
      refine g_lmul dX7_boatsSaying_19 ?_
      refine g_ldc2 cl_X7_275 dX7_boatsSaying_20 ?_
      refine g_ladd dX7_boatsSaying_23 ?_
      refine g_ldc2 cl_X7_277 dX7_boatsSaying_24 ?_
      refine g_lrem dX7_boatsSaying_27 (by decide) ?_
      refine g_lst3 dX7_boatsSaying_28 (by decide) lnl_i ?_
      refine g_lload_n dX7_boatsSaying_29 rfl ?_
      refine g_ldc2 cl_X7_279 dX7_boatsSaying_30 ?_
      refine g_ldiv dX7_boatsSaying_33 (by decide) ?_
      refine g_ldc2 cl_X7_281 dX7_boatsSaying_34 ?_
      refine g_lrem dX7_boatsSaying_37 (by decide) ?_
      refine g_l2i dX7_boatsSaying_38 ?_
      refine g_ist7 dX7_boatsSaying_39 (by decide) lnl_i ?_
      refine g_iload dX7_boatsSaying_41 rfl ?_
      refine g_iload dX7_boatsSaying_43 rfl ?_
      refine g_iload_n dX7_boatsSaying_45 rfl ?_
      refine g_cS_II_I (c_X7_canSay rfl) cs_X7_162 ⟨by decide, by decide⟩ (Nat.le_of_ble_eq_true rfl) dX7_boatsSaying_46 ?_
      refine g_if_eq (tgt := 56) dX7_boatsSaying_49 (by decide) (fun hc => ?_) (fun hc => ?_)
      · have hf := ite_t hc hf
        refine g_iconst (v := 0) dX7_boatsSaying_56 (by decide) ?_
        exact g_weakr (w_X7_boatsSaying_57 hr (fun hf => ih hf) hf) (lsk (lsd (lsk (lsk (lsd (lsd (lsk (lsd lsz))))))))
      · have hf := ite_f hc hf
        refine g_iconst (v := 1) dX7_boatsSaying_52 (by decide) ?_
        refine g_goto (tgt := 57) dX7_boatsSaying_53 (by decide) ?_
        exact g_weakr (w_X7_boatsSaying_57 hr (fun hf => ih hf) hf) (lsk (lsd (lsk (lsk (lsd (lsd (lsk (lsd lsz))))))))
def f_X7_boatsSaying (x0 : Int32) (x1 : Int32) (x2 : Int32) : Option Int32 :=
  b_X7_boatsSaying_9 x0 x2 fu x1.toInt64 (0 : Int32) (0 : Int32)
set_option maxHeartbeats 4000000 in
set_option maxRecDepth 100000 in
theorem c_X7_boatsSaying {l : Launch} {x0 : Int32} {x1 : Int32} {x2 : Int32} {M : Mem} {r : Int32} (hf : f_X7_boatsSaying x0 x1 x2 = some r) : Cn l yX7_boatsSaying cX7_boatsSaying 8 (some .int) 1 21 (fun E => [.int x0, .int x1, .int x2]) M (some (.int r), M) := by
  unfold f_X7_boatsSaying at hf
  refine cn_of RX7 (fun E => [some (.int x0), some (.int x1), some (.int x2), none, none, none, none, none]) (by decide +kernel) rfl (fun E => Nat.le_of_ble_eq_true rfl) (fun E => rfl) (fun X hr => ?_)
  refine g_iload_n dX7_boatsSaying_0 rfl ?_
  refine g_i2l dX7_boatsSaying_1 ?_
  refine g_lst3 dX7_boatsSaying_2 (by decide) lnl_i ?_
  refine g_iconst (v := 0) dX7_boatsSaying_3 (by decide) ?_
  refine g_ist5 dX7_boatsSaying_4 (by decide) lnl_n ?_
  refine g_iconst (v := 0) dX7_boatsSaying_6 (by decide) ?_
  refine g_ist6 dX7_boatsSaying_7 (by decide) lnl_i ?_
  exact g_weakr (w_X7_boatsSaying_9 hr fu hf) (lsk (lsd (lsk (lsk (lsd (lsk (lsk (lsd lsz))))))))
-- X7_boats
def f_X7_boats (x1 : Int32) (x2 : Int32) (x3 : Int32) (M : Mem) : Option (Int32 × Mem) :=
  if (f_X7_isRow x1) = 0 then ((f_X7_refuseBad (-2 : Int32) M).bind fun r1 =>
  some (r1.1, r1.2))
  else (if (f_X7_isFleet x2 x3) = 0 then ((f_X7_refuseBad (-2 : Int32) M).bind fun r4 =>
  some (r4.1, r4.2))
  else (ck x1 4 <|
  (f_X4_allSounds_1 M (M.2 6 x1.toNatClampNeg) (0 : Int32) (0 : Int32)).bind fun r2 =>
  (f_X7_boatsSaying r2 x2 x3).bind fun r3 =>
  some (r3, M)))
set_option maxHeartbeats 4000000 in
set_option maxRecDepth 100000 in
theorem c_X7_boats {l : Launch} {x1 : Int32} {x2 : Int32} {x3 : Int32} {M : Mem} {r : Int32} {M1 : Mem} (hf : f_X7_boats x1 x2 x3 M = some (r, M1)) : Cn l yX7_boats cX7_boats 4 (some .int) 6 150 (fun E => [.ref (E.1 0), .int x1, .int x2, .int x3]) M (some (.int r), M1) := by
  unfold f_X7_boats at hf
  refine cn_of RX7 (fun E => [some (.ref (E.1 0)), some (.int x1), some (.int x2), some (.int x3)]) (by decide +kernel) rfl (fun E => Nat.le_of_ble_eq_true rfl) (fun E => rfl) (fun X hr => ?_)
  refine g_iload_n dX7_boats_0 rfl ?_
  refine g_cS_I_I (c_X7_isRow rfl) cs_X7_106 ⟨by decide, by decide⟩ (Nat.le_of_ble_eq_true rfl) dX7_boats_1 ?_
  refine g_if_eq (tgt := 15) dX7_boats_4 (by decide) (fun hc => ?_) (fun hc => ?_)
  · have hf := ite_t hc hf
    refine g_aload_n dX7_boats_15 rfl ?_
    refine g_bipush (v := (-2)) dX7_boats_16 (by decide) ?_
    obtain ⟨r1, hq, hf⟩ := bnd hf
    refine g_cV_I_I (c_X7_refuseBad (r := r1.1) (M1 := r1.2) hq) cv_X7_60 (by decide) (cel_0 _ _ _) rfl ⟨by decide, by decide⟩ (Nat.le_of_ble_eq_true rfl) dX7_boats_18 ?_
    exact g_iret_w hr hf dX7_boats_21
  · have hf := ite_f hc hf
    refine g_iload_n dX7_boats_7 rfl ?_
    refine g_iload_n dX7_boats_8 rfl ?_
    refine g_cS_II_I (c_X7_isFleet rfl) cs_X7_220 ⟨by decide, by decide⟩ (Nat.le_of_ble_eq_true rfl) dX7_boats_9 ?_
    refine g_if_ne (tgt := 22) dX7_boats_12 (by decide) (fun hc => ?_) (fun hc => ?_)
    · have hf := ite_f hc hf
      refine g_aload_n dX7_boats_22 rfl ?_
      refine g_get (kk := 0) (by decide) (cel_0 _ _ _) rfl inX7 fl_X7_10 (by decide) rfl dX7_boats_23 ?_
      refine g_aload_n dX7_boats_26 rfl ?_
      refine g_get (kk := 0) (by decide) (cel_0 _ _ _) rfl inX7 fl_X7_10 (by decide) rfl dX7_boats_27 ?_
      refine g_get (kk := 1) (by decide) (cel_1 _ _ _) rfl inX4 fl_X7_109 (by decide) rfl dX7_boats_30 ?_
      refine g_iload_n dX7_boats_33 rfl ?_
      obtain ⟨hi, hf⟩ := ck_s hf
      refine g_laload (kk := 6) (by decide) (fun f g => cel_6 _ f g) hi rfl dX7_boats_34 ?_
      refine g_iconst (v := 0) dX7_boats_35 (by decide) ?_
      refine g_iconst (v := 0) dX7_boats_36 (by decide) ?_
      obtain ⟨r2, hq, hf⟩ := bnd hf
      refine g_cV_JII_I (c_X4_allSounds_1 hq) cv_X7_223 (by decide) (cel_1 _ _ _) rfl ⟨by decide, by decide⟩ (Nat.le_of_ble_eq_true rfl) dX7_boats_37 ?_
      refine g_iload_n dX7_boats_40 rfl ?_
      refine g_iload_n dX7_boats_41 rfl ?_
      obtain ⟨r3, hq, hf⟩ := bnd hf
      refine g_cS_III_I (c_X7_boatsSaying hq) cs_X7_227 ⟨by decide, by decide⟩ (Nat.le_of_ble_eq_true rfl) dX7_boats_42 ?_
      exact g_iret_w hr hf dX7_boats_45
    · have hf := ite_t hc hf
      refine g_aload_n dX7_boats_15 rfl ?_
      refine g_bipush (v := (-2)) dX7_boats_16 (by decide) ?_
      obtain ⟨r4, hq, hf⟩ := bnd hf
      refine g_cV_I_I (c_X7_refuseBad (r := r4.1) (M1 := r4.2) hq) cv_X7_60 (by decide) (cel_0 _ _ _) rfl ⟨by decide, by decide⟩ (Nat.le_of_ble_eq_true rfl) dX7_boats_18 ?_
      exact g_iret_w hr hf dX7_boats_21
-- X7_flood
def f_X7_flood (x1 : Int32) (x2 : Int32) (x3 : Int32) (x4 : Int32) (x5 : Int32) (M : Mem) : Option (Int32 × Mem) :=
  if (f_X7_isRow x1) = 0 then ((f_X7_refuseBad (-100 : Int32) M).bind fun r1 =>
  some (r1.1, r1.2))
  else (if (f_X7_isFleet x2 x3) = 0 then ((f_X7_refuseBad (-100 : Int32) M).bind fun r2 =>
  some (r2.1, r2.2))
  else (if (f_X7_isBridge M x4) = 0 then ((f_X7_refuseBad (-100 : Int32) M).bind fun r3 =>
  some (r3.1, r3.2))
  else (if (f_X7_isBridge M x5) = 0 then ((f_X7_refuseBad (-100 : Int32) M).bind fun r8 =>
  some (r8.1, r8.2))
  else (ck x1 4 <|
  (f_X4_allSounds_1 M (M.2 6 x1.toNatClampNeg) (0 : Int32) (0 : Int32)).bind fun r4 =>
  (f_X7_boatsSaying r4 x2 x3).bind fun r5 =>
  ck x1 4 <|
  (f_X4_allSounds_1 M (M.2 6 x1.toNatClampNeg) x4 x5).bind fun r6 =>
  (f_X7_boatsSaying r6 x2 x3).bind fun r7 =>
  some ((r7 - r5), M)))))
set_option maxHeartbeats 4000000 in
set_option maxRecDepth 100000 in
theorem c_X7_flood {l : Launch} {x1 : Int32} {x2 : Int32} {x3 : Int32} {x4 : Int32} {x5 : Int32} {M : Mem} {r : Int32} {M1 : Mem} (hf : f_X7_flood x1 x2 x3 x4 x5 M = some (r, M1)) : Cn l yX7_flood cX7_flood 8 (some .int) 6 150 (fun E => [.ref (E.1 0), .int x1, .int x2, .int x3, .int x4, .int x5]) M (some (.int r), M1) := by
  unfold f_X7_flood at hf
  refine cn_of RX7 (fun E => [some (.ref (E.1 0)), some (.int x1), some (.int x2), some (.int x3), some (.int x4), some (.int x5), none, none]) (by decide +kernel) rfl (fun E => Nat.le_of_ble_eq_true rfl) (fun E => rfl) (fun X hr => ?_)
  refine g_iload_n dX7_flood_0 rfl ?_
  refine g_cS_I_I (c_X7_isRow rfl) cs_X7_106 ⟨by decide, by decide⟩ (Nat.le_of_ble_eq_true rfl) dX7_flood_1 ?_
  refine g_if_eq (tgt := 33) dX7_flood_4 (by decide) (fun hc => ?_) (fun hc => ?_)
  · have hf := ite_t hc hf
    refine g_aload_n dX7_flood_33 rfl ?_
    refine g_bipush (v := (-100)) dX7_flood_34 (by decide) ?_
    obtain ⟨r1, hq, hf⟩ := bnd hf
    refine g_cV_I_I (c_X7_refuseBad (r := r1.1) (M1 := r1.2) hq) cv_X7_60 (by decide) (cel_0 _ _ _) rfl ⟨by decide, by decide⟩ (Nat.le_of_ble_eq_true rfl) dX7_flood_36 ?_
    exact g_iret_w hr hf dX7_flood_39
  · have hf := ite_f hc hf
    refine g_iload_n dX7_flood_7 rfl ?_
    refine g_iload_n dX7_flood_8 rfl ?_
    refine g_cS_II_I (c_X7_isFleet rfl) cs_X7_220 ⟨by decide, by decide⟩ (Nat.le_of_ble_eq_true rfl) dX7_flood_9 ?_
    refine g_if_eq (tgt := 33) dX7_flood_12 (by decide) (fun hc => ?_) (fun hc => ?_)
    · have hf := ite_t hc hf
      refine g_aload_n dX7_flood_33 rfl ?_
      refine g_bipush (v := (-100)) dX7_flood_34 (by decide) ?_
      obtain ⟨r2, hq, hf⟩ := bnd hf
      refine g_cV_I_I (c_X7_refuseBad (r := r2.1) (M1 := r2.2) hq) cv_X7_60 (by decide) (cel_0 _ _ _) rfl ⟨by decide, by decide⟩ (Nat.le_of_ble_eq_true rfl) dX7_flood_36 ?_
      exact g_iret_w hr hf dX7_flood_39
    · have hf := ite_f hc hf
      refine g_aload_n dX7_flood_15 rfl ?_
      refine g_iload dX7_flood_16 rfl ?_
      refine g_cV_I_I (c_X7_isBridge rfl) cv_X7_83 (by decide) (cel_0 _ _ _) rfl ⟨by decide, by decide⟩ (Nat.le_of_ble_eq_true rfl) dX7_flood_18 ?_
      refine g_if_eq (tgt := 33) dX7_flood_21 (by decide) (fun hc => ?_) (fun hc => ?_)
      · have hf := ite_t hc hf
        refine g_aload_n dX7_flood_33 rfl ?_
        refine g_bipush (v := (-100)) dX7_flood_34 (by decide) ?_
        obtain ⟨r3, hq, hf⟩ := bnd hf
        refine g_cV_I_I (c_X7_refuseBad (r := r3.1) (M1 := r3.2) hq) cv_X7_60 (by decide) (cel_0 _ _ _) rfl ⟨by decide, by decide⟩ (Nat.le_of_ble_eq_true rfl) dX7_flood_36 ?_
        exact g_iret_w hr hf dX7_flood_39
      · have hf := ite_f hc hf
        refine g_aload_n dX7_flood_24 rfl ?_
        refine g_iload dX7_flood_25 rfl ?_
        refine g_cV_I_I (c_X7_isBridge rfl) cv_X7_83 (by decide) (cel_0 _ _ _) rfl ⟨by decide, by decide⟩ (Nat.le_of_ble_eq_true rfl) dX7_flood_27 ?_
        refine g_if_ne (tgt := 40) dX7_flood_30 (by decide) (fun hc => ?_) (fun hc => ?_)
        · have hf := ite_f hc hf
          refine g_aload_n dX7_flood_40 rfl ?_
          refine g_get (kk := 0) (by decide) (cel_0 _ _ _) rfl inX7 fl_X7_10 (by decide) rfl dX7_flood_41 ?_
          refine g_aload_n dX7_flood_44 rfl ?_
          refine g_get (kk := 0) (by decide) (cel_0 _ _ _) rfl inX7 fl_X7_10 (by decide) rfl dX7_flood_45 ?_
          refine g_get (kk := 1) (by decide) (cel_1 _ _ _) rfl inX4 fl_X7_109 (by decide) rfl dX7_flood_48 ?_
          refine g_iload_n dX7_flood_51 rfl ?_
          obtain ⟨hi, hf⟩ := ck_s hf
          refine g_laload (kk := 6) (by decide) (fun f g => cel_6 _ f g) hi rfl dX7_flood_52 ?_
          refine g_iconst (v := 0) dX7_flood_53 (by decide) ?_
          refine g_iconst (v := 0) dX7_flood_54 (by decide) ?_
          obtain ⟨r4, hq, hf⟩ := bnd hf
          refine g_cV_JII_I (c_X4_allSounds_1 hq) cv_X7_223 (by decide) (cel_1 _ _ _) rfl ⟨by decide, by decide⟩ (Nat.le_of_ble_eq_true rfl) dX7_flood_55 ?_
          refine g_iload_n dX7_flood_58 rfl ?_
          refine g_iload_n dX7_flood_59 rfl ?_
          obtain ⟨r5, hq, hf⟩ := bnd hf
          refine g_cS_III_I (c_X7_boatsSaying hq) cs_X7_227 ⟨by decide, by decide⟩ (Nat.le_of_ble_eq_true rfl) dX7_flood_60 ?_
          refine g_ist6 dX7_flood_63 (by decide) lnl_i ?_
          refine g_aload_n dX7_flood_65 rfl ?_
          refine g_get (kk := 0) (by decide) (cel_0 _ _ _) rfl inX7 fl_X7_10 (by decide) rfl dX7_flood_66 ?_
          refine g_aload_n dX7_flood_69 rfl ?_
          refine g_get (kk := 0) (by decide) (cel_0 _ _ _) rfl inX7 fl_X7_10 (by decide) rfl dX7_flood_70 ?_
          refine g_get (kk := 1) (by decide) (cel_1 _ _ _) rfl inX4 fl_X7_109 (by decide) rfl dX7_flood_73 ?_
          refine g_iload_n dX7_flood_76 rfl ?_
          obtain ⟨hi, hf⟩ := ck_s hf
          refine g_laload (kk := 6) (by decide) (fun f g => cel_6 _ f g) hi rfl dX7_flood_77 ?_
          refine g_iload dX7_flood_78 rfl ?_
          refine g_iload dX7_flood_80 rfl ?_
          obtain ⟨r6, hq, hf⟩ := bnd hf
          refine g_cV_JII_I (c_X4_allSounds_1 hq) cv_X7_223 (by decide) (cel_1 _ _ _) rfl ⟨by decide, by decide⟩ (Nat.le_of_ble_eq_true rfl) dX7_flood_82 ?_
          refine g_iload_n dX7_flood_85 rfl ?_
          refine g_iload_n dX7_flood_86 rfl ?_
          obtain ⟨r7, hq, hf⟩ := bnd hf
          refine g_cS_III_I (c_X7_boatsSaying hq) cs_X7_227 ⟨by decide, by decide⟩ (Nat.le_of_ble_eq_true rfl) dX7_flood_87 ?_
          refine g_ist7 dX7_flood_90 (by decide) lnl_i ?_
          refine g_iload dX7_flood_92 rfl ?_
          refine g_iload dX7_flood_94 rfl ?_
          refine g_isub dX7_flood_96 ?_
          exact g_iret_w hr hf dX7_flood_97
        · have hf := ite_t hc hf
          refine g_aload_n dX7_flood_33 rfl ?_
          refine g_bipush (v := (-100)) dX7_flood_34 (by decide) ?_
          obtain ⟨r8, hq, hf⟩ := bnd hf
          refine g_cV_I_I (c_X7_refuseBad (r := r8.1) (M1 := r8.2) hq) cv_X7_60 (by decide) (cel_0 _ _ _) rfl ⟨by decide, by decide⟩ (Nat.le_of_ble_eq_true rfl) dX7_flood_36 ?_
          exact g_iret_w hr hf dX7_flood_39
-- X7_part
def f_X7_part (x1 : Int32) (M : Mem) : Option (Int64 × Mem) :=
  if x1 = 0 then (some ((M.2 60 0), M))
  else if x1 = 1 then (some ((M.2 60 1), M))
  else ((f_X7_refuseBad (-2 : Int32) M).bind fun r1 =>
  some (r1.1.toInt64, r1.2))
set_option maxHeartbeats 4000000 in
set_option maxRecDepth 100000 in
theorem c_X7_part {l : Launch} {x1 : Int32} {M : Mem} {r : Int64} {M1 : Mem} (hf : f_X7_part x1 M = some (r, M1)) : Cn l yX7_part cX7_part 2 (some .long) 1 21 (fun E => [.ref (E.1 0), .int x1]) M (some (.long r), M1) := by
  unfold f_X7_part at hf
  refine cn_of RX7 (fun E => [some (.ref (E.1 0)), some (.int x1)]) (by decide +kernel) rfl (fun E => Nat.le_of_ble_eq_true rfl) (fun E => rfl) (fun X hr => ?_)
  refine g_iload_n dX7_part_0 rfl ?_
  by_cases h0 : x1 = 0
  · have hf := ite_t h0 hf
    refine g_look (off := 27) (tgt := 28) dX7_part_1 (by decide) (by rw [h0]; first | done | rfl) (by decide) ?_
    refine g_aload_n dX7_part_28 rfl ?_
    refine g_get (kk := 0) (by decide) (cel_0 _ _ _) rfl inX7 fl_X7_44 (by decide) rfl dX7_part_29 ?_
    refine g_get (kk := 60) (by decide) (cel_60 _ _ _) rfl inX0 fl_X7_230 (by decide) rfl dX7_part_32 ?_
    exact g_lret_w hr hf dX7_part_35
  have hf := ite_f h0 hf
  by_cases h1 : x1 = 1
  · have hf := ite_t h1 hf
    refine g_look (off := 35) (tgt := 36) dX7_part_1 (by decide) (by rw [h1]; first | done | rfl) (by decide) ?_
    refine g_aload_n dX7_part_36 rfl ?_
    refine g_get (kk := 0) (by decide) (cel_0 _ _ _) rfl inX7 fl_X7_44 (by decide) rfl dX7_part_37 ?_
    refine g_get (kk := 60) (by decide) (cel_60 _ _ _) rfl inX0 fl_X7_234 (by decide) rfl dX7_part_40 ?_
    exact g_lret_w hr hf dX7_part_43
  have hf := ite_f h1 hf
  refine g_look (off := 43) (tgt := 44) dX7_part_1 (by decide) ((lv_osw h0 (by decide)).trans ((lv_osw h1 (by decide)).trans rfl)) (by decide) ?_
  refine g_aload_n dX7_part_44 rfl ?_
  refine g_bipush (v := (-2)) dX7_part_45 (by decide) ?_
  obtain ⟨r1, hq, hf⟩ := bnd hf
  refine g_cV_I_I (c_X7_refuseBad (r := r1.1) (M1 := r1.2) hq) cv_X7_60 (by decide) (cel_0 _ _ _) rfl ⟨by decide, by decide⟩ (Nat.le_of_ble_eq_true rfl) dX7_part_47 ?_
  refine g_i2l dX7_part_50 ?_
  exact g_lret_w hr hf dX7_part_51
-- X2_copyOf_33_7
def f_X2_copyOf_33_7  (M : Mem) : Option Mem :=
  let M1 := rI M 34 (va_cpy (M.1 8) (M.1 34) 0 0 8)
  let M2 := rI M1 35 (va_cpy (M1.1 9) (M1.1 35) 0 0 8)
  let M3 := rL M2 36 (va_cpy (M2.2 10) (M2.2 36) 0 0 8)
  let M4 := rL M3 37 (va_cpy (M3.2 11) (M3.2 37) 0 0 8)
  let M5 := mI M4 33 4 (M4.1 7 4)
  some M5
set_option maxHeartbeats 4000000 in
set_option maxRecDepth 100000 in
theorem c_X2_copyOf_33_7 {l : Launch}  {M : Mem} {M1 : Mem} (hf : f_X2_copyOf_33_7 M = some M1) : Cn l yX2_copyOf cX2_copyOf 2 none 1 60 (fun E => [.ref (E.1 33), .ref (E.1 7)]) M (none, M1) := by
  unfold f_X2_copyOf_33_7 at hf
  refine cn_of RX2 (fun E => [some (.ref (E.1 33)), some (.ref (E.1 7))]) (by decide +kernel) rfl (fun E => Nat.le_of_ble_eq_true rfl) (fun E => rfl) (fun X hr => ?_)
  refine g_aload_n dX2_copyOf_0 rfl ?_
  refine g_get (kk := 7) (by decide) (cel_7 _ _ _) rfl inX2 fl_X2_9 (by decide) rfl dX2_copyOf_1 ?_
  refine g_iconst (v := 0) dX2_copyOf_4 (by decide) ?_
  refine g_aload_n dX2_copyOf_5 rfl ?_
  refine g_get (kk := 33) (by decide) (cel_33 _ _ _) rfl inX2 fl_X2_9 (by decide) rfl dX2_copyOf_6 ?_
  refine g_iconst (v := 0) dX2_copyOf_9 (by decide) ?_
  refine g_bipush (v := 8) dX2_copyOf_10 (by decide) ?_
  refine g_copyI (k0 := 8) (k1 := 34) ac_X2_29 ac_nat ac_st ac_in (by decide) (fun f g => cel_8 _ f g) (by decide) (fun f g => cel_34 _ f g) (by decide) (by decide) (by decide) (by decide) (by decide) (by decide) (by decide) dX2_copyOf_12 ?_
  refine g_aload_n dX2_copyOf_15 rfl ?_
  refine g_get (kk := 7) (by decide) (cel_7 _ _ _) rfl inX2 fl_X2_15 (by decide) rfl dX2_copyOf_16 ?_
  refine g_iconst (v := 0) dX2_copyOf_19 (by decide) ?_
  refine g_aload_n dX2_copyOf_20 rfl ?_
  refine g_get (kk := 33) (by decide) (cel_33 _ _ _) rfl inX2 fl_X2_15 (by decide) rfl dX2_copyOf_21 ?_
  refine g_iconst (v := 0) dX2_copyOf_24 (by decide) ?_
  refine g_bipush (v := 8) dX2_copyOf_25 (by decide) ?_
  refine g_copyI (k0 := 9) (k1 := 35) ac_X2_29 ac_nat ac_st ac_in (by decide) (fun f g => cel_9 _ f g) (by decide) (fun f g => cel_35 _ f g) (by decide) (by decide) (by decide) (by decide) (by decide) (by decide) (by decide) dX2_copyOf_27 ?_
  refine g_aload_n dX2_copyOf_30 rfl ?_
  refine g_get (kk := 7) (by decide) (cel_7 _ _ _) rfl inX2 fl_X2_18 (by decide) rfl dX2_copyOf_31 ?_
  refine g_iconst (v := 0) dX2_copyOf_34 (by decide) ?_
  refine g_aload_n dX2_copyOf_35 rfl ?_
  refine g_get (kk := 33) (by decide) (cel_33 _ _ _) rfl inX2 fl_X2_18 (by decide) rfl dX2_copyOf_36 ?_
  refine g_iconst (v := 0) dX2_copyOf_39 (by decide) ?_
  refine g_bipush (v := 8) dX2_copyOf_40 (by decide) ?_
  refine g_copyL (k0 := 10) (k1 := 36) ac_X2_29 ac_nat ac_st ac_in (by decide) (fun f g => cel_10 _ f g) (by decide) (fun f g => cel_36 _ f g) (by decide) (by decide) (by decide) (by decide) (by decide) (by decide) (by decide) dX2_copyOf_42 ?_
  refine g_aload_n dX2_copyOf_45 rfl ?_
  refine g_get (kk := 7) (by decide) (cel_7 _ _ _) rfl inX2 fl_X2_22 (by decide) rfl dX2_copyOf_46 ?_
  refine g_iconst (v := 0) dX2_copyOf_49 (by decide) ?_
  refine g_aload_n dX2_copyOf_50 rfl ?_
  refine g_get (kk := 33) (by decide) (cel_33 _ _ _) rfl inX2 fl_X2_22 (by decide) rfl dX2_copyOf_51 ?_
  refine g_iconst (v := 0) dX2_copyOf_54 (by decide) ?_
  refine g_bipush (v := 8) dX2_copyOf_55 (by decide) ?_
  refine g_copyL (k0 := 11) (k1 := 37) ac_X2_29 ac_nat ac_st ac_in (by decide) (fun f g => cel_11 _ f g) (by decide) (fun f g => cel_37 _ f g) (by decide) (by decide) (by decide) (by decide) (by decide) (by decide) (by decide) dX2_copyOf_57 ?_
  refine g_aload_n dX2_copyOf_60 rfl ?_
  refine g_aload_n dX2_copyOf_61 rfl ?_
  refine g_get (kk := 7) (by decide) (cel_7 _ _ _) rfl inX2 fl_X2_25 (by decide) rfl dX2_copyOf_62 ?_
  refine g_putI (kk := 33) (by decide) (cel_33 _ _ _) (pI_33_4 _ _ _ _) rfl inX2 tyX2_ok nmX2 fl_X2_25 (by decide) (Nat.le_of_ble_eq_true rfl) rfl (by decide +kernel) dX2_copyOf_65 ?_
  exact g_vret_w hr hf dX2_copyOf_68
-- X4_copyOf_27_1
def f_X4_copyOf_27_1  (M : Mem) : Option Mem :=
  let M1 := rI M 28 (va_cpy (M.1 2) (M.1 28) 0 0 8)
  let M2 := rI M1 29 (va_cpy (M1.1 3) (M1.1 29) 0 0 8)
  let M3 := rI M2 30 (va_cpy (M2.1 4) (M2.1 30) 0 0 8)
  let M4 := rI M3 31 (va_cpy (M3.1 5) (M3.1 31) 0 0 8)
  let M5 := rL M4 32 (va_cpy (M4.2 6) (M4.2 32) 0 0 4)
  (f_X2_copyOf_33_7 M5).bind fun r6 =>
  let M7 := mI r6 27 6 (r6.1 1 6)
  let M8 := mI M7 27 7 (M7.1 1 7)
  let M9 := mI M8 27 8 (M8.1 1 8)
  let M10 := rI M9 38 (va_cpy (M9.1 12) (M9.1 38) 0 0 8)
  let M11 := rI M10 39 (va_cpy (M10.1 13) (M10.1 39) 0 0 8)
  some M11
set_option maxHeartbeats 4000000 in
set_option maxRecDepth 100000 in
theorem c_X4_copyOf_27_1 {l : Launch}  {M : Mem} {M1 : Mem} (hf : f_X4_copyOf_27_1 M = some M1) : Cn l yX4_copyOf cX4_copyOf 2 none 2 81 (fun E => [.ref (E.1 27), .ref (E.1 1)]) M (none, M1) := by
  unfold f_X4_copyOf_27_1 at hf
  refine cn_of RX4 (fun E => [some (.ref (E.1 27)), some (.ref (E.1 1))]) (by decide +kernel) rfl (fun E => Nat.le_of_ble_eq_true rfl) (fun E => rfl) (fun X hr => ?_)
  refine g_aload_n dX4_copyOf_0 rfl ?_
  refine g_get (kk := 1) (by decide) (cel_1 _ _ _) rfl inX4 fl_X4_9 (by decide) rfl dX4_copyOf_1 ?_
  refine g_iconst (v := 0) dX4_copyOf_4 (by decide) ?_
  refine g_aload_n dX4_copyOf_5 rfl ?_
  refine g_get (kk := 27) (by decide) (cel_27 _ _ _) rfl inX4 fl_X4_9 (by decide) rfl dX4_copyOf_6 ?_
  refine g_iconst (v := 0) dX4_copyOf_9 (by decide) ?_
  refine g_bipush (v := 8) dX4_copyOf_10 (by decide) ?_
  refine g_copyI (k0 := 2) (k1 := 28) ac_X4_56 ac_nat ac_st ac_in (by decide) (fun f g => cel_2 _ f g) (by decide) (fun f g => cel_28 _ f g) (by decide) (by decide) (by decide) (by decide) (by decide) (by decide) (by decide) dX4_copyOf_12 ?_
  refine g_aload_n dX4_copyOf_15 rfl ?_
  refine g_get (kk := 1) (by decide) (cel_1 _ _ _) rfl inX4 fl_X4_15 (by decide) rfl dX4_copyOf_16 ?_
  refine g_iconst (v := 0) dX4_copyOf_19 (by decide) ?_
  refine g_aload_n dX4_copyOf_20 rfl ?_
  refine g_get (kk := 27) (by decide) (cel_27 _ _ _) rfl inX4 fl_X4_15 (by decide) rfl dX4_copyOf_21 ?_
  refine g_iconst (v := 0) dX4_copyOf_24 (by decide) ?_
  refine g_bipush (v := 8) dX4_copyOf_25 (by decide) ?_
  refine g_copyI (k0 := 3) (k1 := 29) ac_X4_56 ac_nat ac_st ac_in (by decide) (fun f g => cel_3 _ f g) (by decide) (fun f g => cel_29 _ f g) (by decide) (by decide) (by decide) (by decide) (by decide) (by decide) (by decide) dX4_copyOf_27 ?_
  refine g_aload_n dX4_copyOf_30 rfl ?_
  refine g_get (kk := 1) (by decide) (cel_1 _ _ _) rfl inX4 fl_X4_18 (by decide) rfl dX4_copyOf_31 ?_
  refine g_iconst (v := 0) dX4_copyOf_34 (by decide) ?_
  refine g_aload_n dX4_copyOf_35 rfl ?_
  refine g_get (kk := 27) (by decide) (cel_27 _ _ _) rfl inX4 fl_X4_18 (by decide) rfl dX4_copyOf_36 ?_
  refine g_iconst (v := 0) dX4_copyOf_39 (by decide) ?_
  refine g_bipush (v := 8) dX4_copyOf_40 (by decide) ?_
  refine g_copyI (k0 := 4) (k1 := 30) ac_X4_56 ac_nat ac_st ac_in (by decide) (fun f g => cel_4 _ f g) (by decide) (fun f g => cel_30 _ f g) (by decide) (by decide) (by decide) (by decide) (by decide) (by decide) (by decide) dX4_copyOf_42 ?_
  refine g_aload_n dX4_copyOf_45 rfl ?_
  refine g_get (kk := 1) (by decide) (cel_1 _ _ _) rfl inX4 fl_X4_21 (by decide) rfl dX4_copyOf_46 ?_
  refine g_iconst (v := 0) dX4_copyOf_49 (by decide) ?_
  refine g_aload_n dX4_copyOf_50 rfl ?_
  refine g_get (kk := 27) (by decide) (cel_27 _ _ _) rfl inX4 fl_X4_21 (by decide) rfl dX4_copyOf_51 ?_
  refine g_iconst (v := 0) dX4_copyOf_54 (by decide) ?_
  refine g_bipush (v := 8) dX4_copyOf_55 (by decide) ?_
  refine g_copyI (k0 := 5) (k1 := 31) ac_X4_56 ac_nat ac_st ac_in (by decide) (fun f g => cel_5 _ f g) (by decide) (fun f g => cel_31 _ f g) (by decide) (by decide) (by decide) (by decide) (by decide) (by decide) (by decide) dX4_copyOf_57 ?_
  refine g_aload_n dX4_copyOf_60 rfl ?_
  refine g_get (kk := 1) (by decide) (cel_1 _ _ _) rfl inX4 fl_X4_24 (by decide) rfl dX4_copyOf_61 ?_
  refine g_iconst (v := 0) dX4_copyOf_64 (by decide) ?_
  refine g_aload_n dX4_copyOf_65 rfl ?_
  refine g_get (kk := 27) (by decide) (cel_27 _ _ _) rfl inX4 fl_X4_24 (by decide) rfl dX4_copyOf_66 ?_
  refine g_iconst (v := 0) dX4_copyOf_69 (by decide) ?_
  refine g_iconst (v := 4) dX4_copyOf_70 (by decide) ?_
  refine g_copyL (k0 := 6) (k1 := 32) ac_X4_56 ac_nat ac_st ac_in (by decide) (fun f g => cel_6 _ f g) (by decide) (fun f g => cel_32 _ f g) (by decide) (by decide) (by decide) (by decide) (by decide) (by decide) (by decide) dX4_copyOf_71 ?_
  refine g_aload_n dX4_copyOf_74 rfl ?_
  refine g_get (kk := 27) (by decide) (cel_27 _ _ _) rfl inX4 fl_X4_31 (by decide) rfl dX4_copyOf_75 ?_
  refine g_aload_n dX4_copyOf_78 rfl ?_
  refine g_get (kk := 1) (by decide) (cel_1 _ _ _) rfl inX4 fl_X4_31 (by decide) rfl dX4_copyOf_79 ?_
  obtain ⟨r6, hq, hf⟩ := bnd hf
  refine g_cV_R_V (c_X2_copyOf_33_7 hq) cv_X4_62 (by decide) (cel_33 _ _ _) rfl ⟨by decide, by decide⟩ (Nat.le_of_ble_eq_true rfl) dX4_copyOf_82 ?_
  refine g_aload_n dX4_copyOf_85 rfl ?_
  refine g_aload_n dX4_copyOf_86 rfl ?_
  refine g_get (kk := 1) (by decide) (cel_1 _ _ _) rfl inX4 fl_X4_47 (by decide) rfl dX4_copyOf_87 ?_
  refine g_putI (kk := 27) (by decide) (cel_27 _ _ _) (pI_27_6 _ _ _ _) rfl inX4 tyX4_ok nmX4 fl_X4_47 (by decide) (Nat.le_of_ble_eq_true rfl) rfl (by decide +kernel) dX4_copyOf_90 ?_
  refine g_aload_n dX4_copyOf_93 rfl ?_
  refine g_aload_n dX4_copyOf_94 rfl ?_
  refine g_get (kk := 1) (by decide) (cel_1 _ _ _) rfl inX4 fl_X4_50 (by decide) rfl dX4_copyOf_95 ?_
  refine g_putI (kk := 27) (by decide) (cel_27 _ _ _) (pI_27_7 _ _ _ _) rfl inX4 tyX4_ok nmX4 fl_X4_50 (by decide) (Nat.le_of_ble_eq_true rfl) rfl (by decide +kernel) dX4_copyOf_98 ?_
  refine g_aload_n dX4_copyOf_101 rfl ?_
  refine g_aload_n dX4_copyOf_102 rfl ?_
  refine g_get (kk := 1) (by decide) (cel_1 _ _ _) rfl inX4 fl_X4_53 (by decide) rfl dX4_copyOf_103 ?_
  refine g_putI (kk := 27) (by decide) (cel_27 _ _ _) (pI_27_8 _ _ _ _) rfl inX4 tyX4_ok nmX4 fl_X4_53 (by decide) (Nat.le_of_ble_eq_true rfl) rfl (by decide +kernel) dX4_copyOf_106 ?_
  refine g_aload_n dX4_copyOf_109 rfl ?_
  refine g_get (kk := 1) (by decide) (cel_1 _ _ _) rfl inX4 fl_X4_35 (by decide) rfl dX4_copyOf_110 ?_
  refine g_iconst (v := 0) dX4_copyOf_113 (by decide) ?_
  refine g_aload_n dX4_copyOf_114 rfl ?_
  refine g_get (kk := 27) (by decide) (cel_27 _ _ _) rfl inX4 fl_X4_35 (by decide) rfl dX4_copyOf_115 ?_
  refine g_iconst (v := 0) dX4_copyOf_118 (by decide) ?_
  refine g_bipush (v := 8) dX4_copyOf_119 (by decide) ?_
  refine g_copyI (k0 := 12) (k1 := 38) ac_X4_56 ac_nat ac_st ac_in (by decide) (fun f g => cel_12 _ f g) (by decide) (fun f g => cel_38 _ f g) (by decide) (by decide) (by decide) (by decide) (by decide) (by decide) (by decide) dX4_copyOf_121 ?_
  refine g_aload_n dX4_copyOf_124 rfl ?_
  refine g_get (kk := 1) (by decide) (cel_1 _ _ _) rfl inX4 fl_X4_38 (by decide) rfl dX4_copyOf_125 ?_
  refine g_iconst (v := 0) dX4_copyOf_128 (by decide) ?_
  refine g_aload_n dX4_copyOf_129 rfl ?_
  refine g_get (kk := 27) (by decide) (cel_27 _ _ _) rfl inX4 fl_X4_38 (by decide) rfl dX4_copyOf_130 ?_
  refine g_iconst (v := 0) dX4_copyOf_133 (by decide) ?_
  refine g_bipush (v := 8) dX4_copyOf_134 (by decide) ?_
  refine g_copyI (k0 := 13) (k1 := 39) ac_X4_56 ac_nat ac_st ac_in (by decide) (fun f g => cel_13 _ f g) (by decide) (fun f g => cel_39 _ f g) (by decide) (by decide) (by decide) (by decide) (by decide) (by decide) (by decide) dX4_copyOf_136 ?_
  exact g_vret_w hr hf dX4_copyOf_139
-- X2_copyOf_46_7
def f_X2_copyOf_46_7  (M : Mem) : Option Mem :=
  let M1 := rI M 47 (va_cpy (M.1 8) (M.1 47) 0 0 8)
  let M2 := rI M1 48 (va_cpy (M1.1 9) (M1.1 48) 0 0 8)
  let M3 := rL M2 49 (va_cpy (M2.2 10) (M2.2 49) 0 0 8)
  let M4 := rL M3 50 (va_cpy (M3.2 11) (M3.2 50) 0 0 8)
  let M5 := mI M4 46 4 (M4.1 7 4)
  some M5
set_option maxHeartbeats 4000000 in
set_option maxRecDepth 100000 in
theorem c_X2_copyOf_46_7 {l : Launch}  {M : Mem} {M1 : Mem} (hf : f_X2_copyOf_46_7 M = some M1) : Cn l yX2_copyOf cX2_copyOf 2 none 1 60 (fun E => [.ref (E.1 46), .ref (E.1 7)]) M (none, M1) := by
  unfold f_X2_copyOf_46_7 at hf
  refine cn_of RX2 (fun E => [some (.ref (E.1 46)), some (.ref (E.1 7))]) (by decide +kernel) rfl (fun E => Nat.le_of_ble_eq_true rfl) (fun E => rfl) (fun X hr => ?_)
  refine g_aload_n dX2_copyOf_0 rfl ?_
  refine g_get (kk := 7) (by decide) (cel_7 _ _ _) rfl inX2 fl_X2_9 (by decide) rfl dX2_copyOf_1 ?_
  refine g_iconst (v := 0) dX2_copyOf_4 (by decide) ?_
  refine g_aload_n dX2_copyOf_5 rfl ?_
  refine g_get (kk := 46) (by decide) (cel_46 _ _ _) rfl inX2 fl_X2_9 (by decide) rfl dX2_copyOf_6 ?_
  refine g_iconst (v := 0) dX2_copyOf_9 (by decide) ?_
  refine g_bipush (v := 8) dX2_copyOf_10 (by decide) ?_
  refine g_copyI (k0 := 8) (k1 := 47) ac_X2_29 ac_nat ac_st ac_in (by decide) (fun f g => cel_8 _ f g) (by decide) (fun f g => cel_47 _ f g) (by decide) (by decide) (by decide) (by decide) (by decide) (by decide) (by decide) dX2_copyOf_12 ?_
  refine g_aload_n dX2_copyOf_15 rfl ?_
  refine g_get (kk := 7) (by decide) (cel_7 _ _ _) rfl inX2 fl_X2_15 (by decide) rfl dX2_copyOf_16 ?_
  refine g_iconst (v := 0) dX2_copyOf_19 (by decide) ?_
  refine g_aload_n dX2_copyOf_20 rfl ?_
  refine g_get (kk := 46) (by decide) (cel_46 _ _ _) rfl inX2 fl_X2_15 (by decide) rfl dX2_copyOf_21 ?_
  refine g_iconst (v := 0) dX2_copyOf_24 (by decide) ?_
  refine g_bipush (v := 8) dX2_copyOf_25 (by decide) ?_
  refine g_copyI (k0 := 9) (k1 := 48) ac_X2_29 ac_nat ac_st ac_in (by decide) (fun f g => cel_9 _ f g) (by decide) (fun f g => cel_48 _ f g) (by decide) (by decide) (by decide) (by decide) (by decide) (by decide) (by decide) dX2_copyOf_27 ?_
  refine g_aload_n dX2_copyOf_30 rfl ?_
  refine g_get (kk := 7) (by decide) (cel_7 _ _ _) rfl inX2 fl_X2_18 (by decide) rfl dX2_copyOf_31 ?_
  refine g_iconst (v := 0) dX2_copyOf_34 (by decide) ?_
  refine g_aload_n dX2_copyOf_35 rfl ?_
  refine g_get (kk := 46) (by decide) (cel_46 _ _ _) rfl inX2 fl_X2_18 (by decide) rfl dX2_copyOf_36 ?_
  refine g_iconst (v := 0) dX2_copyOf_39 (by decide) ?_
  refine g_bipush (v := 8) dX2_copyOf_40 (by decide) ?_
  refine g_copyL (k0 := 10) (k1 := 49) ac_X2_29 ac_nat ac_st ac_in (by decide) (fun f g => cel_10 _ f g) (by decide) (fun f g => cel_49 _ f g) (by decide) (by decide) (by decide) (by decide) (by decide) (by decide) (by decide) dX2_copyOf_42 ?_
  refine g_aload_n dX2_copyOf_45 rfl ?_
  refine g_get (kk := 7) (by decide) (cel_7 _ _ _) rfl inX2 fl_X2_22 (by decide) rfl dX2_copyOf_46 ?_
  refine g_iconst (v := 0) dX2_copyOf_49 (by decide) ?_
  refine g_aload_n dX2_copyOf_50 rfl ?_
  refine g_get (kk := 46) (by decide) (cel_46 _ _ _) rfl inX2 fl_X2_22 (by decide) rfl dX2_copyOf_51 ?_
  refine g_iconst (v := 0) dX2_copyOf_54 (by decide) ?_
  refine g_bipush (v := 8) dX2_copyOf_55 (by decide) ?_
  refine g_copyL (k0 := 11) (k1 := 50) ac_X2_29 ac_nat ac_st ac_in (by decide) (fun f g => cel_11 _ f g) (by decide) (fun f g => cel_50 _ f g) (by decide) (by decide) (by decide) (by decide) (by decide) (by decide) (by decide) dX2_copyOf_57 ?_
  refine g_aload_n dX2_copyOf_60 rfl ?_
  refine g_aload_n dX2_copyOf_61 rfl ?_
  refine g_get (kk := 7) (by decide) (cel_7 _ _ _) rfl inX2 fl_X2_25 (by decide) rfl dX2_copyOf_62 ?_
  refine g_putI (kk := 46) (by decide) (cel_46 _ _ _) (pI_46_4 _ _ _ _) rfl inX2 tyX2_ok nmX2 fl_X2_25 (by decide) (Nat.le_of_ble_eq_true rfl) rfl (by decide +kernel) dX2_copyOf_65 ?_
  exact g_vret_w hr hf dX2_copyOf_68
-- X4_copyOf_40_1
def f_X4_copyOf_40_1  (M : Mem) : Option Mem :=
  let M1 := rI M 41 (va_cpy (M.1 2) (M.1 41) 0 0 8)
  let M2 := rI M1 42 (va_cpy (M1.1 3) (M1.1 42) 0 0 8)
  let M3 := rI M2 43 (va_cpy (M2.1 4) (M2.1 43) 0 0 8)
  let M4 := rI M3 44 (va_cpy (M3.1 5) (M3.1 44) 0 0 8)
  let M5 := rL M4 45 (va_cpy (M4.2 6) (M4.2 45) 0 0 4)
  (f_X2_copyOf_46_7 M5).bind fun r6 =>
  let M7 := mI r6 40 6 (r6.1 1 6)
  let M8 := mI M7 40 7 (M7.1 1 7)
  let M9 := mI M8 40 8 (M8.1 1 8)
  let M10 := rI M9 51 (va_cpy (M9.1 12) (M9.1 51) 0 0 8)
  let M11 := rI M10 52 (va_cpy (M10.1 13) (M10.1 52) 0 0 8)
  some M11
set_option maxHeartbeats 4000000 in
set_option maxRecDepth 100000 in
theorem c_X4_copyOf_40_1 {l : Launch}  {M : Mem} {M1 : Mem} (hf : f_X4_copyOf_40_1 M = some M1) : Cn l yX4_copyOf cX4_copyOf 2 none 2 81 (fun E => [.ref (E.1 40), .ref (E.1 1)]) M (none, M1) := by
  unfold f_X4_copyOf_40_1 at hf
  refine cn_of RX4 (fun E => [some (.ref (E.1 40)), some (.ref (E.1 1))]) (by decide +kernel) rfl (fun E => Nat.le_of_ble_eq_true rfl) (fun E => rfl) (fun X hr => ?_)
  refine g_aload_n dX4_copyOf_0 rfl ?_
  refine g_get (kk := 1) (by decide) (cel_1 _ _ _) rfl inX4 fl_X4_9 (by decide) rfl dX4_copyOf_1 ?_
  refine g_iconst (v := 0) dX4_copyOf_4 (by decide) ?_
  refine g_aload_n dX4_copyOf_5 rfl ?_
  refine g_get (kk := 40) (by decide) (cel_40 _ _ _) rfl inX4 fl_X4_9 (by decide) rfl dX4_copyOf_6 ?_
  refine g_iconst (v := 0) dX4_copyOf_9 (by decide) ?_
  refine g_bipush (v := 8) dX4_copyOf_10 (by decide) ?_
  refine g_copyI (k0 := 2) (k1 := 41) ac_X4_56 ac_nat ac_st ac_in (by decide) (fun f g => cel_2 _ f g) (by decide) (fun f g => cel_41 _ f g) (by decide) (by decide) (by decide) (by decide) (by decide) (by decide) (by decide) dX4_copyOf_12 ?_
  refine g_aload_n dX4_copyOf_15 rfl ?_
  refine g_get (kk := 1) (by decide) (cel_1 _ _ _) rfl inX4 fl_X4_15 (by decide) rfl dX4_copyOf_16 ?_
  refine g_iconst (v := 0) dX4_copyOf_19 (by decide) ?_
  refine g_aload_n dX4_copyOf_20 rfl ?_
  refine g_get (kk := 40) (by decide) (cel_40 _ _ _) rfl inX4 fl_X4_15 (by decide) rfl dX4_copyOf_21 ?_
  refine g_iconst (v := 0) dX4_copyOf_24 (by decide) ?_
  refine g_bipush (v := 8) dX4_copyOf_25 (by decide) ?_
  refine g_copyI (k0 := 3) (k1 := 42) ac_X4_56 ac_nat ac_st ac_in (by decide) (fun f g => cel_3 _ f g) (by decide) (fun f g => cel_42 _ f g) (by decide) (by decide) (by decide) (by decide) (by decide) (by decide) (by decide) dX4_copyOf_27 ?_
  refine g_aload_n dX4_copyOf_30 rfl ?_
  refine g_get (kk := 1) (by decide) (cel_1 _ _ _) rfl inX4 fl_X4_18 (by decide) rfl dX4_copyOf_31 ?_
  refine g_iconst (v := 0) dX4_copyOf_34 (by decide) ?_
  refine g_aload_n dX4_copyOf_35 rfl ?_
  refine g_get (kk := 40) (by decide) (cel_40 _ _ _) rfl inX4 fl_X4_18 (by decide) rfl dX4_copyOf_36 ?_
  refine g_iconst (v := 0) dX4_copyOf_39 (by decide) ?_
  refine g_bipush (v := 8) dX4_copyOf_40 (by decide) ?_
  refine g_copyI (k0 := 4) (k1 := 43) ac_X4_56 ac_nat ac_st ac_in (by decide) (fun f g => cel_4 _ f g) (by decide) (fun f g => cel_43 _ f g) (by decide) (by decide) (by decide) (by decide) (by decide) (by decide) (by decide) dX4_copyOf_42 ?_
  refine g_aload_n dX4_copyOf_45 rfl ?_
  refine g_get (kk := 1) (by decide) (cel_1 _ _ _) rfl inX4 fl_X4_21 (by decide) rfl dX4_copyOf_46 ?_
  refine g_iconst (v := 0) dX4_copyOf_49 (by decide) ?_
  refine g_aload_n dX4_copyOf_50 rfl ?_
  refine g_get (kk := 40) (by decide) (cel_40 _ _ _) rfl inX4 fl_X4_21 (by decide) rfl dX4_copyOf_51 ?_
  refine g_iconst (v := 0) dX4_copyOf_54 (by decide) ?_
  refine g_bipush (v := 8) dX4_copyOf_55 (by decide) ?_
  refine g_copyI (k0 := 5) (k1 := 44) ac_X4_56 ac_nat ac_st ac_in (by decide) (fun f g => cel_5 _ f g) (by decide) (fun f g => cel_44 _ f g) (by decide) (by decide) (by decide) (by decide) (by decide) (by decide) (by decide) dX4_copyOf_57 ?_
  refine g_aload_n dX4_copyOf_60 rfl ?_
  refine g_get (kk := 1) (by decide) (cel_1 _ _ _) rfl inX4 fl_X4_24 (by decide) rfl dX4_copyOf_61 ?_
  refine g_iconst (v := 0) dX4_copyOf_64 (by decide) ?_
  refine g_aload_n dX4_copyOf_65 rfl ?_
  refine g_get (kk := 40) (by decide) (cel_40 _ _ _) rfl inX4 fl_X4_24 (by decide) rfl dX4_copyOf_66 ?_
  refine g_iconst (v := 0) dX4_copyOf_69 (by decide) ?_
  refine g_iconst (v := 4) dX4_copyOf_70 (by decide) ?_
  refine g_copyL (k0 := 6) (k1 := 45) ac_X4_56 ac_nat ac_st ac_in (by decide) (fun f g => cel_6 _ f g) (by decide) (fun f g => cel_45 _ f g) (by decide) (by decide) (by decide) (by decide) (by decide) (by decide) (by decide) dX4_copyOf_71 ?_
  refine g_aload_n dX4_copyOf_74 rfl ?_
  refine g_get (kk := 40) (by decide) (cel_40 _ _ _) rfl inX4 fl_X4_31 (by decide) rfl dX4_copyOf_75 ?_
  refine g_aload_n dX4_copyOf_78 rfl ?_
  refine g_get (kk := 1) (by decide) (cel_1 _ _ _) rfl inX4 fl_X4_31 (by decide) rfl dX4_copyOf_79 ?_
  obtain ⟨r6, hq, hf⟩ := bnd hf
  refine g_cV_R_V (c_X2_copyOf_46_7 hq) cv_X4_62 (by decide) (cel_46 _ _ _) rfl ⟨by decide, by decide⟩ (Nat.le_of_ble_eq_true rfl) dX4_copyOf_82 ?_
  refine g_aload_n dX4_copyOf_85 rfl ?_
  refine g_aload_n dX4_copyOf_86 rfl ?_
  refine g_get (kk := 1) (by decide) (cel_1 _ _ _) rfl inX4 fl_X4_47 (by decide) rfl dX4_copyOf_87 ?_
  refine g_putI (kk := 40) (by decide) (cel_40 _ _ _) (pI_40_6 _ _ _ _) rfl inX4 tyX4_ok nmX4 fl_X4_47 (by decide) (Nat.le_of_ble_eq_true rfl) rfl (by decide +kernel) dX4_copyOf_90 ?_
  refine g_aload_n dX4_copyOf_93 rfl ?_
  refine g_aload_n dX4_copyOf_94 rfl ?_
  refine g_get (kk := 1) (by decide) (cel_1 _ _ _) rfl inX4 fl_X4_50 (by decide) rfl dX4_copyOf_95 ?_
  refine g_putI (kk := 40) (by decide) (cel_40 _ _ _) (pI_40_7 _ _ _ _) rfl inX4 tyX4_ok nmX4 fl_X4_50 (by decide) (Nat.le_of_ble_eq_true rfl) rfl (by decide +kernel) dX4_copyOf_98 ?_
  refine g_aload_n dX4_copyOf_101 rfl ?_
  refine g_aload_n dX4_copyOf_102 rfl ?_
  refine g_get (kk := 1) (by decide) (cel_1 _ _ _) rfl inX4 fl_X4_53 (by decide) rfl dX4_copyOf_103 ?_
  refine g_putI (kk := 40) (by decide) (cel_40 _ _ _) (pI_40_8 _ _ _ _) rfl inX4 tyX4_ok nmX4 fl_X4_53 (by decide) (Nat.le_of_ble_eq_true rfl) rfl (by decide +kernel) dX4_copyOf_106 ?_
  refine g_aload_n dX4_copyOf_109 rfl ?_
  refine g_get (kk := 1) (by decide) (cel_1 _ _ _) rfl inX4 fl_X4_35 (by decide) rfl dX4_copyOf_110 ?_
  refine g_iconst (v := 0) dX4_copyOf_113 (by decide) ?_
  refine g_aload_n dX4_copyOf_114 rfl ?_
  refine g_get (kk := 40) (by decide) (cel_40 _ _ _) rfl inX4 fl_X4_35 (by decide) rfl dX4_copyOf_115 ?_
  refine g_iconst (v := 0) dX4_copyOf_118 (by decide) ?_
  refine g_bipush (v := 8) dX4_copyOf_119 (by decide) ?_
  refine g_copyI (k0 := 12) (k1 := 51) ac_X4_56 ac_nat ac_st ac_in (by decide) (fun f g => cel_12 _ f g) (by decide) (fun f g => cel_51 _ f g) (by decide) (by decide) (by decide) (by decide) (by decide) (by decide) (by decide) dX4_copyOf_121 ?_
  refine g_aload_n dX4_copyOf_124 rfl ?_
  refine g_get (kk := 1) (by decide) (cel_1 _ _ _) rfl inX4 fl_X4_38 (by decide) rfl dX4_copyOf_125 ?_
  refine g_iconst (v := 0) dX4_copyOf_128 (by decide) ?_
  refine g_aload_n dX4_copyOf_129 rfl ?_
  refine g_get (kk := 40) (by decide) (cel_40 _ _ _) rfl inX4 fl_X4_38 (by decide) rfl dX4_copyOf_130 ?_
  refine g_iconst (v := 0) dX4_copyOf_133 (by decide) ?_
  refine g_bipush (v := 8) dX4_copyOf_134 (by decide) ?_
  refine g_copyI (k0 := 13) (k1 := 52) ac_X4_56 ac_nat ac_st ac_in (by decide) (fun f g => cel_13 _ f g) (by decide) (fun f g => cel_52 _ f g) (by decide) (by decide) (by decide) (by decide) (by decide) (by decide) (by decide) dX4_copyOf_136 ?_
  exact g_vret_w hr hf dX4_copyOf_139
-- X7_image
def f_X7_image (x1 : Int32) (M : Mem) : Option (Int32 × Mem) :=
  if (f_X7_isBelow x1 (2 : Int32)) = 0 then ((f_X7_refuseBad (-2 : Int32) M).bind fun r5 =>
  some (r5.1, r5.2))
  else (ck x1 2 <|
  if x1 = 0 then ((f_X4_copyOf_27_1 M).bind fun r1 =>
  ck x1 2 <|
  let M2 := mI r1 54 (x1.toNatClampNeg) (vp_nar .boolean (1 : Int32))
  some ((1 : Int32), M2))
  else ((f_X4_copyOf_40_1 M).bind fun r3 =>
  ck x1 2 <|
  let M4 := mI r3 54 (x1.toNatClampNeg) (vp_nar .boolean (1 : Int32))
  some ((1 : Int32), M4)))
set_option maxHeartbeats 4000000 in
set_option maxRecDepth 100000 in
theorem c_X7_image {l : Launch} {x1 : Int32} {M : Mem} {r : Int32} {M1 : Mem} (hf : f_X7_image x1 M = some (r, M1)) : Cn l yX7_image cX7_image 2 (some .int) 3 102 (fun E => [.ref (E.1 0), .int x1]) M (some (.int r), M1) := by
  unfold f_X7_image at hf
  refine cn_of RX7 (fun E => [some (.ref (E.1 0)), some (.int x1)]) (by decide +kernel) rfl (fun E => Nat.le_of_ble_eq_true rfl) (fun E => rfl) (fun X hr => ?_)
  refine g_iload_n dX7_image_0 rfl ?_
  refine g_iconst (v := 2) dX7_image_1 (by decide) ?_
  refine g_cS_II_I (c_X7_isBelow rfl) cs_X7_56 ⟨by decide, by decide⟩ (Nat.le_of_ble_eq_true rfl) dX7_image_2 ?_
  refine g_if_ne (tgt := 15) dX7_image_5 (by decide) (fun hc => ?_) (fun hc => ?_)
  · have hf := ite_f hc hf
    refine g_aload_n dX7_image_15 rfl ?_
    refine g_get (kk := 0) (by decide) (cel_0 _ _ _) rfl inX7 fl_X7_19 (by decide) rfl dX7_image_16 ?_
    refine g_iload_n dX7_image_19 rfl ?_
    obtain ⟨hi, hf⟩ := ck_s hf
    refine g_aaload hi dX7_image_20 (fun hc => ?_) (fun hc => ?_)
    · have hf := ite_t hc hf
      refine g_aload_n dX7_image_21 rfl ?_
      refine g_get (kk := 0) (by decide) (cel_0 _ _ _) rfl inX7 fl_X7_10 (by decide) rfl dX7_image_22 ?_
      obtain ⟨r1, hq, hf⟩ := bnd hf
      refine g_cV_R_V (c_X4_copyOf_27_1 hq) cv_X7_134 (by decide) (cel_27 _ _ _) rfl ⟨by decide, by decide⟩ (Nat.le_of_ble_eq_true rfl) dX7_image_25 ?_
      refine g_aload_n dX7_image_28 rfl ?_
      refine g_get (kk := 0) (by decide) (cel_0 _ _ _) rfl inX7 fl_X7_23 (by decide) rfl dX7_image_29 ?_
      refine g_iload_n dX7_image_32 rfl ?_
      refine g_iconst (v := 1) dX7_image_33 (by decide) ?_
      obtain ⟨hi, hf⟩ := ck_s hf
      refine g_zastore (kk := 54) (by decide) (fun f g => cel_54 _ f g) hi rfl dX7_image_34 ?_
      refine g_iconst (v := 1) dX7_image_35 (by decide) ?_
      exact g_iret_w hr hf dX7_image_36
    · have hf := ite_f hc hf
      refine g_aload_n dX7_image_21 rfl ?_
      refine g_get (kk := 0) (by decide) (cel_0 _ _ _) rfl inX7 fl_X7_10 (by decide) rfl dX7_image_22 ?_
      obtain ⟨r3, hq, hf⟩ := bnd hf
      refine g_cV_R_V (c_X4_copyOf_40_1 hq) cv_X7_134 (by decide) (cel_40 _ _ _) rfl ⟨by decide, by decide⟩ (Nat.le_of_ble_eq_true rfl) dX7_image_25 ?_
      refine g_aload_n dX7_image_28 rfl ?_
      refine g_get (kk := 0) (by decide) (cel_0 _ _ _) rfl inX7 fl_X7_23 (by decide) rfl dX7_image_29 ?_
      refine g_iload_n dX7_image_32 rfl ?_
      refine g_iconst (v := 1) dX7_image_33 (by decide) ?_
      obtain ⟨hi, hf⟩ := ck_s hf
      refine g_zastore (kk := 54) (by decide) (fun f g => cel_54 _ f g) hi rfl dX7_image_34 ?_
      refine g_iconst (v := 1) dX7_image_35 (by decide) ?_
      exact g_iret_w hr hf dX7_image_36
  · have hf := ite_t hc hf
    refine g_aload_n dX7_image_8 rfl ?_
    refine g_bipush (v := (-2)) dX7_image_9 (by decide) ?_
    obtain ⟨r5, hq, hf⟩ := bnd hf
    refine g_cV_I_I (c_X7_refuseBad (r := r5.1) (M1 := r5.2) hq) cv_X7_60 (by decide) (cel_0 _ _ _) rfl ⟨by decide, by decide⟩ (Nat.le_of_ble_eq_true rfl) dX7_image_11 ?_
    exact g_iret_w hr hf dX7_image_14
-- X2_copyOf_7_33
def f_X2_copyOf_7_33  (M : Mem) : Option Mem :=
  let M1 := rI M 8 (va_cpy (M.1 34) (M.1 8) 0 0 8)
  let M2 := rI M1 9 (va_cpy (M1.1 35) (M1.1 9) 0 0 8)
  let M3 := rL M2 10 (va_cpy (M2.2 36) (M2.2 10) 0 0 8)
  let M4 := rL M3 11 (va_cpy (M3.2 37) (M3.2 11) 0 0 8)
  let M5 := mI M4 7 4 (M4.1 33 4)
  some M5
set_option maxHeartbeats 4000000 in
set_option maxRecDepth 100000 in
theorem c_X2_copyOf_7_33 {l : Launch}  {M : Mem} {M1 : Mem} (hf : f_X2_copyOf_7_33 M = some M1) : Cn l yX2_copyOf cX2_copyOf 2 none 1 60 (fun E => [.ref (E.1 7), .ref (E.1 33)]) M (none, M1) := by
  unfold f_X2_copyOf_7_33 at hf
  refine cn_of RX2 (fun E => [some (.ref (E.1 7)), some (.ref (E.1 33))]) (by decide +kernel) rfl (fun E => Nat.le_of_ble_eq_true rfl) (fun E => rfl) (fun X hr => ?_)
  refine g_aload_n dX2_copyOf_0 rfl ?_
  refine g_get (kk := 33) (by decide) (cel_33 _ _ _) rfl inX2 fl_X2_9 (by decide) rfl dX2_copyOf_1 ?_
  refine g_iconst (v := 0) dX2_copyOf_4 (by decide) ?_
  refine g_aload_n dX2_copyOf_5 rfl ?_
  refine g_get (kk := 7) (by decide) (cel_7 _ _ _) rfl inX2 fl_X2_9 (by decide) rfl dX2_copyOf_6 ?_
  refine g_iconst (v := 0) dX2_copyOf_9 (by decide) ?_
  refine g_bipush (v := 8) dX2_copyOf_10 (by decide) ?_
  refine g_copyI (k0 := 34) (k1 := 8) ac_X2_29 ac_nat ac_st ac_in (by decide) (fun f g => cel_34 _ f g) (by decide) (fun f g => cel_8 _ f g) (by decide) (by decide) (by decide) (by decide) (by decide) (by decide) (by decide) dX2_copyOf_12 ?_
  refine g_aload_n dX2_copyOf_15 rfl ?_
  refine g_get (kk := 33) (by decide) (cel_33 _ _ _) rfl inX2 fl_X2_15 (by decide) rfl dX2_copyOf_16 ?_
  refine g_iconst (v := 0) dX2_copyOf_19 (by decide) ?_
  refine g_aload_n dX2_copyOf_20 rfl ?_
  refine g_get (kk := 7) (by decide) (cel_7 _ _ _) rfl inX2 fl_X2_15 (by decide) rfl dX2_copyOf_21 ?_
  refine g_iconst (v := 0) dX2_copyOf_24 (by decide) ?_
  refine g_bipush (v := 8) dX2_copyOf_25 (by decide) ?_
  refine g_copyI (k0 := 35) (k1 := 9) ac_X2_29 ac_nat ac_st ac_in (by decide) (fun f g => cel_35 _ f g) (by decide) (fun f g => cel_9 _ f g) (by decide) (by decide) (by decide) (by decide) (by decide) (by decide) (by decide) dX2_copyOf_27 ?_
  refine g_aload_n dX2_copyOf_30 rfl ?_
  refine g_get (kk := 33) (by decide) (cel_33 _ _ _) rfl inX2 fl_X2_18 (by decide) rfl dX2_copyOf_31 ?_
  refine g_iconst (v := 0) dX2_copyOf_34 (by decide) ?_
  refine g_aload_n dX2_copyOf_35 rfl ?_
  refine g_get (kk := 7) (by decide) (cel_7 _ _ _) rfl inX2 fl_X2_18 (by decide) rfl dX2_copyOf_36 ?_
  refine g_iconst (v := 0) dX2_copyOf_39 (by decide) ?_
  refine g_bipush (v := 8) dX2_copyOf_40 (by decide) ?_
  refine g_copyL (k0 := 36) (k1 := 10) ac_X2_29 ac_nat ac_st ac_in (by decide) (fun f g => cel_36 _ f g) (by decide) (fun f g => cel_10 _ f g) (by decide) (by decide) (by decide) (by decide) (by decide) (by decide) (by decide) dX2_copyOf_42 ?_
  refine g_aload_n dX2_copyOf_45 rfl ?_
  refine g_get (kk := 33) (by decide) (cel_33 _ _ _) rfl inX2 fl_X2_22 (by decide) rfl dX2_copyOf_46 ?_
  refine g_iconst (v := 0) dX2_copyOf_49 (by decide) ?_
  refine g_aload_n dX2_copyOf_50 rfl ?_
  refine g_get (kk := 7) (by decide) (cel_7 _ _ _) rfl inX2 fl_X2_22 (by decide) rfl dX2_copyOf_51 ?_
  refine g_iconst (v := 0) dX2_copyOf_54 (by decide) ?_
  refine g_bipush (v := 8) dX2_copyOf_55 (by decide) ?_
  refine g_copyL (k0 := 37) (k1 := 11) ac_X2_29 ac_nat ac_st ac_in (by decide) (fun f g => cel_37 _ f g) (by decide) (fun f g => cel_11 _ f g) (by decide) (by decide) (by decide) (by decide) (by decide) (by decide) (by decide) dX2_copyOf_57 ?_
  refine g_aload_n dX2_copyOf_60 rfl ?_
  refine g_aload_n dX2_copyOf_61 rfl ?_
  refine g_get (kk := 33) (by decide) (cel_33 _ _ _) rfl inX2 fl_X2_25 (by decide) rfl dX2_copyOf_62 ?_
  refine g_putI (kk := 7) (by decide) (cel_7 _ _ _) (pI_7_4 _ _ _ _) rfl inX2 tyX2_ok nmX2 fl_X2_25 (by decide) (Nat.le_of_ble_eq_true rfl) rfl (by decide +kernel) dX2_copyOf_65 ?_
  exact g_vret_w hr hf dX2_copyOf_68
-- X4_copyOf_1_27
def f_X4_copyOf_1_27  (M : Mem) : Option Mem :=
  let M1 := rI M 2 (va_cpy (M.1 28) (M.1 2) 0 0 8)
  let M2 := rI M1 3 (va_cpy (M1.1 29) (M1.1 3) 0 0 8)
  let M3 := rI M2 4 (va_cpy (M2.1 30) (M2.1 4) 0 0 8)
  let M4 := rI M3 5 (va_cpy (M3.1 31) (M3.1 5) 0 0 8)
  let M5 := rL M4 6 (va_cpy (M4.2 32) (M4.2 6) 0 0 4)
  (f_X2_copyOf_7_33 M5).bind fun r6 =>
  let M7 := mI r6 1 6 (r6.1 27 6)
  let M8 := mI M7 1 7 (M7.1 27 7)
  let M9 := mI M8 1 8 (M8.1 27 8)
  let M10 := rI M9 12 (va_cpy (M9.1 38) (M9.1 12) 0 0 8)
  let M11 := rI M10 13 (va_cpy (M10.1 39) (M10.1 13) 0 0 8)
  some M11
set_option maxHeartbeats 4000000 in
set_option maxRecDepth 100000 in
theorem c_X4_copyOf_1_27 {l : Launch}  {M : Mem} {M1 : Mem} (hf : f_X4_copyOf_1_27 M = some M1) : Cn l yX4_copyOf cX4_copyOf 2 none 2 81 (fun E => [.ref (E.1 1), .ref (E.1 27)]) M (none, M1) := by
  unfold f_X4_copyOf_1_27 at hf
  refine cn_of RX4 (fun E => [some (.ref (E.1 1)), some (.ref (E.1 27))]) (by decide +kernel) rfl (fun E => Nat.le_of_ble_eq_true rfl) (fun E => rfl) (fun X hr => ?_)
  refine g_aload_n dX4_copyOf_0 rfl ?_
  refine g_get (kk := 27) (by decide) (cel_27 _ _ _) rfl inX4 fl_X4_9 (by decide) rfl dX4_copyOf_1 ?_
  refine g_iconst (v := 0) dX4_copyOf_4 (by decide) ?_
  refine g_aload_n dX4_copyOf_5 rfl ?_
  refine g_get (kk := 1) (by decide) (cel_1 _ _ _) rfl inX4 fl_X4_9 (by decide) rfl dX4_copyOf_6 ?_
  refine g_iconst (v := 0) dX4_copyOf_9 (by decide) ?_
  refine g_bipush (v := 8) dX4_copyOf_10 (by decide) ?_
  refine g_copyI (k0 := 28) (k1 := 2) ac_X4_56 ac_nat ac_st ac_in (by decide) (fun f g => cel_28 _ f g) (by decide) (fun f g => cel_2 _ f g) (by decide) (by decide) (by decide) (by decide) (by decide) (by decide) (by decide) dX4_copyOf_12 ?_
  refine g_aload_n dX4_copyOf_15 rfl ?_
  refine g_get (kk := 27) (by decide) (cel_27 _ _ _) rfl inX4 fl_X4_15 (by decide) rfl dX4_copyOf_16 ?_
  refine g_iconst (v := 0) dX4_copyOf_19 (by decide) ?_
  refine g_aload_n dX4_copyOf_20 rfl ?_
  refine g_get (kk := 1) (by decide) (cel_1 _ _ _) rfl inX4 fl_X4_15 (by decide) rfl dX4_copyOf_21 ?_
  refine g_iconst (v := 0) dX4_copyOf_24 (by decide) ?_
  refine g_bipush (v := 8) dX4_copyOf_25 (by decide) ?_
  refine g_copyI (k0 := 29) (k1 := 3) ac_X4_56 ac_nat ac_st ac_in (by decide) (fun f g => cel_29 _ f g) (by decide) (fun f g => cel_3 _ f g) (by decide) (by decide) (by decide) (by decide) (by decide) (by decide) (by decide) dX4_copyOf_27 ?_
  refine g_aload_n dX4_copyOf_30 rfl ?_
  refine g_get (kk := 27) (by decide) (cel_27 _ _ _) rfl inX4 fl_X4_18 (by decide) rfl dX4_copyOf_31 ?_
  refine g_iconst (v := 0) dX4_copyOf_34 (by decide) ?_
  refine g_aload_n dX4_copyOf_35 rfl ?_
  refine g_get (kk := 1) (by decide) (cel_1 _ _ _) rfl inX4 fl_X4_18 (by decide) rfl dX4_copyOf_36 ?_
  refine g_iconst (v := 0) dX4_copyOf_39 (by decide) ?_
  refine g_bipush (v := 8) dX4_copyOf_40 (by decide) ?_
  refine g_copyI (k0 := 30) (k1 := 4) ac_X4_56 ac_nat ac_st ac_in (by decide) (fun f g => cel_30 _ f g) (by decide) (fun f g => cel_4 _ f g) (by decide) (by decide) (by decide) (by decide) (by decide) (by decide) (by decide) dX4_copyOf_42 ?_
  refine g_aload_n dX4_copyOf_45 rfl ?_
  refine g_get (kk := 27) (by decide) (cel_27 _ _ _) rfl inX4 fl_X4_21 (by decide) rfl dX4_copyOf_46 ?_
  refine g_iconst (v := 0) dX4_copyOf_49 (by decide) ?_
  refine g_aload_n dX4_copyOf_50 rfl ?_
  refine g_get (kk := 1) (by decide) (cel_1 _ _ _) rfl inX4 fl_X4_21 (by decide) rfl dX4_copyOf_51 ?_
  refine g_iconst (v := 0) dX4_copyOf_54 (by decide) ?_
  refine g_bipush (v := 8) dX4_copyOf_55 (by decide) ?_
  refine g_copyI (k0 := 31) (k1 := 5) ac_X4_56 ac_nat ac_st ac_in (by decide) (fun f g => cel_31 _ f g) (by decide) (fun f g => cel_5 _ f g) (by decide) (by decide) (by decide) (by decide) (by decide) (by decide) (by decide) dX4_copyOf_57 ?_
  refine g_aload_n dX4_copyOf_60 rfl ?_
  refine g_get (kk := 27) (by decide) (cel_27 _ _ _) rfl inX4 fl_X4_24 (by decide) rfl dX4_copyOf_61 ?_
  refine g_iconst (v := 0) dX4_copyOf_64 (by decide) ?_
  refine g_aload_n dX4_copyOf_65 rfl ?_
  refine g_get (kk := 1) (by decide) (cel_1 _ _ _) rfl inX4 fl_X4_24 (by decide) rfl dX4_copyOf_66 ?_
  refine g_iconst (v := 0) dX4_copyOf_69 (by decide) ?_
  refine g_iconst (v := 4) dX4_copyOf_70 (by decide) ?_
  refine g_copyL (k0 := 32) (k1 := 6) ac_X4_56 ac_nat ac_st ac_in (by decide) (fun f g => cel_32 _ f g) (by decide) (fun f g => cel_6 _ f g) (by decide) (by decide) (by decide) (by decide) (by decide) (by decide) (by decide) dX4_copyOf_71 ?_
  refine g_aload_n dX4_copyOf_74 rfl ?_
  refine g_get (kk := 1) (by decide) (cel_1 _ _ _) rfl inX4 fl_X4_31 (by decide) rfl dX4_copyOf_75 ?_
  refine g_aload_n dX4_copyOf_78 rfl ?_
  refine g_get (kk := 27) (by decide) (cel_27 _ _ _) rfl inX4 fl_X4_31 (by decide) rfl dX4_copyOf_79 ?_
  obtain ⟨r6, hq, hf⟩ := bnd hf
  refine g_cV_R_V (c_X2_copyOf_7_33 hq) cv_X4_62 (by decide) (cel_7 _ _ _) rfl ⟨by decide, by decide⟩ (Nat.le_of_ble_eq_true rfl) dX4_copyOf_82 ?_
  refine g_aload_n dX4_copyOf_85 rfl ?_
  refine g_aload_n dX4_copyOf_86 rfl ?_
  refine g_get (kk := 27) (by decide) (cel_27 _ _ _) rfl inX4 fl_X4_47 (by decide) rfl dX4_copyOf_87 ?_
  refine g_putI (kk := 1) (by decide) (cel_1 _ _ _) (pI_1_6 _ _ _ _) rfl inX4 tyX4_ok nmX4 fl_X4_47 (by decide) (Nat.le_of_ble_eq_true rfl) rfl (by decide +kernel) dX4_copyOf_90 ?_
  refine g_aload_n dX4_copyOf_93 rfl ?_
  refine g_aload_n dX4_copyOf_94 rfl ?_
  refine g_get (kk := 27) (by decide) (cel_27 _ _ _) rfl inX4 fl_X4_50 (by decide) rfl dX4_copyOf_95 ?_
  refine g_putI (kk := 1) (by decide) (cel_1 _ _ _) (pI_1_7 _ _ _ _) rfl inX4 tyX4_ok nmX4 fl_X4_50 (by decide) (Nat.le_of_ble_eq_true rfl) rfl (by decide +kernel) dX4_copyOf_98 ?_
  refine g_aload_n dX4_copyOf_101 rfl ?_
  refine g_aload_n dX4_copyOf_102 rfl ?_
  refine g_get (kk := 27) (by decide) (cel_27 _ _ _) rfl inX4 fl_X4_53 (by decide) rfl dX4_copyOf_103 ?_
  refine g_putI (kk := 1) (by decide) (cel_1 _ _ _) (pI_1_8 _ _ _ _) rfl inX4 tyX4_ok nmX4 fl_X4_53 (by decide) (Nat.le_of_ble_eq_true rfl) rfl (by decide +kernel) dX4_copyOf_106 ?_
  refine g_aload_n dX4_copyOf_109 rfl ?_
  refine g_get (kk := 27) (by decide) (cel_27 _ _ _) rfl inX4 fl_X4_35 (by decide) rfl dX4_copyOf_110 ?_
  refine g_iconst (v := 0) dX4_copyOf_113 (by decide) ?_
  refine g_aload_n dX4_copyOf_114 rfl ?_
  refine g_get (kk := 1) (by decide) (cel_1 _ _ _) rfl inX4 fl_X4_35 (by decide) rfl dX4_copyOf_115 ?_
  refine g_iconst (v := 0) dX4_copyOf_118 (by decide) ?_
  refine g_bipush (v := 8) dX4_copyOf_119 (by decide) ?_
  refine g_copyI (k0 := 38) (k1 := 12) ac_X4_56 ac_nat ac_st ac_in (by decide) (fun f g => cel_38 _ f g) (by decide) (fun f g => cel_12 _ f g) (by decide) (by decide) (by decide) (by decide) (by decide) (by decide) (by decide) dX4_copyOf_121 ?_
  refine g_aload_n dX4_copyOf_124 rfl ?_
  refine g_get (kk := 27) (by decide) (cel_27 _ _ _) rfl inX4 fl_X4_38 (by decide) rfl dX4_copyOf_125 ?_
  refine g_iconst (v := 0) dX4_copyOf_128 (by decide) ?_
  refine g_aload_n dX4_copyOf_129 rfl ?_
  refine g_get (kk := 1) (by decide) (cel_1 _ _ _) rfl inX4 fl_X4_38 (by decide) rfl dX4_copyOf_130 ?_
  refine g_iconst (v := 0) dX4_copyOf_133 (by decide) ?_
  refine g_bipush (v := 8) dX4_copyOf_134 (by decide) ?_
  refine g_copyI (k0 := 39) (k1 := 13) ac_X4_56 ac_nat ac_st ac_in (by decide) (fun f g => cel_39 _ f g) (by decide) (fun f g => cel_13 _ f g) (by decide) (by decide) (by decide) (by decide) (by decide) (by decide) (by decide) dX4_copyOf_136 ?_
  exact g_vret_w hr hf dX4_copyOf_139
-- X2_copyOf_7_46
def f_X2_copyOf_7_46  (M : Mem) : Option Mem :=
  let M1 := rI M 8 (va_cpy (M.1 47) (M.1 8) 0 0 8)
  let M2 := rI M1 9 (va_cpy (M1.1 48) (M1.1 9) 0 0 8)
  let M3 := rL M2 10 (va_cpy (M2.2 49) (M2.2 10) 0 0 8)
  let M4 := rL M3 11 (va_cpy (M3.2 50) (M3.2 11) 0 0 8)
  let M5 := mI M4 7 4 (M4.1 46 4)
  some M5
set_option maxHeartbeats 4000000 in
set_option maxRecDepth 100000 in
theorem c_X2_copyOf_7_46 {l : Launch}  {M : Mem} {M1 : Mem} (hf : f_X2_copyOf_7_46 M = some M1) : Cn l yX2_copyOf cX2_copyOf 2 none 1 60 (fun E => [.ref (E.1 7), .ref (E.1 46)]) M (none, M1) := by
  unfold f_X2_copyOf_7_46 at hf
  refine cn_of RX2 (fun E => [some (.ref (E.1 7)), some (.ref (E.1 46))]) (by decide +kernel) rfl (fun E => Nat.le_of_ble_eq_true rfl) (fun E => rfl) (fun X hr => ?_)
  refine g_aload_n dX2_copyOf_0 rfl ?_
  refine g_get (kk := 46) (by decide) (cel_46 _ _ _) rfl inX2 fl_X2_9 (by decide) rfl dX2_copyOf_1 ?_
  refine g_iconst (v := 0) dX2_copyOf_4 (by decide) ?_
  refine g_aload_n dX2_copyOf_5 rfl ?_
  refine g_get (kk := 7) (by decide) (cel_7 _ _ _) rfl inX2 fl_X2_9 (by decide) rfl dX2_copyOf_6 ?_
  refine g_iconst (v := 0) dX2_copyOf_9 (by decide) ?_
  refine g_bipush (v := 8) dX2_copyOf_10 (by decide) ?_
  refine g_copyI (k0 := 47) (k1 := 8) ac_X2_29 ac_nat ac_st ac_in (by decide) (fun f g => cel_47 _ f g) (by decide) (fun f g => cel_8 _ f g) (by decide) (by decide) (by decide) (by decide) (by decide) (by decide) (by decide) dX2_copyOf_12 ?_
  refine g_aload_n dX2_copyOf_15 rfl ?_
  refine g_get (kk := 46) (by decide) (cel_46 _ _ _) rfl inX2 fl_X2_15 (by decide) rfl dX2_copyOf_16 ?_
  refine g_iconst (v := 0) dX2_copyOf_19 (by decide) ?_
  refine g_aload_n dX2_copyOf_20 rfl ?_
  refine g_get (kk := 7) (by decide) (cel_7 _ _ _) rfl inX2 fl_X2_15 (by decide) rfl dX2_copyOf_21 ?_
  refine g_iconst (v := 0) dX2_copyOf_24 (by decide) ?_
  refine g_bipush (v := 8) dX2_copyOf_25 (by decide) ?_
  refine g_copyI (k0 := 48) (k1 := 9) ac_X2_29 ac_nat ac_st ac_in (by decide) (fun f g => cel_48 _ f g) (by decide) (fun f g => cel_9 _ f g) (by decide) (by decide) (by decide) (by decide) (by decide) (by decide) (by decide) dX2_copyOf_27 ?_
  refine g_aload_n dX2_copyOf_30 rfl ?_
  refine g_get (kk := 46) (by decide) (cel_46 _ _ _) rfl inX2 fl_X2_18 (by decide) rfl dX2_copyOf_31 ?_
  refine g_iconst (v := 0) dX2_copyOf_34 (by decide) ?_
  refine g_aload_n dX2_copyOf_35 rfl ?_
  refine g_get (kk := 7) (by decide) (cel_7 _ _ _) rfl inX2 fl_X2_18 (by decide) rfl dX2_copyOf_36 ?_
  refine g_iconst (v := 0) dX2_copyOf_39 (by decide) ?_
  refine g_bipush (v := 8) dX2_copyOf_40 (by decide) ?_
  refine g_copyL (k0 := 49) (k1 := 10) ac_X2_29 ac_nat ac_st ac_in (by decide) (fun f g => cel_49 _ f g) (by decide) (fun f g => cel_10 _ f g) (by decide) (by decide) (by decide) (by decide) (by decide) (by decide) (by decide) dX2_copyOf_42 ?_
  refine g_aload_n dX2_copyOf_45 rfl ?_
  refine g_get (kk := 46) (by decide) (cel_46 _ _ _) rfl inX2 fl_X2_22 (by decide) rfl dX2_copyOf_46 ?_
  refine g_iconst (v := 0) dX2_copyOf_49 (by decide) ?_
  refine g_aload_n dX2_copyOf_50 rfl ?_
  refine g_get (kk := 7) (by decide) (cel_7 _ _ _) rfl inX2 fl_X2_22 (by decide) rfl dX2_copyOf_51 ?_
  refine g_iconst (v := 0) dX2_copyOf_54 (by decide) ?_
  refine g_bipush (v := 8) dX2_copyOf_55 (by decide) ?_
  refine g_copyL (k0 := 50) (k1 := 11) ac_X2_29 ac_nat ac_st ac_in (by decide) (fun f g => cel_50 _ f g) (by decide) (fun f g => cel_11 _ f g) (by decide) (by decide) (by decide) (by decide) (by decide) (by decide) (by decide) dX2_copyOf_57 ?_
  refine g_aload_n dX2_copyOf_60 rfl ?_
  refine g_aload_n dX2_copyOf_61 rfl ?_
  refine g_get (kk := 46) (by decide) (cel_46 _ _ _) rfl inX2 fl_X2_25 (by decide) rfl dX2_copyOf_62 ?_
  refine g_putI (kk := 7) (by decide) (cel_7 _ _ _) (pI_7_4 _ _ _ _) rfl inX2 tyX2_ok nmX2 fl_X2_25 (by decide) (Nat.le_of_ble_eq_true rfl) rfl (by decide +kernel) dX2_copyOf_65 ?_
  exact g_vret_w hr hf dX2_copyOf_68
-- X4_copyOf_1_40
def f_X4_copyOf_1_40  (M : Mem) : Option Mem :=
  let M1 := rI M 2 (va_cpy (M.1 41) (M.1 2) 0 0 8)
  let M2 := rI M1 3 (va_cpy (M1.1 42) (M1.1 3) 0 0 8)
  let M3 := rI M2 4 (va_cpy (M2.1 43) (M2.1 4) 0 0 8)
  let M4 := rI M3 5 (va_cpy (M3.1 44) (M3.1 5) 0 0 8)
  let M5 := rL M4 6 (va_cpy (M4.2 45) (M4.2 6) 0 0 4)
  (f_X2_copyOf_7_46 M5).bind fun r6 =>
  let M7 := mI r6 1 6 (r6.1 40 6)
  let M8 := mI M7 1 7 (M7.1 40 7)
  let M9 := mI M8 1 8 (M8.1 40 8)
  let M10 := rI M9 12 (va_cpy (M9.1 51) (M9.1 12) 0 0 8)
  let M11 := rI M10 13 (va_cpy (M10.1 52) (M10.1 13) 0 0 8)
  some M11
set_option maxHeartbeats 4000000 in
set_option maxRecDepth 100000 in
theorem c_X4_copyOf_1_40 {l : Launch}  {M : Mem} {M1 : Mem} (hf : f_X4_copyOf_1_40 M = some M1) : Cn l yX4_copyOf cX4_copyOf 2 none 2 81 (fun E => [.ref (E.1 1), .ref (E.1 40)]) M (none, M1) := by
  unfold f_X4_copyOf_1_40 at hf
  refine cn_of RX4 (fun E => [some (.ref (E.1 1)), some (.ref (E.1 40))]) (by decide +kernel) rfl (fun E => Nat.le_of_ble_eq_true rfl) (fun E => rfl) (fun X hr => ?_)
  refine g_aload_n dX4_copyOf_0 rfl ?_
  refine g_get (kk := 40) (by decide) (cel_40 _ _ _) rfl inX4 fl_X4_9 (by decide) rfl dX4_copyOf_1 ?_
  refine g_iconst (v := 0) dX4_copyOf_4 (by decide) ?_
  refine g_aload_n dX4_copyOf_5 rfl ?_
  refine g_get (kk := 1) (by decide) (cel_1 _ _ _) rfl inX4 fl_X4_9 (by decide) rfl dX4_copyOf_6 ?_
  refine g_iconst (v := 0) dX4_copyOf_9 (by decide) ?_
  refine g_bipush (v := 8) dX4_copyOf_10 (by decide) ?_
  refine g_copyI (k0 := 41) (k1 := 2) ac_X4_56 ac_nat ac_st ac_in (by decide) (fun f g => cel_41 _ f g) (by decide) (fun f g => cel_2 _ f g) (by decide) (by decide) (by decide) (by decide) (by decide) (by decide) (by decide) dX4_copyOf_12 ?_
  refine g_aload_n dX4_copyOf_15 rfl ?_
  refine g_get (kk := 40) (by decide) (cel_40 _ _ _) rfl inX4 fl_X4_15 (by decide) rfl dX4_copyOf_16 ?_
  refine g_iconst (v := 0) dX4_copyOf_19 (by decide) ?_
  refine g_aload_n dX4_copyOf_20 rfl ?_
  refine g_get (kk := 1) (by decide) (cel_1 _ _ _) rfl inX4 fl_X4_15 (by decide) rfl dX4_copyOf_21 ?_
  refine g_iconst (v := 0) dX4_copyOf_24 (by decide) ?_
  refine g_bipush (v := 8) dX4_copyOf_25 (by decide) ?_
  refine g_copyI (k0 := 42) (k1 := 3) ac_X4_56 ac_nat ac_st ac_in (by decide) (fun f g => cel_42 _ f g) (by decide) (fun f g => cel_3 _ f g) (by decide) (by decide) (by decide) (by decide) (by decide) (by decide) (by decide) dX4_copyOf_27 ?_
  refine g_aload_n dX4_copyOf_30 rfl ?_
  refine g_get (kk := 40) (by decide) (cel_40 _ _ _) rfl inX4 fl_X4_18 (by decide) rfl dX4_copyOf_31 ?_
  refine g_iconst (v := 0) dX4_copyOf_34 (by decide) ?_
  refine g_aload_n dX4_copyOf_35 rfl ?_
  refine g_get (kk := 1) (by decide) (cel_1 _ _ _) rfl inX4 fl_X4_18 (by decide) rfl dX4_copyOf_36 ?_
  refine g_iconst (v := 0) dX4_copyOf_39 (by decide) ?_
  refine g_bipush (v := 8) dX4_copyOf_40 (by decide) ?_
  refine g_copyI (k0 := 43) (k1 := 4) ac_X4_56 ac_nat ac_st ac_in (by decide) (fun f g => cel_43 _ f g) (by decide) (fun f g => cel_4 _ f g) (by decide) (by decide) (by decide) (by decide) (by decide) (by decide) (by decide) dX4_copyOf_42 ?_
  refine g_aload_n dX4_copyOf_45 rfl ?_
  refine g_get (kk := 40) (by decide) (cel_40 _ _ _) rfl inX4 fl_X4_21 (by decide) rfl dX4_copyOf_46 ?_
  refine g_iconst (v := 0) dX4_copyOf_49 (by decide) ?_
  refine g_aload_n dX4_copyOf_50 rfl ?_
  refine g_get (kk := 1) (by decide) (cel_1 _ _ _) rfl inX4 fl_X4_21 (by decide) rfl dX4_copyOf_51 ?_
  refine g_iconst (v := 0) dX4_copyOf_54 (by decide) ?_
  refine g_bipush (v := 8) dX4_copyOf_55 (by decide) ?_
  refine g_copyI (k0 := 44) (k1 := 5) ac_X4_56 ac_nat ac_st ac_in (by decide) (fun f g => cel_44 _ f g) (by decide) (fun f g => cel_5 _ f g) (by decide) (by decide) (by decide) (by decide) (by decide) (by decide) (by decide) dX4_copyOf_57 ?_
  refine g_aload_n dX4_copyOf_60 rfl ?_
  refine g_get (kk := 40) (by decide) (cel_40 _ _ _) rfl inX4 fl_X4_24 (by decide) rfl dX4_copyOf_61 ?_
  refine g_iconst (v := 0) dX4_copyOf_64 (by decide) ?_
  refine g_aload_n dX4_copyOf_65 rfl ?_
  refine g_get (kk := 1) (by decide) (cel_1 _ _ _) rfl inX4 fl_X4_24 (by decide) rfl dX4_copyOf_66 ?_
  refine g_iconst (v := 0) dX4_copyOf_69 (by decide) ?_
  refine g_iconst (v := 4) dX4_copyOf_70 (by decide) ?_
  refine g_copyL (k0 := 45) (k1 := 6) ac_X4_56 ac_nat ac_st ac_in (by decide) (fun f g => cel_45 _ f g) (by decide) (fun f g => cel_6 _ f g) (by decide) (by decide) (by decide) (by decide) (by decide) (by decide) (by decide) dX4_copyOf_71 ?_
  refine g_aload_n dX4_copyOf_74 rfl ?_
  refine g_get (kk := 1) (by decide) (cel_1 _ _ _) rfl inX4 fl_X4_31 (by decide) rfl dX4_copyOf_75 ?_
  refine g_aload_n dX4_copyOf_78 rfl ?_
  refine g_get (kk := 40) (by decide) (cel_40 _ _ _) rfl inX4 fl_X4_31 (by decide) rfl dX4_copyOf_79 ?_
  obtain ⟨r6, hq, hf⟩ := bnd hf
  refine g_cV_R_V (c_X2_copyOf_7_46 hq) cv_X4_62 (by decide) (cel_7 _ _ _) rfl ⟨by decide, by decide⟩ (Nat.le_of_ble_eq_true rfl) dX4_copyOf_82 ?_
  refine g_aload_n dX4_copyOf_85 rfl ?_
  refine g_aload_n dX4_copyOf_86 rfl ?_
  refine g_get (kk := 40) (by decide) (cel_40 _ _ _) rfl inX4 fl_X4_47 (by decide) rfl dX4_copyOf_87 ?_
  refine g_putI (kk := 1) (by decide) (cel_1 _ _ _) (pI_1_6 _ _ _ _) rfl inX4 tyX4_ok nmX4 fl_X4_47 (by decide) (Nat.le_of_ble_eq_true rfl) rfl (by decide +kernel) dX4_copyOf_90 ?_
  refine g_aload_n dX4_copyOf_93 rfl ?_
  refine g_aload_n dX4_copyOf_94 rfl ?_
  refine g_get (kk := 40) (by decide) (cel_40 _ _ _) rfl inX4 fl_X4_50 (by decide) rfl dX4_copyOf_95 ?_
  refine g_putI (kk := 1) (by decide) (cel_1 _ _ _) (pI_1_7 _ _ _ _) rfl inX4 tyX4_ok nmX4 fl_X4_50 (by decide) (Nat.le_of_ble_eq_true rfl) rfl (by decide +kernel) dX4_copyOf_98 ?_
  refine g_aload_n dX4_copyOf_101 rfl ?_
  refine g_aload_n dX4_copyOf_102 rfl ?_
  refine g_get (kk := 40) (by decide) (cel_40 _ _ _) rfl inX4 fl_X4_53 (by decide) rfl dX4_copyOf_103 ?_
  refine g_putI (kk := 1) (by decide) (cel_1 _ _ _) (pI_1_8 _ _ _ _) rfl inX4 tyX4_ok nmX4 fl_X4_53 (by decide) (Nat.le_of_ble_eq_true rfl) rfl (by decide +kernel) dX4_copyOf_106 ?_
  refine g_aload_n dX4_copyOf_109 rfl ?_
  refine g_get (kk := 40) (by decide) (cel_40 _ _ _) rfl inX4 fl_X4_35 (by decide) rfl dX4_copyOf_110 ?_
  refine g_iconst (v := 0) dX4_copyOf_113 (by decide) ?_
  refine g_aload_n dX4_copyOf_114 rfl ?_
  refine g_get (kk := 1) (by decide) (cel_1 _ _ _) rfl inX4 fl_X4_35 (by decide) rfl dX4_copyOf_115 ?_
  refine g_iconst (v := 0) dX4_copyOf_118 (by decide) ?_
  refine g_bipush (v := 8) dX4_copyOf_119 (by decide) ?_
  refine g_copyI (k0 := 51) (k1 := 12) ac_X4_56 ac_nat ac_st ac_in (by decide) (fun f g => cel_51 _ f g) (by decide) (fun f g => cel_12 _ f g) (by decide) (by decide) (by decide) (by decide) (by decide) (by decide) (by decide) dX4_copyOf_121 ?_
  refine g_aload_n dX4_copyOf_124 rfl ?_
  refine g_get (kk := 40) (by decide) (cel_40 _ _ _) rfl inX4 fl_X4_38 (by decide) rfl dX4_copyOf_125 ?_
  refine g_iconst (v := 0) dX4_copyOf_128 (by decide) ?_
  refine g_aload_n dX4_copyOf_129 rfl ?_
  refine g_get (kk := 1) (by decide) (cel_1 _ _ _) rfl inX4 fl_X4_38 (by decide) rfl dX4_copyOf_130 ?_
  refine g_iconst (v := 0) dX4_copyOf_133 (by decide) ?_
  refine g_bipush (v := 8) dX4_copyOf_134 (by decide) ?_
  refine g_copyI (k0 := 52) (k1 := 13) ac_X4_56 ac_nat ac_st ac_in (by decide) (fun f g => cel_52 _ f g) (by decide) (fun f g => cel_13 _ f g) (by decide) (by decide) (by decide) (by decide) (by decide) (by decide) (by decide) dX4_copyOf_136 ?_
  exact g_vret_w hr hf dX4_copyOf_139
-- X7_from
def f_X7_from (x1 : Int32) (M : Mem) : Option (Int32 × Mem) :=
  if (f_X7_isBelow x1 (2 : Int32)) = 0 then ((f_X7_refuseBad (-2 : Int32) M).bind fun r4 =>
  some (r4.1, r4.2))
  else (ck x1 2 <|
  if (M.1 54 x1.toNatClampNeg) = 0 then ((f_X7_refuseNo M).bind fun r3 =>
  some (r3.1, r3.2))
  else (ck x1 2 <|
  if x1 = 0 then ((f_X4_copyOf_1_27 M).bind fun r1 =>
  some ((1 : Int32), r1))
  else ((f_X4_copyOf_1_40 M).bind fun r2 =>
  some ((1 : Int32), r2))))
set_option maxHeartbeats 4000000 in
set_option maxRecDepth 100000 in
theorem c_X7_from {l : Launch} {x1 : Int32} {M : Mem} {r : Int32} {M1 : Mem} (hf : f_X7_from x1 M = some (r, M1)) : Cn l yX7_from cX7_from 2 (some .int) 3 102 (fun E => [.ref (E.1 0), .int x1]) M (some (.int r), M1) := by
  unfold f_X7_from at hf
  refine cn_of RX7 (fun E => [some (.ref (E.1 0)), some (.int x1)]) (by decide +kernel) rfl (fun E => Nat.le_of_ble_eq_true rfl) (fun E => rfl) (fun X hr => ?_)
  refine g_iload_n dX7_from_0 rfl ?_
  refine g_iconst (v := 2) dX7_from_1 (by decide) ?_
  refine g_cS_II_I (c_X7_isBelow rfl) cs_X7_56 ⟨by decide, by decide⟩ (Nat.le_of_ble_eq_true rfl) dX7_from_2 ?_
  refine g_if_ne (tgt := 15) dX7_from_5 (by decide) (fun hc => ?_) (fun hc => ?_)
  · have hf := ite_f hc hf
    refine g_aload_n dX7_from_15 rfl ?_
    refine g_get (kk := 0) (by decide) (cel_0 _ _ _) rfl inX7 fl_X7_23 (by decide) rfl dX7_from_16 ?_
    refine g_iload_n dX7_from_19 rfl ?_
    obtain ⟨hi, hf⟩ := ck_s hf
    refine g_zaload (kk := 54) (by decide) (fun f g => cel_54 _ f g) hi rfl dX7_from_20 ?_
    refine g_if_ne (tgt := 29) dX7_from_21 (by decide) (fun hc => ?_) (fun hc => ?_)
    · have hf := ite_f hc hf
      refine g_aload_n dX7_from_29 rfl ?_
      refine g_get (kk := 0) (by decide) (cel_0 _ _ _) rfl inX7 fl_X7_10 (by decide) rfl dX7_from_30 ?_
      refine g_aload_n dX7_from_33 rfl ?_
      refine g_get (kk := 0) (by decide) (cel_0 _ _ _) rfl inX7 fl_X7_19 (by decide) rfl dX7_from_34 ?_
      refine g_iload_n dX7_from_37 rfl ?_
      obtain ⟨hi, hf⟩ := ck_s hf
      refine g_aaload hi dX7_from_38 (fun hc => ?_) (fun hc => ?_)
      · have hf := ite_t hc hf
        obtain ⟨r1, hq, hf⟩ := bnd hf
        refine g_cV_R_V (c_X4_copyOf_1_27 hq) cv_X7_134 (by decide) (cel_1 _ _ _) rfl ⟨by decide, by decide⟩ (Nat.le_of_ble_eq_true rfl) dX7_from_39 ?_
        refine g_iconst (v := 1) dX7_from_42 (by decide) ?_
        exact g_iret_w hr hf dX7_from_43
      · have hf := ite_f hc hf
        obtain ⟨r2, hq, hf⟩ := bnd hf
        refine g_cV_R_V (c_X4_copyOf_1_40 hq) cv_X7_134 (by decide) (cel_1 _ _ _) rfl ⟨by decide, by decide⟩ (Nat.le_of_ble_eq_true rfl) dX7_from_39 ?_
        refine g_iconst (v := 1) dX7_from_42 (by decide) ?_
        exact g_iret_w hr hf dX7_from_43
    · have hf := ite_t hc hf
      refine g_aload_n dX7_from_24 rfl ?_
      obtain ⟨r3, hq, hf⟩ := bnd hf
      refine g_cV_0_I (c_X7_refuseNo (r := r3.1) (M1 := r3.2) hq) cv_X7_100 (by decide) (cel_0 _ _ _) rfl ⟨by decide, by decide⟩ (Nat.le_of_ble_eq_true rfl) dX7_from_25 ?_
      exact g_iret_w hr hf dX7_from_28
  · have hf := ite_t hc hf
    refine g_aload_n dX7_from_8 rfl ?_
    refine g_bipush (v := (-2)) dX7_from_9 (by decide) ?_
    obtain ⟨r4, hq, hf⟩ := bnd hf
    refine g_cV_I_I (c_X7_refuseBad (r := r4.1) (M1 := r4.2) hq) cv_X7_60 (by decide) (cel_0 _ _ _) rfl ⟨by decide, by decide⟩ (Nat.le_of_ble_eq_true rfl) dX7_from_11 ?_
    exact g_iret_w hr hf dX7_from_14
-- X7_status
def f_X7_status (x1 : Int32) (M : Mem) : Option (Int32 × Mem) :=
  if x1 = 0 then (some ((M.1 0 9), M))
  else if x1 = 1 then (some ((M.1 0 10), M))
  else if x1 = 2 then (some ((M.1 0 11), M))
  else ((f_X7_refuseBad (-1 : Int32) M).bind fun r1 =>
  some (r1.1, r1.2))
set_option maxHeartbeats 4000000 in
set_option maxRecDepth 100000 in
theorem c_X7_status {l : Launch} {x1 : Int32} {M : Mem} {r : Int32} {M1 : Mem} (hf : f_X7_status x1 M = some (r, M1)) : Cn l yX7_status cX7_status 2 (some .int) 1 21 (fun E => [.ref (E.1 0), .int x1]) M (some (.int r), M1) := by
  unfold f_X7_status at hf
  refine cn_of RX7 (fun E => [some (.ref (E.1 0)), some (.int x1)]) (by decide +kernel) rfl (fun E => Nat.le_of_ble_eq_true rfl) (fun E => rfl) (fun X hr => ?_)
  refine g_iload_n dX7_status_0 rfl ?_
  by_cases h0 : x1 = 0
  · have hf := ite_t h0 hf
    refine g_tabIn (tgt := 28) dX7_status_1 (by rw [h0]; decide) (by rw [h0]; decide) (by rw [h0]; rfl) (by decide) ?_
    refine g_aload_n dX7_status_28 rfl ?_
    refine g_get (kk := 0) (by decide) (cel_0 _ _ _) rfl inX7 fl_X7_237 (by decide) rfl dX7_status_29 ?_
    exact g_iret_w hr hf dX7_status_32
  have hf := ite_f h0 hf
  by_cases h1 : x1 = 1
  · have hf := ite_t h1 hf
    refine g_tabIn (tgt := 33) dX7_status_1 (by rw [h1]; decide) (by rw [h1]; decide) (by rw [h1]; rfl) (by decide) ?_
    refine g_aload_n dX7_status_33 rfl ?_
    refine g_get (kk := 0) (by decide) (cel_0 _ _ _) rfl inX7 fl_X7_240 (by decide) rfl dX7_status_34 ?_
    exact g_iret_w hr hf dX7_status_37
  have hf := ite_f h1 hf
  by_cases h2 : x1 = 2
  · have hf := ite_t h2 hf
    refine g_tabIn (tgt := 38) dX7_status_1 (by rw [h2]; decide) (by rw [h2]; decide) (by rw [h2]; rfl) (by decide) ?_
    refine g_aload_n dX7_status_38 rfl ?_
    refine g_get (kk := 0) (by decide) (cel_0 _ _ _) rfl inX7 fl_X7_243 (by decide) rfl dX7_status_39 ?_
    exact g_iret_w hr hf dX7_status_42
  have hf := ite_f h2 hf
  have n0 := lv_neT (a := 0) h0 (by decide)
  have n1 := lv_neT (a := 1) h1 (by decide)
  have n2 := lv_neT (a := 2) h2 (by decide)
  refine g_tabOut (tgt := 43) dX7_status_1 (by omega) (by decide) ?_
  refine g_aload_n dX7_status_43 rfl ?_
  refine g_iconst (v := (-1)) dX7_status_44 (by decide) ?_
  obtain ⟨r1, hq, hf⟩ := bnd hf
  refine g_cV_I_I (c_X7_refuseBad (r := r1.1) (M1 := r1.2) hq) cv_X7_60 (by decide) (cel_0 _ _ _) rfl ⟨by decide, by decide⟩ (Nat.le_of_ble_eq_true rfl) dX7_status_45 ?_
  exact g_iret_w hr hf dX7_status_48
-- X7_count
def f_X7_count (x1 : Int32) (M : Mem) : Option (Int32 × Mem) :=
  if x1 = 0 then (some ((M.1 1 6), M))
  else if x1 = 1 then (some ((M.1 1 7), M))
  else if x1 = 2 then (some ((M.1 7 4), M))
  else if x1 = 3 then (some ((M.1 1 8), M))
  else if x1 = 4 then (some ((M.1 55 0), M))
  else ((f_X7_refuseBad (-2 : Int32) M).bind fun r1 =>
  some (r1.1, r1.2))
set_option maxHeartbeats 4000000 in
set_option maxRecDepth 100000 in
theorem c_X7_count {l : Launch} {x1 : Int32} {M : Mem} {r : Int32} {M1 : Mem} (hf : f_X7_count x1 M = some (r, M1)) : Cn l yX7_count cX7_count 2 (some .int) 1 21 (fun E => [.ref (E.1 0), .int x1]) M (some (.int r), M1) := by
  unfold f_X7_count at hf
  refine cn_of RX7 (fun E => [some (.ref (E.1 0)), some (.int x1)]) (by decide +kernel) rfl (fun E => Nat.le_of_ble_eq_true rfl) (fun E => rfl) (fun X hr => ?_)
  refine g_iload_n dX7_count_0 rfl ?_
  by_cases h0 : x1 = 0
  · have hf := ite_t h0 hf
    refine g_tabIn (tgt := 36) dX7_count_1 (by rw [h0]; decide) (by rw [h0]; decide) (by rw [h0]; rfl) (by decide) ?_
    refine g_aload_n dX7_count_36 rfl ?_
    refine g_get (kk := 0) (by decide) (cel_0 _ _ _) rfl inX7 fl_X7_10 (by decide) rfl dX7_count_37 ?_
    refine g_get (kk := 1) (by decide) (cel_1 _ _ _) rfl inX4 fl_X7_64 (by decide) rfl dX7_count_40 ?_
    exact g_iret_w hr hf dX7_count_43
  have hf := ite_f h0 hf
  by_cases h1 : x1 = 1
  · have hf := ite_t h1 hf
    refine g_tabIn (tgt := 44) dX7_count_1 (by rw [h1]; decide) (by rw [h1]; decide) (by rw [h1]; rfl) (by decide) ?_
    refine g_aload_n dX7_count_44 rfl ?_
    refine g_get (kk := 0) (by decide) (cel_0 _ _ _) rfl inX7 fl_X7_10 (by decide) rfl dX7_count_45 ?_
    refine g_get (kk := 1) (by decide) (cel_1 _ _ _) rfl inX4 fl_X7_94 (by decide) rfl dX7_count_48 ?_
    exact g_iret_w hr hf dX7_count_51
  have hf := ite_f h1 hf
  by_cases h2 : x1 = 2
  · have hf := ite_t h2 hf
    refine g_tabIn (tgt := 52) dX7_count_1 (by rw [h2]; decide) (by rw [h2]; decide) (by rw [h2]; rfl) (by decide) ?_
    refine g_aload_n dX7_count_52 rfl ?_
    refine g_get (kk := 0) (by decide) (cel_0 _ _ _) rfl inX7 fl_X7_10 (by decide) rfl dX7_count_53 ?_
    refine g_get (kk := 1) (by decide) (cel_1 _ _ _) rfl inX4 fl_X7_192 (by decide) rfl dX7_count_56 ?_
    refine g_get (kk := 7) (by decide) (cel_7 _ _ _) rfl inX2 fl_X7_196 (by decide) rfl dX7_count_59 ?_
    exact g_iret_w hr hf dX7_count_62
  have hf := ite_f h2 hf
  by_cases h3 : x1 = 3
  · have hf := ite_t h3 hf
    refine g_tabIn (tgt := 63) dX7_count_1 (by rw [h3]; decide) (by rw [h3]; decide) (by rw [h3]; rfl) (by decide) ?_
    refine g_aload_n dX7_count_63 rfl ?_
    refine g_get (kk := 0) (by decide) (cel_0 _ _ _) rfl inX7 fl_X7_10 (by decide) rfl dX7_count_64 ?_
    refine g_get (kk := 1) (by decide) (cel_1 _ _ _) rfl inX4 fl_X7_97 (by decide) rfl dX7_count_67 ?_
    exact g_iret_w hr hf dX7_count_70
  have hf := ite_f h3 hf
  by_cases h4 : x1 = 4
  · have hf := ite_t h4 hf
    refine g_tabIn (tgt := 71) dX7_count_1 (by rw [h4]; decide) (by rw [h4]; decide) (by rw [h4]; rfl) (by decide) ?_
    refine g_aload_n dX7_count_71 rfl ?_
    refine g_get (kk := 0) (by decide) (cel_0 _ _ _) rfl inX7 fl_X7_30 (by decide) rfl dX7_count_72 ?_
    refine g_get (kk := 55) (by decide) (cel_55 _ _ _) rfl inX3 fl_X7_122 (by decide) rfl dX7_count_75 ?_
    exact g_iret_w hr hf dX7_count_78
  have hf := ite_f h4 hf
  have n0 := lv_neT (a := 0) h0 (by decide)
  have n1 := lv_neT (a := 1) h1 (by decide)
  have n2 := lv_neT (a := 2) h2 (by decide)
  have n3 := lv_neT (a := 3) h3 (by decide)
  have n4 := lv_neT (a := 4) h4 (by decide)
  refine g_tabOut (tgt := 79) dX7_count_1 (by omega) (by decide) ?_
  refine g_aload_n dX7_count_79 rfl ?_
  refine g_bipush (v := (-2)) dX7_count_80 (by decide) ?_
  obtain ⟨r1, hq, hf⟩ := bnd hf
  refine g_cV_I_I (c_X7_refuseBad (r := r1.1) (M1 := r1.2) hq) cv_X7_60 (by decide) (cel_0 _ _ _) rfl ⟨by decide, by decide⟩ (Nat.le_of_ble_eq_true rfl) dX7_count_82 ?_
  exact g_iret_w hr hf dX7_count_85
-- X7_mixed
def f_X7_mixed (x0 : Int64) (x2 : Int64) : Int64 :=
  (((31 : Int64) * x0) + x2)
set_option maxHeartbeats 4000000 in
set_option maxRecDepth 100000 in
theorem c_X7_mixed {l : Launch} {x0 : Int64} {x2 : Int64} {M : Mem} {r : Int64} (hf : f_X7_mixed x0 x2 = r) : Cn l yX7_mixed cX7_mixed 4 (some .long) 0 0 (fun E => [.long x0, .long x2]) M (some (.long r), M) := by
  unfold f_X7_mixed at hf
  refine cn_of RX7 (fun E => [some (.long x0), none, some (.long x2), none]) (by decide +kernel) rfl (fun E => Nat.le_of_ble_eq_true rfl) (fun E => rfl) (fun X hr => ?_)
  refine g_ldc2 cl_X7_296 dX7_mixed_0 ?_
  refine g_lload_n dX7_mixed_3 rfl ?_
  refine g_lmul dX7_mixed_4 ?_
  refine g_lload_n dX7_mixed_5 rfl ?_
  refine g_ladd dX7_mixed_6 ?_
  exact g_lret_t hr hf dX7_mixed_7
-- X7_mixedName
def b_X7_mixedName_18   (x2 : Int64) (x4 : Int32) : Nat → Int64 → Int32 → Option Int64
  | 0, _, _ => none
  | n + 1, x5, x7 =>
    if x4 ≤ x7 then (some x5)
    else (b_X7_mixedName_18 x2 x4 n (f_X7_mixed x5 (f_X1_syllable x2 x7).toInt64) (x7 + (1 : Int32)))
set_option maxHeartbeats 4000000 in
set_option maxRecDepth 100000 in
theorem w_X7_mixedName_18 {X : Cx} {r : Int64} {M : Mem}  {x2 : Int64} {x4 : Int32}   (hr : X.meth.sig.returnType = (some .long)) : ∀ (n : Nat) {x5 : Int64} {x7 : Int32}, b_X7_mixedName_18 x2 x4 n x5 x7 = some r → G X (some (.long r), M) RX7 cX7_mixedName 8 1 23 18 [none, none, some (.long x2), none, some (.int x4), some (.long x5), none, some (.int x7)] [] M := by
  intro n
  induction n with
  | zero => intro x5 x7 hf; cases hf
  | succ n ih =>
    intro x5 x7 hf
    rw [b_X7_mixedName_18.eq_2] at hf
    refine g_iload dX7_mixedName_18 rfl ?_
    refine g_iload dX7_mixedName_20 rfl ?_
    refine g_icmp_ge (tgt := 45) dX7_mixedName_22 (by decide) (fun hc => ?_) (fun hc => ?_)
    · have hf := ite_t hc hf
      refine g_lload dX7_mixedName_45 rfl ?_
      exact g_lret_p hr hf dX7_mixedName_47
    · have hf := ite_f hc hf
      refine g_lload dX7_mixedName_25 rfl ?_
      refine g_lload_n dX7_mixedName_27 rfl ?_
      refine g_iload dX7_mixedName_28 rfl ?_
      refine g_cS_JI_I (c_X1_syllable rfl) cs_X7_270 ⟨by decide, by decide⟩ (Nat.le_of_ble_eq_true rfl) dX7_mixedName_30 ?_
      refine g_i2l dX7_mixedName_33 ?_
      refine g_cS_JJ_J (c_X7_mixed rfl) cs_X7_251 ⟨by decide, by decide⟩ (Nat.le_of_ble_eq_true rfl) dX7_mixedName_34 ?_
      refine g_lst5 dX7_mixedName_37 (by decide) lnl_i ?_
      refine g_iinc7 (v := (x7 + (1 : Int32))) dX7_mixedName_39 (by decide) lnl_n rfl ?_
      refine g_goto (tgt := 18) dX7_mixedName_42 (by decide) ?_
      exact ih hf
def f_X7_mixedName (x0 : Int64) (x2 : Int64) : Option Int64 :=
  b_X7_mixedName_18 x2 (f_X1_length x2) fu (f_X7_mixed x0 (f_X1_length x2).toInt64) (0 : Int32)
set_option maxHeartbeats 4000000 in
set_option maxRecDepth 100000 in
theorem c_X7_mixedName {l : Launch} {x0 : Int64} {x2 : Int64} {M : Mem} {r : Int64} (hf : f_X7_mixedName x0 x2 = some r) : Cn l yX7_mixedName cX7_mixedName 8 (some .long) 1 23 (fun E => [.long x0, .long x2]) M (some (.long r), M) := by
  unfold f_X7_mixedName at hf
  refine cn_of RX7 (fun E => [some (.long x0), none, some (.long x2), none, none, none, none, none]) (by decide +kernel) rfl (fun E => Nat.le_of_ble_eq_true rfl) (fun E => rfl) (fun X hr => ?_)
  refine g_lload_n dX7_mixedName_0 rfl ?_
  refine g_cS_J_I (c_X1_length rfl) cs_X7_112 ⟨by decide, by decide⟩ (Nat.le_of_ble_eq_true rfl) dX7_mixedName_1 ?_
  refine g_ist4 dX7_mixedName_4 (by decide) lnl_n ?_
  refine g_lload_n dX7_mixedName_6 rfl ?_
  refine g_iload dX7_mixedName_7 rfl ?_
  refine g_i2l dX7_mixedName_9 ?_
  refine g_cS_JJ_J (c_X7_mixed rfl) cs_X7_251 ⟨by decide, by decide⟩ (Nat.le_of_ble_eq_true rfl) dX7_mixedName_10 ?_
  refine g_lst5 dX7_mixedName_13 (by decide) lnl_i ?_
  refine g_iconst (v := 0) dX7_mixedName_15 (by decide) ?_
  refine g_ist7 dX7_mixedName_16 (by decide) lnl_n ?_
  exact g_weakr (w_X7_mixedName_18 hr fu hf) (lsd (lsd (lsk (lsd (lsk (lsk (lsd (lsk lsz))))))))
-- X7_digest
def b_X7_digest_136    : Nat → Int64 → Int32 → Mem → Option (Int64 × Mem)
  | 0, _, _, _ => none
  | n + 1, x1, x3, M =>
    if (M.1 7 4) ≤ x3 then (some ((f_X7_mixed (f_X7_mixed x1 (M.2 60 0)) (M.2 60 1)), M))
    else (ck x3 8 <|
    ck x3 8 <|
    ck x3 8 <|
    (f_X7_mixedName (f_X7_mixed (f_X7_mixed x1 (M.1 8 x3.toNatClampNeg).toInt64) (M.1 9 x3.toNatClampNeg).toInt64) (M.2 10 x3.toNatClampNeg)).bind fun r1 =>
    ck x3 8 <|
    (f_X7_mixedName r1 (M.2 11 x3.toNatClampNeg)).bind fun r2 =>
    b_X7_digest_136 n r2 (x3 + (1 : Int32)) M)
set_option maxHeartbeats 4000000 in
set_option maxRecDepth 100000 in
theorem w_X7_digest_136 {X : Cx} {r : Int64} {M1 : Mem}      (hr : X.meth.sig.returnType = (some .long)) : ∀ (n : Nat) {x1 : Int64} {x3 : Int32} {M : Mem}, b_X7_digest_136  n x1 x3 M = some (r, M1) → G X (some (.long r), M1) RX7 cX7_digest 4 2 50 136 [some (.ref (X.1.1 0)), some (.long x1), none, some (.int x3)] [] M := by
  intro n
  induction n with
  | zero => intro x1 x3 M hf; cases hf
  | succ n ih =>
    intro x1 x3 M hf
    rw [b_X7_digest_136.eq_2] at hf
    refine g_iload_n dX7_digest_136 rfl ?_
    refine g_aload_n dX7_digest_137 rfl ?_
    refine g_get (kk := 0) (by decide) (cel_0 _ _ _) rfl inX7 fl_X7_10 (by decide) rfl dX7_digest_138 ?_
    refine g_get (kk := 1) (by decide) (cel_1 _ _ _) rfl inX4 fl_X7_192 (by decide) rfl dX7_digest_141 ?_
    refine g_get (kk := 7) (by decide) (cel_7 _ _ _) rfl inX2 fl_X7_196 (by decide) rfl dX7_digest_144 ?_
    refine g_icmp_ge (tgt := 226) dX7_digest_147 (by decide) (fun hc => ?_) (fun hc => ?_)
    · have hf := ite_t hc hf
      refine g_lload_n dX7_digest_226 rfl ?_
      refine g_aload_n dX7_digest_227 rfl ?_
      refine g_get (kk := 0) (by decide) (cel_0 _ _ _) rfl inX7 fl_X7_44 (by decide) rfl dX7_digest_228 ?_
      refine g_get (kk := 60) (by decide) (cel_60 _ _ _) rfl inX0 fl_X7_230 (by decide) rfl dX7_digest_231 ?_
      refine g_cS_JJ_J (c_X7_mixed rfl) cs_X7_251 ⟨by decide, by decide⟩ (Nat.le_of_ble_eq_true rfl) dX7_digest_234 ?_
      refine g_aload_n dX7_digest_237 rfl ?_
      refine g_get (kk := 0) (by decide) (cel_0 _ _ _) rfl inX7 fl_X7_44 (by decide) rfl dX7_digest_238 ?_
      refine g_get (kk := 60) (by decide) (cel_60 _ _ _) rfl inX0 fl_X7_234 (by decide) rfl dX7_digest_241 ?_
      refine g_cS_JJ_J (c_X7_mixed rfl) cs_X7_251 ⟨by decide, by decide⟩ (Nat.le_of_ble_eq_true rfl) dX7_digest_244 ?_
      exact g_lret_w hr hf dX7_digest_247
    · have hf := ite_f hc hf
      refine g_lload_n dX7_digest_150 rfl ?_
      refine g_aload_n dX7_digest_151 rfl ?_
      refine g_get (kk := 0) (by decide) (cel_0 _ _ _) rfl inX7 fl_X7_10 (by decide) rfl dX7_digest_152 ?_
      refine g_get (kk := 1) (by decide) (cel_1 _ _ _) rfl inX4 fl_X7_192 (by decide) rfl dX7_digest_155 ?_
      refine g_get (kk := 7) (by decide) (cel_7 _ _ _) rfl inX2 fl_X7_258 (by decide) rfl dX7_digest_158 ?_
      refine g_iload_n dX7_digest_161 rfl ?_
      obtain ⟨hi, hf⟩ := ck_s hf
      refine g_iaload (kk := 8) (by decide) (fun f g => cel_8 _ f g) hi rfl dX7_digest_162 ?_
      refine g_i2l dX7_digest_163 ?_
      refine g_cS_JJ_J (c_X7_mixed rfl) cs_X7_251 ⟨by decide, by decide⟩ (Nat.le_of_ble_eq_true rfl) dX7_digest_164 ?_
      refine g_lst1 dX7_digest_167 (by decide) lnl_r ?_
      refine g_lload_n dX7_digest_168 rfl ?_
      refine g_aload_n dX7_digest_169 rfl ?_
      refine g_get (kk := 0) (by decide) (cel_0 _ _ _) rfl inX7 fl_X7_10 (by decide) rfl dX7_digest_170 ?_
      refine g_get (kk := 1) (by decide) (cel_1 _ _ _) rfl inX4 fl_X7_192 (by decide) rfl dX7_digest_173 ?_
      refine g_get (kk := 7) (by decide) (cel_7 _ _ _) rfl inX2 fl_X7_261 (by decide) rfl dX7_digest_176 ?_
      refine g_iload_n dX7_digest_179 rfl ?_
      obtain ⟨hi, hf⟩ := ck_s hf
      refine g_iaload (kk := 9) (by decide) (fun f g => cel_9 _ f g) hi rfl dX7_digest_180 ?_
      refine g_i2l dX7_digest_181 ?_
      refine g_cS_JJ_J (c_X7_mixed rfl) cs_X7_251 ⟨by decide, by decide⟩ (Nat.le_of_ble_eq_true rfl) dX7_digest_182 ?_
      refine g_lst1 dX7_digest_185 (by decide) lnl_r ?_
      refine g_lload_n dX7_digest_186 rfl ?_
      refine g_aload_n dX7_digest_187 rfl ?_
      refine g_get (kk := 0) (by decide) (cel_0 _ _ _) rfl inX7 fl_X7_10 (by decide) rfl dX7_digest_188 ?_
      refine g_get (kk := 1) (by decide) (cel_1 _ _ _) rfl inX4 fl_X7_192 (by decide) rfl dX7_digest_191 ?_
      refine g_get (kk := 7) (by decide) (cel_7 _ _ _) rfl inX2 fl_X7_264 (by decide) rfl dX7_digest_194 ?_
      refine g_iload_n dX7_digest_197 rfl ?_
      obtain ⟨hi, hf⟩ := ck_s hf
      refine g_laload (kk := 10) (by decide) (fun f g => cel_10 _ f g) hi rfl dX7_digest_198 ?_
      obtain ⟨r1, hq, hf⟩ := bnd hf
      refine g_cS_JJ_J (c_X7_mixedName hq) cs_X7_255 ⟨by decide, by decide⟩ (Nat.le_of_ble_eq_true rfl) dX7_digest_199 ?_
      refine g_lst1 dX7_digest_202 (by decide) lnl_r ?_
      refine g_lload_n dX7_digest_203 rfl ?_
      refine g_aload_n dX7_digest_204 rfl ?_
      refine g_get (kk := 0) (by decide) (cel_0 _ _ _) rfl inX7 fl_X7_10 (by decide) rfl dX7_digest_205 ?_
      refine g_get (kk := 1) (by decide) (cel_1 _ _ _) rfl inX4 fl_X7_192 (by decide) rfl dX7_digest_208 ?_
      refine g_get (kk := 7) (by decide) (cel_7 _ _ _) rfl inX2 fl_X7_267 (by decide) rfl dX7_digest_211 ?_
      refine g_iload_n dX7_digest_214 rfl ?_
      obtain ⟨hi, hf⟩ := ck_s hf
      refine g_laload (kk := 11) (by decide) (fun f g => cel_11 _ f g) hi rfl dX7_digest_215 ?_
      obtain ⟨r2, hq, hf⟩ := bnd hf
      refine g_cS_JJ_J (c_X7_mixedName hq) cs_X7_255 ⟨by decide, by decide⟩ (Nat.le_of_ble_eq_true rfl) dX7_digest_216 ?_
      refine g_lst1 dX7_digest_219 (by decide) lnl_r ?_
      refine g_iinc3 (v := (x3 + (1 : Int32))) dX7_digest_220 (by decide) lnl_n rfl ?_
      refine g_goto (tgt := 136) dX7_digest_223 (by decide) ?_
      exact ih hf
def b_X7_digest_134   (x1 : Int64) (M : Mem) : Option (Int64 × Mem) :=
  b_X7_digest_136 fu x1 (0 : Int32) M
set_option maxHeartbeats 4000000 in
set_option maxRecDepth 100000 in
theorem w_X7_digest_134 {X : Cx} {r : Int64} {M1 : Mem}      {x1 : Int64} {M : Mem} (hr : X.meth.sig.returnType = (some .long)) (hf : b_X7_digest_134 x1 M = some (r, M1)) : G X (some (.long r), M1) RX7 cX7_digest 4 2 50 134 [some (.ref (X.1.1 0)), some (.long x1), none, none] [] M := by
  unfold b_X7_digest_134 at hf
  refine g_iconst (v := 0) dX7_digest_134 (by decide) ?_
  refine g_ist3 dX7_digest_135 (by decide) lnl_n ?_
  exact w_X7_digest_136 hr fu hf
def b_X7_digest_109    : Nat → Int64 → Int32 → Mem → Option (Int64 × Mem)
  | 0, _, _, _ => none
  | n + 1, x1, x3, M =>
    if (4 : Int32) ≤ x3 then (b_X7_digest_134 x1 M)
    else (ck x3 4 <|
    (f_X7_mixedName x1 (M.2 6 x3.toNatClampNeg)).bind fun r3 =>
    b_X7_digest_109 n r3 (x3 + (1 : Int32)) M)
set_option maxHeartbeats 4000000 in
set_option maxRecDepth 100000 in
theorem w_X7_digest_109 {X : Cx} {r : Int64} {M1 : Mem}      (hr : X.meth.sig.returnType = (some .long)) : ∀ (n : Nat) {x1 : Int64} {x3 : Int32} {M : Mem}, b_X7_digest_109  n x1 x3 M = some (r, M1) → G X (some (.long r), M1) RX7 cX7_digest 4 2 50 109 [some (.ref (X.1.1 0)), some (.long x1), none, some (.int x3)] [] M := by
  intro n
  induction n with
  | zero => intro x1 x3 M hf; cases hf
  | succ n ih =>
    intro x1 x3 M hf
    rw [b_X7_digest_109.eq_2] at hf
    refine g_iload_n dX7_digest_109 rfl ?_
    refine g_iconst (v := 4) dX7_digest_110 (by decide) ?_
    refine g_icmp_ge (tgt := 134) dX7_digest_111 (by decide) (fun hc => ?_) (fun hc => ?_)
    · have hf := ite_t hc hf
      exact g_weakr (w_X7_digest_134 hr hf) (lsk (lsk (lsd (lsd lsz))))
    · have hf := ite_f hc hf
      refine g_lload_n dX7_digest_114 rfl ?_
      refine g_aload_n dX7_digest_115 rfl ?_
      refine g_get (kk := 0) (by decide) (cel_0 _ _ _) rfl inX7 fl_X7_10 (by decide) rfl dX7_digest_116 ?_
      refine g_get (kk := 1) (by decide) (cel_1 _ _ _) rfl inX4 fl_X7_109 (by decide) rfl dX7_digest_119 ?_
      refine g_iload_n dX7_digest_122 rfl ?_
      obtain ⟨hi, hf⟩ := ck_s hf
      refine g_laload (kk := 6) (by decide) (fun f g => cel_6 _ f g) hi rfl dX7_digest_123 ?_
      obtain ⟨r3, hq, hf⟩ := bnd hf
      refine g_cS_JJ_J (c_X7_mixedName hq) cs_X7_255 ⟨by decide, by decide⟩ (Nat.le_of_ble_eq_true rfl) dX7_digest_124 ?_
      refine g_lst1 dX7_digest_127 (by decide) lnl_r ?_
      refine g_iinc3 (v := (x3 + (1 : Int32))) dX7_digest_128 (by decide) lnl_n rfl ?_
      refine g_goto (tgt := 109) dX7_digest_131 (by decide) ?_
      exact ih hf
def b_X7_digest_107   (x1 : Int64) (M : Mem) : Option (Int64 × Mem) :=
  b_X7_digest_109 fu x1 (0 : Int32) M
set_option maxHeartbeats 4000000 in
set_option maxRecDepth 100000 in
theorem w_X7_digest_107 {X : Cx} {r : Int64} {M1 : Mem}      {x1 : Int64} {M : Mem} (hr : X.meth.sig.returnType = (some .long)) (hf : b_X7_digest_107 x1 M = some (r, M1)) : G X (some (.long r), M1) RX7 cX7_digest 4 2 50 107 [some (.ref (X.1.1 0)), some (.long x1), none, none] [] M := by
  unfold b_X7_digest_107 at hf
  refine g_iconst (v := 0) dX7_digest_107 (by decide) ?_
  refine g_ist3 dX7_digest_108 (by decide) lnl_n ?_
  exact w_X7_digest_109 hr fu hf
def b_X7_digest_30    : Nat → Int64 → Int32 → Mem → Option (Int64 × Mem)
  | 0, _, _, _ => none
  | n + 1, x1, x3, M =>
    if (M.1 1 6) ≤ x3 then (b_X7_digest_107 x1 M)
    else (ck x3 8 <|
    ck x3 8 <|
    ck x3 8 <|
    ck x3 8 <|
    b_X7_digest_30 n (f_X7_mixed (f_X7_mixed (f_X7_mixed (f_X7_mixed x1 (M.1 2 x3.toNatClampNeg).toInt64) (M.1 3 x3.toNatClampNeg).toInt64) (M.1 4 x3.toNatClampNeg).toInt64) (M.1 5 x3.toNatClampNeg).toInt64) (x3 + (1 : Int32)) M)
set_option maxHeartbeats 4000000 in
set_option maxRecDepth 100000 in
theorem w_X7_digest_30 {X : Cx} {r : Int64} {M1 : Mem}      (hr : X.meth.sig.returnType = (some .long)) : ∀ (n : Nat) {x1 : Int64} {x3 : Int32} {M : Mem}, b_X7_digest_30  n x1 x3 M = some (r, M1) → G X (some (.long r), M1) RX7 cX7_digest 4 2 50 30 [some (.ref (X.1.1 0)), some (.long x1), none, some (.int x3)] [] M := by
  intro n
  induction n with
  | zero => intro x1 x3 M hf; cases hf
  | succ n ih =>
    intro x1 x3 M hf
    rw [b_X7_digest_30.eq_2] at hf
    refine g_iload_n dX7_digest_30 rfl ?_
    refine g_aload_n dX7_digest_31 rfl ?_
    refine g_get (kk := 0) (by decide) (cel_0 _ _ _) rfl inX7 fl_X7_10 (by decide) rfl dX7_digest_32 ?_
    refine g_get (kk := 1) (by decide) (cel_1 _ _ _) rfl inX4 fl_X7_64 (by decide) rfl dX7_digest_35 ?_
    refine g_icmp_ge (tgt := 107) dX7_digest_38 (by decide) (fun hc => ?_) (fun hc => ?_)
    · have hf := ite_t hc hf
      exact g_weakr (w_X7_digest_107 hr hf) (lsk (lsk (lsd (lsd lsz))))
    · have hf := ite_f hc hf
      refine g_lload_n dX7_digest_41 rfl ?_
      refine g_aload_n dX7_digest_42 rfl ?_
      refine g_get (kk := 0) (by decide) (cel_0 _ _ _) rfl inX7 fl_X7_10 (by decide) rfl dX7_digest_43 ?_
      refine g_get (kk := 1) (by decide) (cel_1 _ _ _) rfl inX4 fl_X7_138 (by decide) rfl dX7_digest_46 ?_
      refine g_iload_n dX7_digest_49 rfl ?_
      obtain ⟨hi, hf⟩ := ck_s hf
      refine g_iaload (kk := 2) (by decide) (fun f g => cel_2 _ f g) hi rfl dX7_digest_50 ?_
      refine g_i2l dX7_digest_51 ?_
      refine g_cS_JJ_J (c_X7_mixed rfl) cs_X7_251 ⟨by decide, by decide⟩ (Nat.le_of_ble_eq_true rfl) dX7_digest_52 ?_
      refine g_lst1 dX7_digest_55 (by decide) lnl_r ?_
      refine g_lload_n dX7_digest_56 rfl ?_
      refine g_aload_n dX7_digest_57 rfl ?_
      refine g_get (kk := 0) (by decide) (cel_0 _ _ _) rfl inX7 fl_X7_10 (by decide) rfl dX7_digest_58 ?_
      refine g_get (kk := 1) (by decide) (cel_1 _ _ _) rfl inX4 fl_X7_141 (by decide) rfl dX7_digest_61 ?_
      refine g_iload_n dX7_digest_64 rfl ?_
      obtain ⟨hi, hf⟩ := ck_s hf
      refine g_iaload (kk := 3) (by decide) (fun f g => cel_3 _ f g) hi rfl dX7_digest_65 ?_
      refine g_i2l dX7_digest_66 ?_
      refine g_cS_JJ_J (c_X7_mixed rfl) cs_X7_251 ⟨by decide, by decide⟩ (Nat.le_of_ble_eq_true rfl) dX7_digest_67 ?_
      refine g_lst1 dX7_digest_70 (by decide) lnl_r ?_
      refine g_lload_n dX7_digest_71 rfl ?_
      refine g_aload_n dX7_digest_72 rfl ?_
      refine g_get (kk := 0) (by decide) (cel_0 _ _ _) rfl inX7 fl_X7_10 (by decide) rfl dX7_digest_73 ?_
      refine g_get (kk := 1) (by decide) (cel_1 _ _ _) rfl inX4 fl_X7_144 (by decide) rfl dX7_digest_76 ?_
      refine g_iload_n dX7_digest_79 rfl ?_
      obtain ⟨hi, hf⟩ := ck_s hf
      refine g_iaload (kk := 4) (by decide) (fun f g => cel_4 _ f g) hi rfl dX7_digest_80 ?_
      refine g_i2l dX7_digest_81 ?_
      refine g_cS_JJ_J (c_X7_mixed rfl) cs_X7_251 ⟨by decide, by decide⟩ (Nat.le_of_ble_eq_true rfl) dX7_digest_82 ?_
      refine g_lst1 dX7_digest_85 (by decide) lnl_r ?_
      refine g_lload_n dX7_digest_86 rfl ?_
      refine g_aload_n dX7_digest_87 rfl ?_
      refine g_get (kk := 0) (by decide) (cel_0 _ _ _) rfl inX7 fl_X7_10 (by decide) rfl dX7_digest_88 ?_
      refine g_get (kk := 1) (by decide) (cel_1 _ _ _) rfl inX4 fl_X7_147 (by decide) rfl dX7_digest_91 ?_
      refine g_iload_n dX7_digest_94 rfl ?_
      obtain ⟨hi, hf⟩ := ck_s hf
      refine g_iaload (kk := 5) (by decide) (fun f g => cel_5 _ f g) hi rfl dX7_digest_95 ?_
      refine g_i2l dX7_digest_96 ?_
      refine g_cS_JJ_J (c_X7_mixed rfl) cs_X7_251 ⟨by decide, by decide⟩ (Nat.le_of_ble_eq_true rfl) dX7_digest_97 ?_
      refine g_lst1 dX7_digest_100 (by decide) lnl_r ?_
      refine g_iinc3 (v := (x3 + (1 : Int32))) dX7_digest_101 (by decide) lnl_n rfl ?_
      refine g_goto (tgt := 30) dX7_digest_104 (by decide) ?_
      exact ih hf
def b_X7_digest_28   (x1 : Int64) (M : Mem) : Option (Int64 × Mem) :=
  b_X7_digest_30 fu x1 (0 : Int32) M
set_option maxHeartbeats 4000000 in
set_option maxRecDepth 100000 in
theorem w_X7_digest_28 {X : Cx} {r : Int64} {M1 : Mem}      {x1 : Int64} {M : Mem} (hr : X.meth.sig.returnType = (some .long)) (hf : b_X7_digest_28 x1 M = some (r, M1)) : G X (some (.long r), M1) RX7 cX7_digest 4 2 50 28 [some (.ref (X.1.1 0)), some (.long x1), none, none] [] M := by
  unfold b_X7_digest_28 at hf
  refine g_iconst (v := 0) dX7_digest_28 (by decide) ?_
  refine g_ist3 dX7_digest_29 (by decide) lnl_n ?_
  exact w_X7_digest_30 hr fu hf
def b_X7_digest_6    : Nat → Int64 → Int32 → Mem → Option (Int64 × Mem)
  | 0, _, _, _ => none
  | n + 1, x1, x3, M =>
    if (5 : Int32) ≤ x3 then (b_X7_digest_28 x1 M)
    else ((f_X7_count x3 M).bind fun r4 =>
    b_X7_digest_6 n (f_X7_mixed x1 r4.1.toInt64) (x3 + (1 : Int32)) r4.2)
set_option maxHeartbeats 4000000 in
set_option maxRecDepth 100000 in
theorem w_X7_digest_6 {X : Cx} {r : Int64} {M1 : Mem}      (hr : X.meth.sig.returnType = (some .long)) : ∀ (n : Nat) {x1 : Int64} {x3 : Int32} {M : Mem}, b_X7_digest_6  n x1 x3 M = some (r, M1) → G X (some (.long r), M1) RX7 cX7_digest 4 2 50 6 [some (.ref (X.1.1 0)), some (.long x1), none, some (.int x3)] [] M := by
  intro n
  induction n with
  | zero => intro x1 x3 M hf; cases hf
  | succ n ih =>
    intro x1 x3 M hf
    rw [b_X7_digest_6.eq_2] at hf
    refine g_iload_n dX7_digest_6 rfl ?_
    refine g_iconst (v := 5) dX7_digest_7 (by decide) ?_
    refine g_icmp_ge (tgt := 28) dX7_digest_8 (by decide) (fun hc => ?_) (fun hc => ?_)
    · have hf := ite_t hc hf
      exact g_weakr (w_X7_digest_28 hr hf) (lsk (lsk (lsd (lsd lsz))))
    · have hf := ite_f hc hf
      refine g_lload_n dX7_digest_11 rfl ?_
      refine g_aload_n dX7_digest_12 rfl ?_
      refine g_iload_n dX7_digest_13 rfl ?_
      obtain ⟨r4, hq, hf⟩ := bnd hf
      refine g_cV_I_I (c_X7_count (r := r4.1) (M1 := r4.2) hq) cv_X7_248 (by decide) (cel_0 _ _ _) rfl ⟨by decide, by decide⟩ (Nat.le_of_ble_eq_true rfl) dX7_digest_14 ?_
      refine g_i2l dX7_digest_17 ?_
      refine g_cS_JJ_J (c_X7_mixed rfl) cs_X7_251 ⟨by decide, by decide⟩ (Nat.le_of_ble_eq_true rfl) dX7_digest_18 ?_
      refine g_lst1 dX7_digest_21 (by decide) lnl_r ?_
      refine g_iinc3 (v := (x3 + (1 : Int32))) dX7_digest_22 (by decide) lnl_n rfl ?_
      refine g_goto (tgt := 6) dX7_digest_25 (by decide) ?_
      exact ih hf
def f_X7_digest  (M : Mem) : Option (Int64 × Mem) :=
  b_X7_digest_6 fu (1009 : Int64) (0 : Int32) M
set_option maxHeartbeats 4000000 in
set_option maxRecDepth 100000 in
theorem c_X7_digest {l : Launch}  {M : Mem} {r : Int64} {M1 : Mem} (hf : f_X7_digest M = some (r, M1)) : Cn l yX7_digest cX7_digest 4 (some .long) 2 50 (fun E => [.ref (E.1 0)]) M (some (.long r), M1) := by
  unfold f_X7_digest at hf
  refine cn_of RX7 (fun E => [some (.ref (E.1 0)), none, none, none]) (by decide +kernel) rfl (fun E => Nat.le_of_ble_eq_true rfl) (fun E => rfl) (fun X hr => ?_)
  refine g_ldc2 cl_X7_246 dX7_digest_0 ?_
  refine g_lst1 dX7_digest_3 (by decide) lnl_r ?_
  refine g_iconst (v := 0) dX7_digest_4 (by decide) ?_
  refine g_ist3 dX7_digest_5 (by decide) lnl_n ?_
  exact w_X7_digest_6 hr fu hf
