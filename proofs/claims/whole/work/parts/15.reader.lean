theorem g_cV_S_I {X : Cx} {res : Option Value × Mem} {own : String} {cc : ByteArray} {nL fr lo pc : Nat} {L : List (Option Value)} {st : List Value} {M M1 : Mem} {y : MethodName} {cc2 : ByteArray} {nL2 index fr2 lo2 : Nat} {ret : Option FieldType} {x0 : Nat} {r : Int32} {kk ci N : Nat} {T : u_T} {fs : List Value} (hM : Cn X.2.2.1 y cc2 nL2 ret fr2 lo2 (fun E => [.ref (E.1 kk), .ref (E.2.2.2.1 x0)]) M (some (.int r), M1)) (hw : CWv own index y cc2 nL2 ret 1) (hk : kk < nCell) (hc : cel X.1 kk (M.1 kk) (M.2 kk) = .inr (ci, fs)) (hcl : vwCl[ci]? = some (y.cls, T, N)) (hR : fr2 + 1 ≤ fr ∧ 8 + (nL2 + 11) + lo2 ≤ lo) (hsum : (st.map fun v => v.category).sum ≤ 8) (d : decode cc pc = .ok (.invokevirtual index, 3)) (k : G X res own cc nL fr lo (pc + 3) L (.int r :: st) M1) : G X res own cc nL fr lo pc L (.ref (X.1.2.2.2.1 x0) :: .ref (X.1.1 kk) :: st) M := g_callW (Bs := [.ref (X.1.2.2.2.1 x0)]) hM hw rfl rfl rfl hR hsum d (fun C H locs hP _ => gr_recv hk hc hcl C hP) k
-- X3_isWord_s0
def b_X3_isWord_s0_20  (M : Mem)  : Nat → Int32 → Option Int32
  | 0, _ => none
  | n + 1, x2 =>
    if (5 : Int32) ≤ x2 then (some (1 : Int32))
    else (ck ((M.1 55 3) + x2) 150 <|
    ck x2 5 <|
    if (M.1 56 ((M.1 55 3) + x2).toNatClampNeg) = (sch 0 x2) then (b_X3_isWord_s0_20 M n (x2 + (1 : Int32)))
    else (some (0 : Int32)))
set_option maxHeartbeats 4000000 in
set_option maxRecDepth 100000 in
theorem w_X3_isWord_s0_20 {X : Cx} {r : Int32} {M : Mem}     (hr : X.meth.sig.returnType = (some .boolean)) : ∀ (n : Nat) {x2 : Int32}, b_X3_isWord_s0_20 M n x2 = some r → G X (some (.int r), M) RX3 cX3_isWord 3 4 85 20 [some (.ref (X.1.1 55)), some (.ref (X.1.2.2.2.1 0)), some (.int x2)] [] M := by
  intro n
  induction n with
  | zero => intro x2 hf; cases hf
  | succ n ih =>
    intro x2 hf
    rw [b_X3_isWord_s0_20.eq_2] at hf
    refine g_iload_n dX3_isWord_20 rfl ?_
    refine g_aload_n dX3_isWord_21 rfl ?_
    refine g_strlen 0 (by decide) (v := 5) (by decide) ⟨by decide, by decide⟩ (Nat.le_of_ble_eq_true rfl) dX3_isWord_22 ?_
    refine g_icmp_ge (tgt := 55) dX3_isWord_25 (by decide) (fun hc => ?_) (fun hc => ?_)
    · have hf := ite_t hc hf
      refine g_iconst (v := 1) dX3_isWord_55 (by decide) ?_
      exact g_zret_p hr (Or.inr rfl) hf dX3_isWord_56
    · have hf := ite_f hc hf
      refine g_aload_n dX3_isWord_28 rfl ?_
      refine g_get (kk := 55) (by decide) (cel_55 _ _ _) rfl inX3 fl_X3_9 (by decide) rfl dX3_isWord_29 ?_
      refine g_aload_n dX3_isWord_32 rfl ?_
      refine g_get (kk := 55) (by decide) (cel_55 _ _ _) rfl inX3 fl_X3_38 (by decide) rfl dX3_isWord_33 ?_
      refine g_iload_n dX3_isWord_36 rfl ?_
      refine g_iadd dX3_isWord_37 ?_
      obtain ⟨hi, hf⟩ := ck_s hf
      refine g_iaload (kk := 56) (by decide) (fun f g => cel_56 _ f g) hi rfl dX3_isWord_38 ?_
      refine g_aload_n dX3_isWord_39 rfl ?_
      refine g_iload_n dX3_isWord_40 rfl ?_
      obtain ⟨hi, hf⟩ := ck_s hf
      refine g_charAt 0 (by decide) hi ⟨by decide, by decide⟩ (Nat.le_of_ble_eq_true rfl) dX3_isWord_41 ?_
      refine g_icmp_eq (tgt := 49) dX3_isWord_44 (by decide) (fun hc => ?_) (fun hc => ?_)
      · have hf := ite_t hc hf
        refine g_iinc2 (v := (x2 + (1 : Int32))) dX3_isWord_49 (by decide) lnl_r rfl ?_
        refine g_goto (tgt := 20) dX3_isWord_52 (by decide) ?_
        exact ih hf
      · have hf := ite_f hc hf
        refine g_iconst (v := 0) dX3_isWord_47 (by decide) ?_
        exact g_zret_p hr (Or.inl rfl) hf dX3_isWord_48
def f_X3_isWord_s0 (M : Mem)  : Option Int32 :=
  if (5 : Int32) = ((M.1 55 4) - (M.1 55 3)) then (b_X3_isWord_s0_20 M fu (0 : Int32))
  else (some (0 : Int32))
set_option maxHeartbeats 4000000 in
set_option maxRecDepth 100000 in
theorem c_X3_isWord_s0 {l : Launch}  {M : Mem} {r : Int32} (hf : f_X3_isWord_s0 M = some r) : Cn l yX3_isWord cX3_isWord 3 (some .boolean) 4 85 (fun E => [.ref (E.1 55), .ref (E.2.2.2.1 0)]) M (some (.int r), M) := by
  unfold f_X3_isWord_s0 at hf
  refine cn_of RX3 (fun E => [some (.ref (E.1 55)), some (.ref (E.2.2.2.1 0)), none]) (by decide +kernel) rfl (fun E => Nat.le_of_ble_eq_true rfl) (fun E => rfl) (fun X hr => ?_)
  refine g_aload_n dX3_isWord_0 rfl ?_
  refine g_strlen 0 (by decide) (v := 5) (by decide) ⟨by decide, by decide⟩ (Nat.le_of_ble_eq_true rfl) dX3_isWord_1 ?_
  refine g_aload_n dX3_isWord_4 rfl ?_
  refine g_get (kk := 55) (by decide) (cel_55 _ _ _) rfl inX3 fl_X3_19 (by decide) rfl dX3_isWord_5 ?_
  refine g_aload_n dX3_isWord_8 rfl ?_
  refine g_get (kk := 55) (by decide) (cel_55 _ _ _) rfl inX3 fl_X3_38 (by decide) rfl dX3_isWord_9 ?_
  refine g_isub dX3_isWord_12 ?_
  refine g_icmp_eq (tgt := 18) dX3_isWord_13 (by decide) (fun hc => ?_) (fun hc => ?_)
  · have hf := ite_t hc hf
    refine g_iconst (v := 0) dX3_isWord_18 (by decide) ?_
    refine g_ist2 dX3_isWord_19 (by decide) lnl_r ?_
    exact w_X3_isWord_s0_20 hr fu hf
  · have hf := ite_f hc hf
    refine g_iconst (v := 0) dX3_isWord_16 (by decide) ?_
    exact g_zret_p hr (Or.inl rfl) hf dX3_isWord_17
-- X3_isWord_s1
def b_X3_isWord_s1_20  (M : Mem)  : Nat → Int32 → Option Int32
  | 0, _ => none
  | n + 1, x2 =>
    if (6 : Int32) ≤ x2 then (some (1 : Int32))
    else (ck ((M.1 55 3) + x2) 150 <|
    ck x2 6 <|
    if (M.1 56 ((M.1 55 3) + x2).toNatClampNeg) = (sch 1 x2) then (b_X3_isWord_s1_20 M n (x2 + (1 : Int32)))
    else (some (0 : Int32)))
set_option maxHeartbeats 4000000 in
set_option maxRecDepth 100000 in
theorem w_X3_isWord_s1_20 {X : Cx} {r : Int32} {M : Mem}     (hr : X.meth.sig.returnType = (some .boolean)) : ∀ (n : Nat) {x2 : Int32}, b_X3_isWord_s1_20 M n x2 = some r → G X (some (.int r), M) RX3 cX3_isWord 3 4 85 20 [some (.ref (X.1.1 55)), some (.ref (X.1.2.2.2.1 1)), some (.int x2)] [] M := by
  intro n
  induction n with
  | zero => intro x2 hf; cases hf
  | succ n ih =>
    intro x2 hf
    rw [b_X3_isWord_s1_20.eq_2] at hf
    refine g_iload_n dX3_isWord_20 rfl ?_
    refine g_aload_n dX3_isWord_21 rfl ?_
    refine g_strlen 1 (by decide) (v := 6) (by decide) ⟨by decide, by decide⟩ (Nat.le_of_ble_eq_true rfl) dX3_isWord_22 ?_
    refine g_icmp_ge (tgt := 55) dX3_isWord_25 (by decide) (fun hc => ?_) (fun hc => ?_)
    · have hf := ite_t hc hf
      refine g_iconst (v := 1) dX3_isWord_55 (by decide) ?_
      exact g_zret_p hr (Or.inr rfl) hf dX3_isWord_56
    · have hf := ite_f hc hf
      refine g_aload_n dX3_isWord_28 rfl ?_
      refine g_get (kk := 55) (by decide) (cel_55 _ _ _) rfl inX3 fl_X3_9 (by decide) rfl dX3_isWord_29 ?_
      refine g_aload_n dX3_isWord_32 rfl ?_
      refine g_get (kk := 55) (by decide) (cel_55 _ _ _) rfl inX3 fl_X3_38 (by decide) rfl dX3_isWord_33 ?_
      refine g_iload_n dX3_isWord_36 rfl ?_
      refine g_iadd dX3_isWord_37 ?_
      obtain ⟨hi, hf⟩ := ck_s hf
      refine g_iaload (kk := 56) (by decide) (fun f g => cel_56 _ f g) hi rfl dX3_isWord_38 ?_
      refine g_aload_n dX3_isWord_39 rfl ?_
      refine g_iload_n dX3_isWord_40 rfl ?_
      obtain ⟨hi, hf⟩ := ck_s hf
      refine g_charAt 1 (by decide) hi ⟨by decide, by decide⟩ (Nat.le_of_ble_eq_true rfl) dX3_isWord_41 ?_
      refine g_icmp_eq (tgt := 49) dX3_isWord_44 (by decide) (fun hc => ?_) (fun hc => ?_)
      · have hf := ite_t hc hf
        refine g_iinc2 (v := (x2 + (1 : Int32))) dX3_isWord_49 (by decide) lnl_r rfl ?_
        refine g_goto (tgt := 20) dX3_isWord_52 (by decide) ?_
        exact ih hf
      · have hf := ite_f hc hf
        refine g_iconst (v := 0) dX3_isWord_47 (by decide) ?_
        exact g_zret_p hr (Or.inl rfl) hf dX3_isWord_48
def f_X3_isWord_s1 (M : Mem)  : Option Int32 :=
  if (6 : Int32) = ((M.1 55 4) - (M.1 55 3)) then (b_X3_isWord_s1_20 M fu (0 : Int32))
  else (some (0 : Int32))
set_option maxHeartbeats 4000000 in
set_option maxRecDepth 100000 in
theorem c_X3_isWord_s1 {l : Launch}  {M : Mem} {r : Int32} (hf : f_X3_isWord_s1 M = some r) : Cn l yX3_isWord cX3_isWord 3 (some .boolean) 4 85 (fun E => [.ref (E.1 55), .ref (E.2.2.2.1 1)]) M (some (.int r), M) := by
  unfold f_X3_isWord_s1 at hf
  refine cn_of RX3 (fun E => [some (.ref (E.1 55)), some (.ref (E.2.2.2.1 1)), none]) (by decide +kernel) rfl (fun E => Nat.le_of_ble_eq_true rfl) (fun E => rfl) (fun X hr => ?_)
  refine g_aload_n dX3_isWord_0 rfl ?_
  refine g_strlen 1 (by decide) (v := 6) (by decide) ⟨by decide, by decide⟩ (Nat.le_of_ble_eq_true rfl) dX3_isWord_1 ?_
  refine g_aload_n dX3_isWord_4 rfl ?_
  refine g_get (kk := 55) (by decide) (cel_55 _ _ _) rfl inX3 fl_X3_19 (by decide) rfl dX3_isWord_5 ?_
  refine g_aload_n dX3_isWord_8 rfl ?_
  refine g_get (kk := 55) (by decide) (cel_55 _ _ _) rfl inX3 fl_X3_38 (by decide) rfl dX3_isWord_9 ?_
  refine g_isub dX3_isWord_12 ?_
  refine g_icmp_eq (tgt := 18) dX3_isWord_13 (by decide) (fun hc => ?_) (fun hc => ?_)
  · have hf := ite_t hc hf
    refine g_iconst (v := 0) dX3_isWord_18 (by decide) ?_
    refine g_ist2 dX3_isWord_19 (by decide) lnl_r ?_
    exact w_X3_isWord_s1_20 hr fu hf
  · have hf := ite_f hc hf
    refine g_iconst (v := 0) dX3_isWord_16 (by decide) ?_
    exact g_zret_p hr (Or.inl rfl) hf dX3_isWord_17
-- X3_isWord_s2
def b_X3_isWord_s2_20  (M : Mem)  : Nat → Int32 → Option Int32
  | 0, _ => none
  | n + 1, x2 =>
    if (3 : Int32) ≤ x2 then (some (1 : Int32))
    else (ck ((M.1 55 3) + x2) 150 <|
    ck x2 3 <|
    if (M.1 56 ((M.1 55 3) + x2).toNatClampNeg) = (sch 2 x2) then (b_X3_isWord_s2_20 M n (x2 + (1 : Int32)))
    else (some (0 : Int32)))
set_option maxHeartbeats 4000000 in
set_option maxRecDepth 100000 in
theorem w_X3_isWord_s2_20 {X : Cx} {r : Int32} {M : Mem}     (hr : X.meth.sig.returnType = (some .boolean)) : ∀ (n : Nat) {x2 : Int32}, b_X3_isWord_s2_20 M n x2 = some r → G X (some (.int r), M) RX3 cX3_isWord 3 4 85 20 [some (.ref (X.1.1 55)), some (.ref (X.1.2.2.2.1 2)), some (.int x2)] [] M := by
  intro n
  induction n with
  | zero => intro x2 hf; cases hf
  | succ n ih =>
    intro x2 hf
    rw [b_X3_isWord_s2_20.eq_2] at hf
    refine g_iload_n dX3_isWord_20 rfl ?_
    refine g_aload_n dX3_isWord_21 rfl ?_
    refine g_strlen 2 (by decide) (v := 3) (by decide) ⟨by decide, by decide⟩ (Nat.le_of_ble_eq_true rfl) dX3_isWord_22 ?_
    refine g_icmp_ge (tgt := 55) dX3_isWord_25 (by decide) (fun hc => ?_) (fun hc => ?_)
    · have hf := ite_t hc hf
      refine g_iconst (v := 1) dX3_isWord_55 (by decide) ?_
      exact g_zret_p hr (Or.inr rfl) hf dX3_isWord_56
    · have hf := ite_f hc hf
      refine g_aload_n dX3_isWord_28 rfl ?_
      refine g_get (kk := 55) (by decide) (cel_55 _ _ _) rfl inX3 fl_X3_9 (by decide) rfl dX3_isWord_29 ?_
      refine g_aload_n dX3_isWord_32 rfl ?_
      refine g_get (kk := 55) (by decide) (cel_55 _ _ _) rfl inX3 fl_X3_38 (by decide) rfl dX3_isWord_33 ?_
      refine g_iload_n dX3_isWord_36 rfl ?_
      refine g_iadd dX3_isWord_37 ?_
      obtain ⟨hi, hf⟩ := ck_s hf
      refine g_iaload (kk := 56) (by decide) (fun f g => cel_56 _ f g) hi rfl dX3_isWord_38 ?_
      refine g_aload_n dX3_isWord_39 rfl ?_
      refine g_iload_n dX3_isWord_40 rfl ?_
      obtain ⟨hi, hf⟩ := ck_s hf
      refine g_charAt 2 (by decide) hi ⟨by decide, by decide⟩ (Nat.le_of_ble_eq_true rfl) dX3_isWord_41 ?_
      refine g_icmp_eq (tgt := 49) dX3_isWord_44 (by decide) (fun hc => ?_) (fun hc => ?_)
      · have hf := ite_t hc hf
        refine g_iinc2 (v := (x2 + (1 : Int32))) dX3_isWord_49 (by decide) lnl_r rfl ?_
        refine g_goto (tgt := 20) dX3_isWord_52 (by decide) ?_
        exact ih hf
      · have hf := ite_f hc hf
        refine g_iconst (v := 0) dX3_isWord_47 (by decide) ?_
        exact g_zret_p hr (Or.inl rfl) hf dX3_isWord_48
def f_X3_isWord_s2 (M : Mem)  : Option Int32 :=
  if (3 : Int32) = ((M.1 55 4) - (M.1 55 3)) then (b_X3_isWord_s2_20 M fu (0 : Int32))
  else (some (0 : Int32))
set_option maxHeartbeats 4000000 in
set_option maxRecDepth 100000 in
theorem c_X3_isWord_s2 {l : Launch}  {M : Mem} {r : Int32} (hf : f_X3_isWord_s2 M = some r) : Cn l yX3_isWord cX3_isWord 3 (some .boolean) 4 85 (fun E => [.ref (E.1 55), .ref (E.2.2.2.1 2)]) M (some (.int r), M) := by
  unfold f_X3_isWord_s2 at hf
  refine cn_of RX3 (fun E => [some (.ref (E.1 55)), some (.ref (E.2.2.2.1 2)), none]) (by decide +kernel) rfl (fun E => Nat.le_of_ble_eq_true rfl) (fun E => rfl) (fun X hr => ?_)
  refine g_aload_n dX3_isWord_0 rfl ?_
  refine g_strlen 2 (by decide) (v := 3) (by decide) ⟨by decide, by decide⟩ (Nat.le_of_ble_eq_true rfl) dX3_isWord_1 ?_
  refine g_aload_n dX3_isWord_4 rfl ?_
  refine g_get (kk := 55) (by decide) (cel_55 _ _ _) rfl inX3 fl_X3_19 (by decide) rfl dX3_isWord_5 ?_
  refine g_aload_n dX3_isWord_8 rfl ?_
  refine g_get (kk := 55) (by decide) (cel_55 _ _ _) rfl inX3 fl_X3_38 (by decide) rfl dX3_isWord_9 ?_
  refine g_isub dX3_isWord_12 ?_
  refine g_icmp_eq (tgt := 18) dX3_isWord_13 (by decide) (fun hc => ?_) (fun hc => ?_)
  · have hf := ite_t hc hf
    refine g_iconst (v := 0) dX3_isWord_18 (by decide) ?_
    refine g_ist2 dX3_isWord_19 (by decide) lnl_r ?_
    exact w_X3_isWord_s2_20 hr fu hf
  · have hf := ite_f hc hf
    refine g_iconst (v := 0) dX3_isWord_16 (by decide) ?_
    exact g_zret_p hr (Or.inl rfl) hf dX3_isWord_17
-- X3_stepWord
def b_X3_stepWord_35    (M : Mem) : Option Mem :=
  (f_X3_isWord_s0 M).bind fun r1 =>
  if r1 = 0 then ((f_X3_isWord_s1 M).bind fun r2 =>
  if r2 = 0 then ((f_X3_isWord_s2 M).bind fun r3 =>
  if r3 = 0 then (let M4 := mI M 55 2 (6 : Int32)
  some M4)
  else (let M5 := mI M 55 2 (5 : Int32)
  some M5))
  else (let M6 := mI M 55 2 (4 : Int32)
  some M6))
  else (let M7 := mI M 55 2 (3 : Int32)
  some M7)
set_option maxHeartbeats 4000000 in
set_option maxRecDepth 100000 in
theorem w_X3_stepWord_35 {X : Cx} {M1 : Mem}       {M : Mem} (hr : X.meth.sig.returnType = none) (hf : b_X3_stepWord_35 M = some M1) : G X (none, M1) RX3 cX3_stepWord 1 5 107 35 [some (.ref (X.1.1 55))] [] M := by
  unfold b_X3_stepWord_35 at hf
  refine g_aload_n dX3_stepWord_35 rfl ?_
  refine g_aload_n dX3_stepWord_36 rfl ?_
  refine g_ldcS0 dX3_stepWord_37 ?_
  obtain ⟨r1, hq, hf⟩ := bnd hf
  refine g_cV_S_I (c_X3_isWord_s0 hq) cv_X3_90 (by decide) (cel_55 _ _ _) rfl ⟨by decide, by decide⟩ (Nat.le_of_ble_eq_true rfl) dX3_stepWord_39 ?_
  refine g_if_eq (tgt := 49) dX3_stepWord_42 (by decide) (fun hc => ?_) (fun hc => ?_)
  · have hf := ite_t hc hf
    refine g_aload_n dX3_stepWord_49 rfl ?_
    refine g_ldcS1 dX3_stepWord_50 ?_
    obtain ⟨r2, hq, hf⟩ := bnd hf
    refine g_cV_S_I (c_X3_isWord_s1 hq) cv_X3_90 (by decide) (cel_55 _ _ _) rfl ⟨by decide, by decide⟩ (Nat.le_of_ble_eq_true rfl) dX3_stepWord_52 ?_
    refine g_if_eq (tgt := 62) dX3_stepWord_55 (by decide) (fun hc => ?_) (fun hc => ?_)
    · have hf := ite_t hc hf
      refine g_aload_n dX3_stepWord_62 rfl ?_
      refine g_ldcS2 dX3_stepWord_63 ?_
      obtain ⟨r3, hq, hf⟩ := bnd hf
      refine g_cV_S_I (c_X3_isWord_s2 hq) cv_X3_90 (by decide) (cel_55 _ _ _) rfl ⟨by decide, by decide⟩ (Nat.le_of_ble_eq_true rfl) dX3_stepWord_65 ?_
      refine g_if_eq (tgt := 75) dX3_stepWord_68 (by decide) (fun hc => ?_) (fun hc => ?_)
      · have hf := ite_t hc hf
        refine g_bipush (v := 6) dX3_stepWord_75 (by decide) ?_
        refine g_putI (kk := 55) (by decide) (cel_55 _ _ _) (pI_55_2 _ _ _ _) rfl inX3 tyX3_ok nmX3 fl_X3_29 (by decide) (Nat.le_of_ble_eq_true rfl) rfl (by decide +kernel) dX3_stepWord_77 ?_
        exact g_vret_w hr hf dX3_stepWord_80
      · have hf := ite_f hc hf
        refine g_iconst (v := 5) dX3_stepWord_71 (by decide) ?_
        refine g_goto (tgt := 77) dX3_stepWord_72 (by decide) ?_
        refine g_putI (kk := 55) (by decide) (cel_55 _ _ _) (pI_55_2 _ _ _ _) rfl inX3 tyX3_ok nmX3 fl_X3_29 (by decide) (Nat.le_of_ble_eq_true rfl) rfl (by decide +kernel) dX3_stepWord_77 ?_
        exact g_vret_w hr hf dX3_stepWord_80
    · have hf := ite_f hc hf
      refine g_iconst (v := 4) dX3_stepWord_58 (by decide) ?_
      refine g_goto (tgt := 77) dX3_stepWord_59 (by decide) ?_
      refine g_putI (kk := 55) (by decide) (cel_55 _ _ _) (pI_55_2 _ _ _ _) rfl inX3 tyX3_ok nmX3 fl_X3_29 (by decide) (Nat.le_of_ble_eq_true rfl) rfl (by decide +kernel) dX3_stepWord_77 ?_
      exact g_vret_w hr hf dX3_stepWord_80
  · have hf := ite_f hc hf
    refine g_iconst (v := 3) dX3_stepWord_45 (by decide) ?_
    refine g_goto (tgt := 77) dX3_stepWord_46 (by decide) ?_
    refine g_putI (kk := 55) (by decide) (cel_55 _ _ _) (pI_55_2 _ _ _ _) rfl inX3 tyX3_ok nmX3 fl_X3_29 (by decide) (Nat.le_of_ble_eq_true rfl) rfl (by decide +kernel) dX3_stepWord_77 ?_
    exact g_vret_w hr hf dX3_stepWord_80
def b_X3_stepWord_0    : Nat → Mem → Option Mem
  | 0, _ => none
  | n + 1, M =>
    if (M.1 55 0) ≤ (M.1 55 4) then (b_X3_stepWord_35 M)
    else ((f_X3_isLetter M (M.1 55 4)).bind fun r8 =>
    if r8 = 0 then (b_X3_stepWord_35 M)
    else (let M9 := mI M 55 4 ((M.1 55 4) + (1 : Int32))
    b_X3_stepWord_0 n M9))
set_option maxHeartbeats 4000000 in
set_option maxRecDepth 100000 in
theorem w_X3_stepWord_0 {X : Cx} {M1 : Mem}      (hr : X.meth.sig.returnType = none) : ∀ (n : Nat)  {M : Mem}, b_X3_stepWord_0  n M = some M1 → G X (none, M1) RX3 cX3_stepWord 1 5 107 0 [some (.ref (X.1.1 55))] [] M := by
  intro n
  induction n with
  | zero => intro M hf; cases hf
  | succ n ih =>
    intro M hf
    rw [b_X3_stepWord_0.eq_2] at hf
    refine g_aload_n dX3_stepWord_0 rfl ?_
    refine g_get (kk := 55) (by decide) (cel_55 _ _ _) rfl inX3 fl_X3_19 (by decide) rfl dX3_stepWord_1 ?_
    refine g_aload_n dX3_stepWord_4 rfl ?_
    refine g_get (kk := 55) (by decide) (cel_55 _ _ _) rfl inX3 fl_X3_15 (by decide) rfl dX3_stepWord_5 ?_
    refine g_icmp_ge (tgt := 35) dX3_stepWord_8 (by decide) (fun hc => ?_) (fun hc => ?_)
    · have hf := ite_t hc hf
      exact w_X3_stepWord_35 hr hf
    · have hf := ite_f hc hf
      refine g_aload_n dX3_stepWord_11 rfl ?_
      refine g_aload_n dX3_stepWord_12 rfl ?_
      refine g_get (kk := 55) (by decide) (cel_55 _ _ _) rfl inX3 fl_X3_19 (by decide) rfl dX3_stepWord_13 ?_
      obtain ⟨r8, hq, hf⟩ := bnd hf
      refine g_cV_I_I (c_X3_isLetter hq) cv_X3_75 (by decide) (cel_55 _ _ _) rfl ⟨by decide, by decide⟩ (Nat.le_of_ble_eq_true rfl) dX3_stepWord_16 ?_
      refine g_if_eq (tgt := 35) dX3_stepWord_19 (by decide) (fun hc => ?_) (fun hc => ?_)
      · have hf := ite_t hc hf
        exact w_X3_stepWord_35 hr hf
      · have hf := ite_f hc hf
        refine g_aload_n dX3_stepWord_22 rfl ?_
        refine g_dup dX3_stepWord_23 rfl ?_
        refine g_get (kk := 55) (by decide) (cel_55 _ _ _) rfl inX3 fl_X3_19 (by decide) rfl dX3_stepWord_24 ?_
        refine g_iconst (v := 1) dX3_stepWord_27 (by decide) ?_
        refine g_iadd dX3_stepWord_28 ?_
        refine g_putI (kk := 55) (by decide) (cel_55 _ _ _) (pI_55_4 _ _ _ _) rfl inX3 tyX3_ok nmX3 fl_X3_19 (by decide) (Nat.le_of_ble_eq_true rfl) rfl (by decide +kernel) dX3_stepWord_29 ?_
        refine g_goto (tgt := 0) dX3_stepWord_32 (by decide) ?_
        exact ih hf
def f_X3_stepWord  (M : Mem) : Option Mem :=
  b_X3_stepWord_0 fu M
set_option maxHeartbeats 4000000 in
set_option maxRecDepth 100000 in
theorem c_X3_stepWord {l : Launch}  {M : Mem} {M1 : Mem} (hf : f_X3_stepWord M = some M1) : Cn l yX3_stepWord cX3_stepWord 1 none 5 107 (fun E => [.ref (E.1 55)]) M (none, M1) := by
  unfold f_X3_stepWord at hf
  refine cn_of RX3 (fun E => [some (.ref (E.1 55))]) (by decide +kernel) rfl (fun E => Nat.le_of_ble_eq_true rfl) (fun E => rfl) (fun X hr => ?_)
  exact w_X3_stepWord_0 hr fu hf
-- X3_step
def b_X3_step_46    (M : Mem) : Option Mem :=
  let M2 := mI M 55 4 (M.1 55 3)
  if (M2.1 55 3) < (M2.1 55 0) then ((f_X3_isLetter M2 (M2.1 55 3)).bind fun r3 =>
  if r3 = 0 then ((f_X3_isFigure M2 (M2.1 55 3)).bind fun r4 =>
  if r4 = 0 then (let M5 := mI M2 55 4 ((M2.1 55 4) + (1 : Int32))
  ck (M5.1 55 3) 150 <|
  if (M5.1 56 (M5.1 55 3).toNatClampNeg) = (59 : Int32) then (let M7 := mI M5 55 2 (1 : Int32)
  some M7)
  else (let M6 := mI M5 55 2 (6 : Int32)
  some M6))
  else ((f_X3_stepNumber M2).bind fun r8 =>
  some r8))
  else ((f_X3_stepWord M2).bind fun r9 =>
  some r9))
  else (let M10 := mI M2 55 2 (0 : Int32)
  some M10)
set_option maxHeartbeats 4000000 in
set_option maxRecDepth 100000 in
theorem w_X3_step_46 {X : Cx} {M1 : Mem}       {M : Mem} (hr : X.meth.sig.returnType = none) (hf : b_X3_step_46 M = some M1) : G X (none, M1) RX3 cX3_step 1 6 127 46 [some (.ref (X.1.1 55))] [] M := by
  unfold b_X3_step_46 at hf
  refine g_aload_n dX3_step_46 rfl ?_
  refine g_aload_n dX3_step_47 rfl ?_
  refine g_get (kk := 55) (by decide) (cel_55 _ _ _) rfl inX3 fl_X3_38 (by decide) rfl dX3_step_48 ?_
  refine g_putI (kk := 55) (by decide) (cel_55 _ _ _) (pI_55_4 _ _ _ _) rfl inX3 tyX3_ok nmX3 fl_X3_19 (by decide) (Nat.le_of_ble_eq_true rfl) rfl (by decide +kernel) dX3_step_51 ?_
  refine g_aload_n dX3_step_54 rfl ?_
  refine g_get (kk := 55) (by decide) (cel_55 _ _ _) rfl inX3 fl_X3_38 (by decide) rfl dX3_step_55 ?_
  refine g_aload_n dX3_step_58 rfl ?_
  refine g_get (kk := 55) (by decide) (cel_55 _ _ _) rfl inX3 fl_X3_15 (by decide) rfl dX3_step_59 ?_
  refine g_icmp_lt (tgt := 73) dX3_step_62 (by decide) (fun hc => ?_) (fun hc => ?_)
  · have hf := ite_t hc hf
    refine g_aload_n dX3_step_73 rfl ?_
    refine g_aload_n dX3_step_74 rfl ?_
    refine g_get (kk := 55) (by decide) (cel_55 _ _ _) rfl inX3 fl_X3_38 (by decide) rfl dX3_step_75 ?_
    obtain ⟨r3, hq, hf⟩ := bnd hf
    refine g_cV_I_I (c_X3_isLetter hq) cv_X3_75 (by decide) (cel_55 _ _ _) rfl ⟨by decide, by decide⟩ (Nat.le_of_ble_eq_true rfl) dX3_step_78 ?_
    refine g_if_eq (tgt := 91) dX3_step_81 (by decide) (fun hc => ?_) (fun hc => ?_)
    · have hf := ite_t hc hf
      refine g_aload_n dX3_step_91 rfl ?_
      refine g_aload_n dX3_step_92 rfl ?_
      refine g_get (kk := 55) (by decide) (cel_55 _ _ _) rfl inX3 fl_X3_38 (by decide) rfl dX3_step_93 ?_
      obtain ⟨r4, hq, hf⟩ := bnd hf
      refine g_cV_I_I (c_X3_isFigure hq) cv_X3_82 (by decide) (cel_55 _ _ _) rfl ⟨by decide, by decide⟩ (Nat.le_of_ble_eq_true rfl) dX3_step_96 ?_
      refine g_if_eq (tgt := 109) dX3_step_99 (by decide) (fun hc => ?_) (fun hc => ?_)
      · have hf := ite_t hc hf
        refine g_aload_n dX3_step_109 rfl ?_
        refine g_dup dX3_step_110 rfl ?_
        refine g_get (kk := 55) (by decide) (cel_55 _ _ _) rfl inX3 fl_X3_19 (by decide) rfl dX3_step_111 ?_
        refine g_iconst (v := 1) dX3_step_114 (by decide) ?_
        refine g_iadd dX3_step_115 ?_
        refine g_putI (kk := 55) (by decide) (cel_55 _ _ _) (pI_55_4 _ _ _ _) rfl inX3 tyX3_ok nmX3 fl_X3_19 (by decide) (Nat.le_of_ble_eq_true rfl) rfl (by decide +kernel) dX3_step_116 ?_
        refine g_aload_n dX3_step_119 rfl ?_
        refine g_aload_n dX3_step_120 rfl ?_
        refine g_get (kk := 55) (by decide) (cel_55 _ _ _) rfl inX3 fl_X3_9 (by decide) rfl dX3_step_121 ?_
        refine g_aload_n dX3_step_124 rfl ?_
        refine g_get (kk := 55) (by decide) (cel_55 _ _ _) rfl inX3 fl_X3_38 (by decide) rfl dX3_step_125 ?_
        obtain ⟨hi, hf⟩ := ck_s hf
        refine g_iaload (kk := 56) (by decide) (fun f g => cel_56 _ f g) hi rfl dX3_step_128 ?_
        refine g_bipush (v := 59) dX3_step_129 (by decide) ?_
        refine g_icmp_ne (tgt := 138) dX3_step_131 (by decide) (fun hc => ?_) (fun hc => ?_)
        · have hf := ite_f hc hf
          refine g_bipush (v := 6) dX3_step_138 (by decide) ?_
          refine g_putI (kk := 55) (by decide) (cel_55 _ _ _) (pI_55_2 _ _ _ _) rfl inX3 tyX3_ok nmX3 fl_X3_29 (by decide) (Nat.le_of_ble_eq_true rfl) rfl (by decide +kernel) dX3_step_140 ?_
          exact g_vret_w hr hf dX3_step_143
        · have hf := ite_t hc hf
          refine g_iconst (v := 1) dX3_step_134 (by decide) ?_
          refine g_goto (tgt := 140) dX3_step_135 (by decide) ?_
          refine g_putI (kk := 55) (by decide) (cel_55 _ _ _) (pI_55_2 _ _ _ _) rfl inX3 tyX3_ok nmX3 fl_X3_29 (by decide) (Nat.le_of_ble_eq_true rfl) rfl (by decide +kernel) dX3_step_140 ?_
          exact g_vret_w hr hf dX3_step_143
      · have hf := ite_f hc hf
        refine g_aload_n dX3_step_102 rfl ?_
        obtain ⟨r8, hq, hf⟩ := bnd hf
        refine g_cV_0_V (c_X3_stepNumber hq) cv_X3_85 (by decide) (cel_55 _ _ _) rfl ⟨by decide, by decide⟩ (Nat.le_of_ble_eq_true rfl) dX3_step_103 ?_
        refine g_goto (tgt := 143) dX3_step_106 (by decide) ?_
        exact g_vret_w hr hf dX3_step_143
    · have hf := ite_f hc hf
      refine g_aload_n dX3_step_84 rfl ?_
      obtain ⟨r9, hq, hf⟩ := bnd hf
      refine g_cV_0_V (c_X3_stepWord hq) cv_X3_79 (by decide) (cel_55 _ _ _) rfl ⟨by decide, by decide⟩ (Nat.le_of_ble_eq_true rfl) dX3_step_85 ?_
      refine g_goto (tgt := 143) dX3_step_88 (by decide) ?_
      exact g_vret_w hr hf dX3_step_143
  · have hf := ite_f hc hf
    refine g_aload_n dX3_step_65 rfl ?_
    refine g_iconst (v := 0) dX3_step_66 (by decide) ?_
    refine g_putI (kk := 55) (by decide) (cel_55 _ _ _) (pI_55_2 _ _ _ _) rfl inX3 tyX3_ok nmX3 fl_X3_29 (by decide) (Nat.le_of_ble_eq_true rfl) rfl (by decide +kernel) dX3_step_67 ?_
    refine g_goto (tgt := 143) dX3_step_70 (by decide) ?_
    exact g_vret_w hr hf dX3_step_143
def b_X3_step_8    : Nat → Mem → Option Mem
  | 0, _ => none
  | n + 1, M =>
    if (M.1 55 0) ≤ (M.1 55 3) then (b_X3_step_46 M)
    else (ck (M.1 55 3) 150 <|
    if (M.1 56 (M.1 55 3).toNatClampNeg) = (32 : Int32) then (let M11 := mI M 55 3 ((M.1 55 3) + (1 : Int32))
    b_X3_step_8 n M11)
    else (b_X3_step_46 M))
set_option maxHeartbeats 4000000 in
set_option maxRecDepth 100000 in
theorem w_X3_step_8 {X : Cx} {M1 : Mem}      (hr : X.meth.sig.returnType = none) : ∀ (n : Nat)  {M : Mem}, b_X3_step_8  n M = some M1 → G X (none, M1) RX3 cX3_step 1 6 127 8 [some (.ref (X.1.1 55))] [] M := by
  intro n
  induction n with
  | zero => intro M hf; cases hf
  | succ n ih =>
    intro M hf
    rw [b_X3_step_8.eq_2] at hf
    refine g_aload_n dX3_step_8 rfl ?_
    refine g_get (kk := 55) (by decide) (cel_55 _ _ _) rfl inX3 fl_X3_38 (by decide) rfl dX3_step_9 ?_
    refine g_aload_n dX3_step_12 rfl ?_
    refine g_get (kk := 55) (by decide) (cel_55 _ _ _) rfl inX3 fl_X3_15 (by decide) rfl dX3_step_13 ?_
    refine g_icmp_ge (tgt := 46) dX3_step_16 (by decide) (fun hc => ?_) (fun hc => ?_)
    · have hf := ite_t hc hf
      exact w_X3_step_46 hr hf
    · have hf := ite_f hc hf
      refine g_aload_n dX3_step_19 rfl ?_
      refine g_get (kk := 55) (by decide) (cel_55 _ _ _) rfl inX3 fl_X3_9 (by decide) rfl dX3_step_20 ?_
      refine g_aload_n dX3_step_23 rfl ?_
      refine g_get (kk := 55) (by decide) (cel_55 _ _ _) rfl inX3 fl_X3_38 (by decide) rfl dX3_step_24 ?_
      obtain ⟨hi, hf⟩ := ck_s hf
      refine g_iaload (kk := 56) (by decide) (fun f g => cel_56 _ f g) hi rfl dX3_step_27 ?_
      refine g_bipush (v := 32) dX3_step_28 (by decide) ?_
      refine g_icmp_ne (tgt := 46) dX3_step_30 (by decide) (fun hc => ?_) (fun hc => ?_)
      · have hf := ite_f hc hf
        exact w_X3_step_46 hr hf
      · have hf := ite_t hc hf
        refine g_aload_n dX3_step_33 rfl ?_
        refine g_dup dX3_step_34 rfl ?_
        refine g_get (kk := 55) (by decide) (cel_55 _ _ _) rfl inX3 fl_X3_38 (by decide) rfl dX3_step_35 ?_
        refine g_iconst (v := 1) dX3_step_38 (by decide) ?_
        refine g_iadd dX3_step_39 ?_
        refine g_putI (kk := 55) (by decide) (cel_55 _ _ _) (pI_55_3 _ _ _ _) rfl inX3 tyX3_ok nmX3 fl_X3_38 (by decide) (Nat.le_of_ble_eq_true rfl) rfl (by decide +kernel) dX3_step_40 ?_
        refine g_goto (tgt := 8) dX3_step_43 (by decide) ?_
        exact ih hf
def f_X3_step  (M : Mem) : Option Mem :=
  let M1 := mI M 55 3 (M.1 55 4)
  b_X3_step_8 fu M1
set_option maxHeartbeats 4000000 in
set_option maxRecDepth 100000 in
theorem c_X3_step {l : Launch}  {M : Mem} {M1 : Mem} (hf : f_X3_step M = some M1) : Cn l yX3_step cX3_step 1 none 6 127 (fun E => [.ref (E.1 55)]) M (none, M1) := by
  unfold f_X3_step at hf
  refine cn_of RX3 (fun E => [some (.ref (E.1 55))]) (by decide +kernel) rfl (fun E => Nat.le_of_ble_eq_true rfl) (fun E => rfl) (fun X hr => ?_)
  refine g_aload_n dX3_step_0 rfl ?_
  refine g_aload_n dX3_step_1 rfl ?_
  refine g_get (kk := 55) (by decide) (cel_55 _ _ _) rfl inX3 fl_X3_19 (by decide) rfl dX3_step_2 ?_
  refine g_putI (kk := 55) (by decide) (cel_55 _ _ _) (pI_55_3 _ _ _ _) rfl inX3 tyX3_ok nmX3 fl_X3_38 (by decide) (Nat.le_of_ble_eq_true rfl) rfl (by decide +kernel) dX3_step_5 ?_
  exact w_X3_step_8 hr fu hf
-- X3_takeNumber
def f_X3_takeNumber (x1 : Int32) (x2 : Int32) (M : Mem) : Option (Int32 × Mem) :=
  if (M.1 55 2) = (2 : Int32) then (if x1 ≤ (M.1 55 5) then (some ((-1 : Int32), M))
  else (if (M.1 55 5) = x2 then (some ((-1 : Int32), M))
  else ((f_X3_step M).bind fun r1 =>
  some ((M.1 55 5), r1))))
  else (some ((-1 : Int32), M))
set_option maxHeartbeats 4000000 in
set_option maxRecDepth 100000 in
theorem c_X3_takeNumber {l : Launch} {x1 : Int32} {x2 : Int32} {M : Mem} {r : Int32} {M1 : Mem} (hf : f_X3_takeNumber x1 x2 M = some (r, M1)) : Cn l yX3_takeNumber cX3_takeNumber 4 (some .int) 7 147 (fun E => [.ref (E.1 55), .int x1, .int x2]) M (some (.int r), M1) := by
  unfold f_X3_takeNumber at hf
  refine cn_of RX3 (fun E => [some (.ref (E.1 55)), some (.int x1), some (.int x2), none]) (by decide +kernel) rfl (fun E => Nat.le_of_ble_eq_true rfl) (fun E => rfl) (fun X hr => ?_)
  refine g_aload_n dX3_takeNumber_0 rfl ?_
  refine g_get (kk := 55) (by decide) (cel_55 _ _ _) rfl inX3 fl_X3_29 (by decide) rfl dX3_takeNumber_1 ?_
  refine g_iconst (v := 2) dX3_takeNumber_4 (by decide) ?_
  refine g_icmp_ne (tgt := 24) dX3_takeNumber_5 (by decide) (fun hc => ?_) (fun hc => ?_)
  · have hf := ite_f hc hf
    refine g_iconst (v := (-1)) dX3_takeNumber_24 (by decide) ?_
    exact g_iret_w hr hf dX3_takeNumber_25
  · have hf := ite_t hc hf
    refine g_aload_n dX3_takeNumber_8 rfl ?_
    refine g_get (kk := 55) (by decide) (cel_55 _ _ _) rfl inX3 fl_X3_72 (by decide) rfl dX3_takeNumber_9 ?_
    refine g_iload_n dX3_takeNumber_12 rfl ?_
    refine g_icmp_ge (tgt := 24) dX3_takeNumber_13 (by decide) (fun hc => ?_) (fun hc => ?_)
    · have hf := ite_t hc hf
      refine g_iconst (v := (-1)) dX3_takeNumber_24 (by decide) ?_
      exact g_iret_w hr hf dX3_takeNumber_25
    · have hf := ite_f hc hf
      refine g_aload_n dX3_takeNumber_16 rfl ?_
      refine g_get (kk := 55) (by decide) (cel_55 _ _ _) rfl inX3 fl_X3_72 (by decide) rfl dX3_takeNumber_17 ?_
      refine g_iload_n dX3_takeNumber_20 rfl ?_
      refine g_icmp_ne (tgt := 26) dX3_takeNumber_21 (by decide) (fun hc => ?_) (fun hc => ?_)
      · have hf := ite_f hc hf
        refine g_aload_n dX3_takeNumber_26 rfl ?_
        refine g_get (kk := 55) (by decide) (cel_55 _ _ _) rfl inX3 fl_X3_72 (by decide) rfl dX3_takeNumber_27 ?_
        refine g_ist3 dX3_takeNumber_30 (by decide) lnl_i ?_
        refine g_aload_n dX3_takeNumber_31 rfl ?_
        obtain ⟨r1, hq, hf⟩ := bnd hf
        refine g_cV_0_V (c_X3_step hq) cv_X3_22 (by decide) (cel_55 _ _ _) rfl ⟨by decide, by decide⟩ (Nat.le_of_ble_eq_true rfl) dX3_takeNumber_32 ?_
        refine g_iload_n dX3_takeNumber_35 rfl ?_
        exact g_iret_w hr hf dX3_takeNumber_36
      · have hf := ite_t hc hf
        refine g_iconst (v := (-1)) dX3_takeNumber_24 (by decide) ?_
        exact g_iret_w hr hf dX3_takeNumber_25
-- X3_takeStop
def f_X3_takeStop  (M : Mem) : Option (Int32 × Mem) :=
  if (M.1 55 2) = (1 : Int32) then ((f_X3_step M).bind fun r1 =>
  some ((1 : Int32), r1))
  else (some ((0 : Int32), M))
set_option maxHeartbeats 4000000 in
set_option maxRecDepth 100000 in
theorem c_X3_takeStop {l : Launch}  {M : Mem} {r : Int32} {M1 : Mem} (hf : f_X3_takeStop M = some (r, M1)) : Cn l yX3_takeStop cX3_takeStop 1 (some .boolean) 7 147 (fun E => [.ref (E.1 55)]) M (some (.int r), M1) := by
  unfold f_X3_takeStop at hf
  refine cn_of RX3 (fun E => [some (.ref (E.1 55))]) (by decide +kernel) rfl (fun E => Nat.le_of_ble_eq_true rfl) (fun E => rfl) (fun X hr => ?_)
  refine g_aload_n dX3_takeStop_0 rfl ?_
  refine g_get (kk := 55) (by decide) (cel_55 _ _ _) rfl inX3 fl_X3_29 (by decide) rfl dX3_takeStop_1 ?_
  refine g_iconst (v := 1) dX3_takeStop_4 (by decide) ?_
  refine g_icmp_eq (tgt := 10) dX3_takeStop_5 (by decide) (fun hc => ?_) (fun hc => ?_)
  · have hf := ite_t hc hf
    refine g_aload_n dX3_takeStop_10 rfl ?_
    obtain ⟨r1, hq, hf⟩ := bnd hf
    refine g_cV_0_V (c_X3_step hq) cv_X3_22 (by decide) (cel_55 _ _ _) rfl ⟨by decide, by decide⟩ (Nat.le_of_ble_eq_true rfl) dX3_takeStop_11 ?_
    refine g_iconst (v := 1) dX3_takeStop_14 (by decide) ?_
    exact g_zret_w hr (Or.inr rfl) hf dX3_takeStop_15
  · have hf := ite_f hc hf
    refine g_iconst (v := 0) dX3_takeStop_8 (by decide) ?_
    exact g_zret_w hr (Or.inl rfl) hf dX3_takeStop_9
-- X3_readRiver_14
def f_X3_readRiver_14  (M : Mem) : Option (Int32 × Mem) :=
  if (M.1 55 2) = (3 : Int32) then ((f_X3_step M).bind fun r1 =>
  (f_X3_takeNumber (12 : Int32) (-1 : Int32) r1).bind fun r2 =>
  if r2.1 = (-1 : Int32) then (some ((0 : Int32), r2.2))
  else ((f_X4_restart_14 r2.1 r2.2).bind fun r3 =>
  (f_X3_takeStop r3).bind fun r4 =>
  ckB r4.1 (some (r4.1, r4.2))))
  else (some ((0 : Int32), M))
set_option maxHeartbeats 4000000 in
set_option maxRecDepth 100000 in
theorem c_X3_readRiver_14 {l : Launch}  {M : Mem} {r : Int32} {M1 : Mem} (hf : f_X3_readRiver_14 M = some (r, M1)) : Cn l yX3_readRiver cX3_readRiver 3 (some .boolean) 8 170 (fun E => [.ref (E.1 55), .ref (E.1 14)]) M (some (.int r), M1) := by
  unfold f_X3_readRiver_14 at hf
  refine cn_of RX3 (fun E => [some (.ref (E.1 55)), some (.ref (E.1 14)), none]) (by decide +kernel) rfl (fun E => Nat.le_of_ble_eq_true rfl) (fun E => rfl) (fun X hr => ?_)
  refine g_aload_n dX3_readRiver_0 rfl ?_
  refine g_get (kk := 55) (by decide) (cel_55 _ _ _) rfl inX3 fl_X3_29 (by decide) rfl dX3_readRiver_1 ?_
  refine g_iconst (v := 3) dX3_readRiver_4 (by decide) ?_
  refine g_icmp_eq (tgt := 10) dX3_readRiver_5 (by decide) (fun hc => ?_) (fun hc => ?_)
  · have hf := ite_t hc hf
    refine g_aload_n dX3_readRiver_10 rfl ?_
    obtain ⟨r1, hq, hf⟩ := bnd hf
    refine g_cV_0_V (c_X3_step hq) cv_X3_22 (by decide) (cel_55 _ _ _) rfl ⟨by decide, by decide⟩ (Nat.le_of_ble_eq_true rfl) dX3_readRiver_11 ?_
    refine g_aload_n dX3_readRiver_14 rfl ?_
    refine g_bipush (v := 12) dX3_readRiver_15 (by decide) ?_
    refine g_iconst (v := (-1)) dX3_readRiver_17 (by decide) ?_
    obtain ⟨r2, hq, hf⟩ := bnd hf
    refine g_cV_II_I (c_X3_takeNumber (r := r2.1) (M1 := r2.2) hq) cv_X3_41 (by decide) (cel_55 _ _ _) rfl ⟨by decide, by decide⟩ (Nat.le_of_ble_eq_true rfl) dX3_readRiver_18 ?_
    refine g_ist2 dX3_readRiver_21 (by decide) lnl_r ?_
    refine g_iload_n dX3_readRiver_22 rfl ?_
    refine g_iconst (v := (-1)) dX3_readRiver_23 (by decide) ?_
    refine g_icmp_ne (tgt := 29) dX3_readRiver_24 (by decide) (fun hc => ?_) (fun hc => ?_)
    · have hf := ite_f hc hf
      refine g_aload_n dX3_readRiver_29 rfl ?_
      refine g_iload_n dX3_readRiver_30 rfl ?_
      obtain ⟨r3, hq, hf⟩ := bnd hf
      refine g_cV_I_V (c_X4_restart_14 hq) cv_X3_45 (by decide) (cel_14 _ _ _) rfl ⟨by decide, by decide⟩ (Nat.le_of_ble_eq_true rfl) dX3_readRiver_31 ?_
      refine g_aload_n dX3_readRiver_34 rfl ?_
      obtain ⟨r4, hq, hf⟩ := bnd hf
      refine g_cV_0_I (c_X3_takeStop (r := r4.1) (M1 := r4.2) hq) cv_X3_51 (by decide) (cel_55 _ _ _) rfl ⟨by decide, by decide⟩ (Nat.le_of_ble_eq_true rfl) dX3_readRiver_35 ?_
      obtain ⟨hz, hf⟩ := ckB_s hf
      exact g_zret_w hr hz hf dX3_readRiver_38
    · have hf := ite_t hc hf
      refine g_iconst (v := 0) dX3_readRiver_27 (by decide) ?_
      exact g_zret_w hr (Or.inl rfl) hf dX3_readRiver_28
  · have hf := ite_f hc hf
    refine g_iconst (v := 0) dX3_readRiver_8 (by decide) ?_
    exact g_zret_w hr (Or.inl rfl) hf dX3_readRiver_9
-- X3_readBridge_14
def b_X3_readBridge_14_75   (x2 : Int32) (x3 : Int32) (x4 : Int32) (t0 : Int32) (M : Mem) : Option (Int32 × Mem) :=
  if t0 = (-1 : Int32) then (some ((0 : Int32), M))
  else ((f_X4_build_14 x2 x3 x4 t0 M).bind fun r6 =>
  (f_X3_takeStop r6.2).bind fun r7 =>
  ckB r7.1 (some (r7.1, r7.2)))
set_option maxHeartbeats 4000000 in
set_option maxRecDepth 100000 in
theorem w_X3_readBridge_14_75 {X : Cx} {r : Int32} {M1 : Mem}      {x2 : Int32} {x3 : Int32} {x4 : Int32} {t0 : Int32} {M : Mem} (hr : X.meth.sig.returnType = (some .boolean)) (hf : b_X3_readBridge_14_75 x2 x3 x4 t0 M = some (r, M1)) : G X (some (.int r), M1) RX3 cX3_readBridge 6 8 170 75 [some (.ref (X.1.1 55)), some (.ref (X.1.1 14)), some (.int x2), some (.int x3), some (.int x4), none] [.int t0] M := by
  unfold b_X3_readBridge_14_75 at hf
  refine g_ist5 dX3_readBridge_75 (by decide) lnl_i ?_
  refine g_iload dX3_readBridge_77 rfl ?_
  refine g_iconst (v := (-1)) dX3_readBridge_79 (by decide) ?_
  refine g_icmp_ne (tgt := 85) dX3_readBridge_80 (by decide) (fun hc => ?_) (fun hc => ?_)
  · have hf := ite_f hc hf
    refine g_aload_n dX3_readBridge_85 rfl ?_
    refine g_iload_n dX3_readBridge_86 rfl ?_
    refine g_iload_n dX3_readBridge_87 rfl ?_
    refine g_iload dX3_readBridge_88 rfl ?_
    refine g_iload dX3_readBridge_90 rfl ?_
    obtain ⟨r6, hq, hf⟩ := bnd hf
    refine g_cV_IIII_I (c_X4_build_14 (r := r6.1) (M1 := r6.2) hq) cv_X3_58 (by decide) (cel_14 _ _ _) rfl ⟨by decide, by decide⟩ (Nat.le_of_ble_eq_true rfl) dX3_readBridge_92 ?_
    refine g_pop dX3_readBridge_95 rfl ?_
    refine g_aload_n dX3_readBridge_96 rfl ?_
    obtain ⟨r7, hq, hf⟩ := bnd hf
    refine g_cV_0_I (c_X3_takeStop (r := r7.1) (M1 := r7.2) hq) cv_X3_51 (by decide) (cel_55 _ _ _) rfl ⟨by decide, by decide⟩ (Nat.le_of_ble_eq_true rfl) dX3_readBridge_97 ?_
    obtain ⟨hz, hf⟩ := ckB_s hf
    exact g_zret_w hr hz hf dX3_readBridge_100
  · have hf := ite_t hc hf
    refine g_iconst (v := 0) dX3_readBridge_83 (by decide) ?_
    exact g_zret_w hr (Or.inl rfl) hf dX3_readBridge_84
def b_X3_readBridge_14_56   (x2 : Int32) (x3 : Int32) (t0 : Int32) (M : Mem) : Option (Int32 × Mem) :=
  if t0 = (-1 : Int32) then (b_X3_readBridge_14_75 x2 x3 t0 (-1 : Int32) M)
  else ((f_X3_takeNumber (16 : Int32) (-1 : Int32) M).bind fun r5 =>
  b_X3_readBridge_14_75 x2 x3 t0 r5.1 r5.2)
set_option maxHeartbeats 4000000 in
set_option maxRecDepth 100000 in
theorem w_X3_readBridge_14_56 {X : Cx} {r : Int32} {M1 : Mem}      {x2 : Int32} {x3 : Int32} {t0 : Int32} {M : Mem} (hr : X.meth.sig.returnType = (some .boolean)) (hf : b_X3_readBridge_14_56 x2 x3 t0 M = some (r, M1)) : G X (some (.int r), M1) RX3 cX3_readBridge 6 8 170 56 [some (.ref (X.1.1 55)), some (.ref (X.1.1 14)), some (.int x2), some (.int x3), none, none] [.int t0] M := by
  unfold b_X3_readBridge_14_56 at hf
  refine g_ist4 dX3_readBridge_56 (by decide) lnl_i ?_
  refine g_iload dX3_readBridge_58 rfl ?_
  refine g_iconst (v := (-1)) dX3_readBridge_60 (by decide) ?_
  refine g_icmp_ne (tgt := 68) dX3_readBridge_61 (by decide) (fun hc => ?_) (fun hc => ?_)
  · have hf := ite_f hc hf
    refine g_aload_n dX3_readBridge_68 rfl ?_
    refine g_bipush (v := 16) dX3_readBridge_69 (by decide) ?_
    refine g_iconst (v := (-1)) dX3_readBridge_71 (by decide) ?_
    obtain ⟨r5, hq, hf⟩ := bnd hf
    refine g_cV_II_I (c_X3_takeNumber (r := r5.1) (M1 := r5.2) hq) cv_X3_41 (by decide) (cel_55 _ _ _) rfl ⟨by decide, by decide⟩ (Nat.le_of_ble_eq_true rfl) dX3_readBridge_72 ?_
    exact w_X3_readBridge_14_75 hr hf
  · have hf := ite_t hc hf
    refine g_iconst (v := (-1)) dX3_readBridge_64 (by decide) ?_
    refine g_goto (tgt := 75) dX3_readBridge_65 (by decide) ?_
    exact w_X3_readBridge_14_75 hr hf
def b_X3_readBridge_14_39   (x2 : Int32) (t0 : Int32) (M : Mem) : Option (Int32 × Mem) :=
  if t0 = (-1 : Int32) then (b_X3_readBridge_14_56 x2 t0 (-1 : Int32) M)
  else ((f_X3_takeNumber (6 : Int32) (-1 : Int32) M).bind fun r4 =>
  b_X3_readBridge_14_56 x2 t0 r4.1 r4.2)
set_option maxHeartbeats 4000000 in
set_option maxRecDepth 100000 in
theorem w_X3_readBridge_14_39 {X : Cx} {r : Int32} {M1 : Mem}      {x2 : Int32} {t0 : Int32} {M : Mem} (hr : X.meth.sig.returnType = (some .boolean)) (hf : b_X3_readBridge_14_39 x2 t0 M = some (r, M1)) : G X (some (.int r), M1) RX3 cX3_readBridge 6 8 170 39 [some (.ref (X.1.1 55)), some (.ref (X.1.1 14)), some (.int x2), none, none, none] [.int t0] M := by
  unfold b_X3_readBridge_14_39 at hf
  refine g_ist3 dX3_readBridge_39 (by decide) lnl_i ?_
  refine g_iload_n dX3_readBridge_40 rfl ?_
  refine g_iconst (v := (-1)) dX3_readBridge_41 (by decide) ?_
  refine g_icmp_ne (tgt := 49) dX3_readBridge_42 (by decide) (fun hc => ?_) (fun hc => ?_)
  · have hf := ite_f hc hf
    refine g_aload_n dX3_readBridge_49 rfl ?_
    refine g_bipush (v := 6) dX3_readBridge_50 (by decide) ?_
    refine g_iconst (v := (-1)) dX3_readBridge_52 (by decide) ?_
    obtain ⟨r4, hq, hf⟩ := bnd hf
    refine g_cV_II_I (c_X3_takeNumber (r := r4.1) (M1 := r4.2) hq) cv_X3_41 (by decide) (cel_55 _ _ _) rfl ⟨by decide, by decide⟩ (Nat.le_of_ble_eq_true rfl) dX3_readBridge_53 ?_
    exact w_X3_readBridge_14_56 hr hf
  · have hf := ite_t hc hf
    refine g_iconst (v := (-1)) dX3_readBridge_45 (by decide) ?_
    refine g_goto (tgt := 56) dX3_readBridge_46 (by decide) ?_
    exact w_X3_readBridge_14_56 hr hf
def f_X3_readBridge_14  (M : Mem) : Option (Int32 × Mem) :=
  if (M.1 14 6) < (8 : Int32) then ((f_X3_step M).bind fun r1 =>
  (f_X3_takeNumber (6 : Int32) (-1 : Int32) r1).bind fun r2 =>
  if r2.1 = (-1 : Int32) then (b_X3_readBridge_14_39 r2.1 (-1 : Int32) r2.2)
  else ((f_X3_takeNumber (6 : Int32) r2.1 r2.2).bind fun r3 =>
  b_X3_readBridge_14_39 r2.1 r3.1 r3.2))
  else (some ((0 : Int32), M))
set_option maxHeartbeats 4000000 in
set_option maxRecDepth 100000 in
theorem c_X3_readBridge_14 {l : Launch}  {M : Mem} {r : Int32} {M1 : Mem} (hf : f_X3_readBridge_14 M = some (r, M1)) : Cn l yX3_readBridge cX3_readBridge 6 (some .boolean) 8 170 (fun E => [.ref (E.1 55), .ref (E.1 14)]) M (some (.int r), M1) := by
  unfold f_X3_readBridge_14 at hf
  refine cn_of RX3 (fun E => [some (.ref (E.1 55)), some (.ref (E.1 14)), none, none, none, none]) (by decide +kernel) rfl (fun E => Nat.le_of_ble_eq_true rfl) (fun E => rfl) (fun X hr => ?_)
  refine g_aload_n dX3_readBridge_0 rfl ?_
  refine g_get (kk := 14) (by decide) (cel_14 _ _ _) rfl inX4 fl_X3_55 (by decide) rfl dX3_readBridge_1 ?_
  refine g_bipush (v := 8) dX3_readBridge_4 (by decide) ?_
  refine g_icmp_lt (tgt := 11) dX3_readBridge_6 (by decide) (fun hc => ?_) (fun hc => ?_)
  · have hf := ite_t hc hf
    refine g_aload_n dX3_readBridge_11 rfl ?_
    obtain ⟨r1, hq, hf⟩ := bnd hf
    refine g_cV_0_V (c_X3_step hq) cv_X3_22 (by decide) (cel_55 _ _ _) rfl ⟨by decide, by decide⟩ (Nat.le_of_ble_eq_true rfl) dX3_readBridge_12 ?_
    refine g_aload_n dX3_readBridge_15 rfl ?_
    refine g_bipush (v := 6) dX3_readBridge_16 (by decide) ?_
    refine g_iconst (v := (-1)) dX3_readBridge_18 (by decide) ?_
    obtain ⟨r2, hq, hf⟩ := bnd hf
    refine g_cV_II_I (c_X3_takeNumber (r := r2.1) (M1 := r2.2) hq) cv_X3_41 (by decide) (cel_55 _ _ _) rfl ⟨by decide, by decide⟩ (Nat.le_of_ble_eq_true rfl) dX3_readBridge_19 ?_
    refine g_ist2 dX3_readBridge_22 (by decide) lnl_r ?_
    refine g_iload_n dX3_readBridge_23 rfl ?_
    refine g_iconst (v := (-1)) dX3_readBridge_24 (by decide) ?_
    refine g_icmp_ne (tgt := 32) dX3_readBridge_25 (by decide) (fun hc => ?_) (fun hc => ?_)
    · have hf := ite_f hc hf
      refine g_aload_n dX3_readBridge_32 rfl ?_
      refine g_bipush (v := 6) dX3_readBridge_33 (by decide) ?_
      refine g_iload_n dX3_readBridge_35 rfl ?_
      obtain ⟨r3, hq, hf⟩ := bnd hf
      refine g_cV_II_I (c_X3_takeNumber (r := r3.1) (M1 := r3.2) hq) cv_X3_41 (by decide) (cel_55 _ _ _) rfl ⟨by decide, by decide⟩ (Nat.le_of_ble_eq_true rfl) dX3_readBridge_36 ?_
      exact w_X3_readBridge_14_39 hr hf
    · have hf := ite_t hc hf
      refine g_iconst (v := (-1)) dX3_readBridge_28 (by decide) ?_
      refine g_goto (tgt := 39) dX3_readBridge_29 (by decide) ?_
      exact w_X3_readBridge_14_39 hr hf
  · have hf := ite_f hc hf
    refine g_iconst (v := 0) dX3_readBridge_9 (by decide) ?_
    exact g_zret_w hr (Or.inl rfl) hf dX3_readBridge_10
-- X3_readRow_14
def b_X3_readRow_14_23   (x2 : Int32) : Nat → Int64 → Int32 → Mem → Option (Int32 × Mem)
  | 0, _, _, _ => none
  | n + 1, x3, x5, M =>
    if (12 : Int32) ≤ x5 then (ck x2 4 <|
    let M3 := mL M 19 (x2.toNatClampNeg) x3
    (f_X3_takeStop M3).bind fun r4 =>
    ckB r4.1 (some (r4.1, r4.2)))
    else (if (M.1 55 2) = (2 : Int32) then ((f_X3_takeNumber (16 : Int32) (-1 : Int32) M).bind fun r7 =>
    if r7.1 = (-1 : Int32) then (some ((0 : Int32), r7.2))
    else (b_X3_readRow_14_23 x2 n (f_X1_longer x3 r7.1) (x5 + (1 : Int32)) r7.2))
    else (ck x2 4 <|
    let M5 := mL M 19 (x2.toNatClampNeg) x3
    (f_X3_takeStop M5).bind fun r6 =>
    ckB r6.1 (some (r6.1, r6.2))))
set_option maxHeartbeats 4000000 in
set_option maxRecDepth 100000 in
theorem w_X3_readRow_14_23 {X : Cx} {r : Int32} {M1 : Mem}   {x2 : Int32}   (hr : X.meth.sig.returnType = (some .boolean)) : ∀ (n : Nat) {x3 : Int64} {x5 : Int32} {M : Mem}, b_X3_readRow_14_23 x2 n x3 x5 M = some (r, M1) → G X (some (.int r), M1) RX3 cX3_readRow 7 8 170 23 [some (.ref (X.1.1 55)), some (.ref (X.1.1 14)), some (.int x2), some (.long x3), none, some (.int x5), none] [] M := by
  intro n
  induction n with
  | zero => intro x3 x5 M hf; cases hf
  | succ n ih =>
    intro x3 x5 M hf
    rw [b_X3_readRow_14_23.eq_2] at hf
    refine g_iload dX3_readRow_23 rfl ?_
    refine g_bipush (v := 12) dX3_readRow_25 (by decide) ?_
    refine g_icmp_ge (tgt := 68) dX3_readRow_27 (by decide) (fun hc => ?_) (fun hc => ?_)
    · have hf := ite_t hc hf
      refine g_aload_n dX3_readRow_68 rfl ?_
      refine g_get (kk := 14) (by decide) (cel_14 _ _ _) rfl inX4 fl_X3_68 (by decide) rfl dX3_readRow_69 ?_
      refine g_iload_n dX3_readRow_72 rfl ?_
      refine g_lload_n dX3_readRow_73 rfl ?_
      obtain ⟨hi, hf⟩ := ck_s hf
      refine g_lastore (kk := 19) (by decide) (fun f g => cel_19 _ f g) hi rfl dX3_readRow_74 ?_
      refine g_aload_n dX3_readRow_75 rfl ?_
      obtain ⟨r4, hq, hf⟩ := bnd hf
      refine g_cV_0_I (c_X3_takeStop (r := r4.1) (M1 := r4.2) hq) cv_X3_51 (by decide) (cel_55 _ _ _) rfl ⟨by decide, by decide⟩ (Nat.le_of_ble_eq_true rfl) dX3_readRow_76 ?_
      obtain ⟨hz, hf⟩ := ckB_s hf
      exact g_zret_w hr hz hf dX3_readRow_79
    · have hf := ite_f hc hf
      refine g_aload_n dX3_readRow_30 rfl ?_
      refine g_get (kk := 55) (by decide) (cel_55 _ _ _) rfl inX3 fl_X3_29 (by decide) rfl dX3_readRow_31 ?_
      refine g_iconst (v := 2) dX3_readRow_34 (by decide) ?_
      refine g_icmp_ne (tgt := 68) dX3_readRow_35 (by decide) (fun hc => ?_) (fun hc => ?_)
      · have hf := ite_f hc hf
        refine g_aload_n dX3_readRow_68 rfl ?_
        refine g_get (kk := 14) (by decide) (cel_14 _ _ _) rfl inX4 fl_X3_68 (by decide) rfl dX3_readRow_69 ?_
        refine g_iload_n dX3_readRow_72 rfl ?_
        refine g_lload_n dX3_readRow_73 rfl ?_
        obtain ⟨hi, hf⟩ := ck_s hf
        refine g_lastore (kk := 19) (by decide) (fun f g => cel_19 _ f g) hi rfl dX3_readRow_74 ?_
        refine g_aload_n dX3_readRow_75 rfl ?_
        obtain ⟨r6, hq, hf⟩ := bnd hf
        refine g_cV_0_I (c_X3_takeStop (r := r6.1) (M1 := r6.2) hq) cv_X3_51 (by decide) (cel_55 _ _ _) rfl ⟨by decide, by decide⟩ (Nat.le_of_ble_eq_true rfl) dX3_readRow_76 ?_
        obtain ⟨hz, hf⟩ := ckB_s hf
        exact g_zret_w hr hz hf dX3_readRow_79
      · have hf := ite_t hc hf
        refine g_aload_n dX3_readRow_38 rfl ?_
        refine g_bipush (v := 16) dX3_readRow_39 (by decide) ?_
        refine g_iconst (v := (-1)) dX3_readRow_41 (by decide) ?_
        obtain ⟨r7, hq, hf⟩ := bnd hf
        refine g_cV_II_I (c_X3_takeNumber (r := r7.1) (M1 := r7.2) hq) cv_X3_41 (by decide) (cel_55 _ _ _) rfl ⟨by decide, by decide⟩ (Nat.le_of_ble_eq_true rfl) dX3_readRow_42 ?_
        refine g_ist6 dX3_readRow_45 (by decide) lnl_i ?_
        refine g_iload dX3_readRow_47 rfl ?_
        refine g_iconst (v := (-1)) dX3_readRow_49 (by decide) ?_
        refine g_icmp_ne (tgt := 55) dX3_readRow_50 (by decide) (fun hc => ?_) (fun hc => ?_)
        · have hf := ite_f hc hf
          refine g_lload_n dX3_readRow_55 rfl ?_
          refine g_iload dX3_readRow_56 rfl ?_
          refine g_cS_JI_J (c_X1_longer rfl) cs_X3_64 ⟨by decide, by decide⟩ (Nat.le_of_ble_eq_true rfl) dX3_readRow_58 ?_
          refine g_lst3 dX3_readRow_61 (by decide) lnl_i ?_
          refine g_iinc5 (v := (x5 + (1 : Int32))) dX3_readRow_62 (by decide) lnl_n rfl ?_
          refine g_goto (tgt := 23) dX3_readRow_65 (by decide) ?_
          exact g_weakr (ih hf) (lsk (lsk (lsk (lsk (lsd (lsk (lsd lsz)))))))
        · have hf := ite_t hc hf
          refine g_iconst (v := 0) dX3_readRow_53 (by decide) ?_
          exact g_zret_w hr (Or.inl rfl) hf dX3_readRow_54
def f_X3_readRow_14  (M : Mem) : Option (Int32 × Mem) :=
  (f_X3_step M).bind fun r1 =>
  (f_X3_takeNumber (4 : Int32) (-1 : Int32) r1).bind fun r2 =>
  if r2.1 = (-1 : Int32) then (some ((0 : Int32), r2.2))
  else (b_X3_readRow_14_23 r2.1 fu (0 : Int64) (0 : Int32) r2.2)
set_option maxHeartbeats 4000000 in
set_option maxRecDepth 100000 in
theorem c_X3_readRow_14 {l : Launch}  {M : Mem} {r : Int32} {M1 : Mem} (hf : f_X3_readRow_14 M = some (r, M1)) : Cn l yX3_readRow cX3_readRow 7 (some .boolean) 8 170 (fun E => [.ref (E.1 55), .ref (E.1 14)]) M (some (.int r), M1) := by
  unfold f_X3_readRow_14 at hf
  refine cn_of RX3 (fun E => [some (.ref (E.1 55)), some (.ref (E.1 14)), none, none, none, none, none]) (by decide +kernel) rfl (fun E => Nat.le_of_ble_eq_true rfl) (fun E => rfl) (fun X hr => ?_)
  refine g_aload_n dX3_readRow_0 rfl ?_
  obtain ⟨r1, hq, hf⟩ := bnd hf
  refine g_cV_0_V (c_X3_step hq) cv_X3_22 (by decide) (cel_55 _ _ _) rfl ⟨by decide, by decide⟩ (Nat.le_of_ble_eq_true rfl) dX3_readRow_1 ?_
  refine g_aload_n dX3_readRow_4 rfl ?_
  refine g_iconst (v := 4) dX3_readRow_5 (by decide) ?_
  refine g_iconst (v := (-1)) dX3_readRow_6 (by decide) ?_
  obtain ⟨r2, hq, hf⟩ := bnd hf
  refine g_cV_II_I (c_X3_takeNumber (r := r2.1) (M1 := r2.2) hq) cv_X3_41 (by decide) (cel_55 _ _ _) rfl ⟨by decide, by decide⟩ (Nat.le_of_ble_eq_true rfl) dX3_readRow_7 ?_
  refine g_ist2 dX3_readRow_10 (by decide) lnl_r ?_
  refine g_iload_n dX3_readRow_11 rfl ?_
  refine g_iconst (v := (-1)) dX3_readRow_12 (by decide) ?_
  refine g_icmp_ne (tgt := 18) dX3_readRow_13 (by decide) (fun hc => ?_) (fun hc => ?_)
  · have hf := ite_f hc hf
    refine g_lconst (v := 0) dX3_readRow_18 (by decide) ?_
    refine g_lst3 dX3_readRow_19 (by decide) lnl_i ?_
    refine g_iconst (v := 0) dX3_readRow_20 (by decide) ?_
    refine g_ist5 dX3_readRow_21 (by decide) lnl_n ?_
    exact w_X3_readRow_14_23 hr fu hf
  · have hf := ite_t hc hf
    refine g_iconst (v := 0) dX3_readRow_16 (by decide) ?_
    exact g_zret_w hr (Or.inl rfl) hf dX3_readRow_17
-- X3_readInto_14
def b_X3_readInto_14_75 (k23 : Int32 → Int32 → Mem → Option (Int32 × Mem))  (x2 : Int32) (x3 : Int32) (t0 : Int32) (M : Mem) : Option (Int32 × Mem) :=
  if t0 = 0 then (some ((-1 : Int32), M))
  else (k23 (x2 + (1 : Int32)) (x3 + (1 : Int32)) M)
set_option maxHeartbeats 4000000 in
set_option maxRecDepth 100000 in
theorem w_X3_readInto_14_75 {X : Cx} {r : Int32} {M1 : Mem}  {k23 : Int32 → Int32 → Mem → Option (Int32 × Mem)}    {x2 : Int32} {x3 : Int32} {t0 : Int32} {M : Mem} (hr : X.meth.sig.returnType = (some .int)) (hk23 : ∀ {x2_ : Int32} {x3_ : Int32} {M_ : Mem}, k23 x2_ x3_ M_ = some (r, M1) → G X (some (.int r), M1) RX3 cX3_readInto 5 9 196 23 [some (.ref (X.1.1 55)), some (.ref (X.1.1 14)), some (.int x2_), some (.int x3_), none] [] M_) (hf : b_X3_readInto_14_75 k23 x2 x3 t0 M = some (r, M1)) : G X (some (.int r), M1) RX3 cX3_readInto 5 9 196 75 [some (.ref (X.1.1 55)), some (.ref (X.1.1 14)), some (.int x2), some (.int x3), none] [.int t0] M := by
  unfold b_X3_readInto_14_75 at hf
  refine g_ist4 dX3_readInto_75 (by decide) lnl_i ?_
  refine g_iload dX3_readInto_77 rfl ?_
  refine g_if_ne (tgt := 84) dX3_readInto_79 (by decide) (fun hc => ?_) (fun hc => ?_)
  · have hf := ite_f hc hf
    refine g_iinc2 (v := (x2 + (1 : Int32))) dX3_readInto_84 (by decide) lnl_r rfl ?_
    refine g_iinc3 (v := (x3 + (1 : Int32))) dX3_readInto_87 (by decide) lnl_i rfl ?_
    refine g_goto (tgt := 23) dX3_readInto_90 (by decide) ?_
    exact g_weakr (hk23 hf) (lsk (lsk (lsk (lsk (lsd lsz)))))
  · have hf := ite_t hc hf
    refine g_iconst (v := (-1)) dX3_readInto_82 (by decide) ?_
    exact g_iret_w hr hf dX3_readInto_83
def b_X3_readInto_14_23    : Nat → Int32 → Int32 → Mem → Option (Int32 × Mem)
  | 0, _, _, _ => none
  | n + 1, x2, x3, M =>
    if (M.1 55 0) ≤ x3 then (some (x2, M))
    else (if (M.1 55 2) = 0 then (some (x2, M))
    else (if (M.1 55 2) = (4 : Int32) then ((f_X3_readBridge_14 M).bind fun r5 =>
    b_X3_readInto_14_75 (fun x2_ x3_ M_ => b_X3_readInto_14_23 n x2_ x3_ M_) x2 x3 r5.1 r5.2)
    else (if (M.1 55 2) = (5 : Int32) then ((f_X3_readRow_14 M).bind fun r4 =>
    if r4.1 = 0 then (b_X3_readInto_14_75 (fun x2_ x3_ M_ => b_X3_readInto_14_23 n x2_ x3_ M_) x2 x3 (0 : Int32) r4.2)
    else (b_X3_readInto_14_75 (fun x2_ x3_ M_ => b_X3_readInto_14_23 n x2_ x3_ M_) x2 x3 (1 : Int32) r4.2))
    else (b_X3_readInto_14_75 (fun x2_ x3_ M_ => b_X3_readInto_14_23 n x2_ x3_ M_) x2 x3 (0 : Int32) M))))
set_option maxHeartbeats 4000000 in
set_option maxRecDepth 100000 in
theorem w_X3_readInto_14_23 {X : Cx} {r : Int32} {M1 : Mem}      (hr : X.meth.sig.returnType = (some .int)) : ∀ (n : Nat) {x2 : Int32} {x3 : Int32} {M : Mem}, b_X3_readInto_14_23  n x2 x3 M = some (r, M1) → G X (some (.int r), M1) RX3 cX3_readInto 5 9 196 23 [some (.ref (X.1.1 55)), some (.ref (X.1.1 14)), some (.int x2), some (.int x3), none] [] M := by
  intro n
  induction n with
  | zero => intro x2 x3 M hf; cases hf
  | succ n ih =>
    intro x2 x3 M hf
    rw [b_X3_readInto_14_23.eq_2] at hf
    refine g_iload_n dX3_readInto_23 rfl ?_
    refine g_aload_n dX3_readInto_24 rfl ?_
    refine g_get (kk := 55) (by decide) (cel_55 _ _ _) rfl inX3 fl_X3_15 (by decide) rfl dX3_readInto_25 ?_
    refine g_icmp_ge (tgt := 93) dX3_readInto_28 (by decide) (fun hc => ?_) (fun hc => ?_)
    · have hf := ite_t hc hf
      refine g_iload_n dX3_readInto_93 rfl ?_
      exact g_iret_w hr hf dX3_readInto_94
    · have hf := ite_f hc hf
      refine g_aload_n dX3_readInto_31 rfl ?_
      refine g_get (kk := 55) (by decide) (cel_55 _ _ _) rfl inX3 fl_X3_29 (by decide) rfl dX3_readInto_32 ?_
      refine g_if_eq (tgt := 93) dX3_readInto_35 (by decide) (fun hc => ?_) (fun hc => ?_)
      · have hf := ite_t hc hf
        refine g_iload_n dX3_readInto_93 rfl ?_
        exact g_iret_w hr hf dX3_readInto_94
      · have hf := ite_f hc hf
        refine g_aload_n dX3_readInto_38 rfl ?_
        refine g_get (kk := 55) (by decide) (cel_55 _ _ _) rfl inX3 fl_X3_29 (by decide) rfl dX3_readInto_39 ?_
        refine g_iconst (v := 4) dX3_readInto_42 (by decide) ?_
        refine g_icmp_ne (tgt := 54) dX3_readInto_43 (by decide) (fun hc => ?_) (fun hc => ?_)
        · have hf := ite_f hc hf
          refine g_aload_n dX3_readInto_54 rfl ?_
          refine g_get (kk := 55) (by decide) (cel_55 _ _ _) rfl inX3 fl_X3_29 (by decide) rfl dX3_readInto_55 ?_
          refine g_iconst (v := 5) dX3_readInto_58 (by decide) ?_
          refine g_icmp_ne (tgt := 74) dX3_readInto_59 (by decide) (fun hc => ?_) (fun hc => ?_)
          · have hf := ite_f hc hf
            refine g_iconst (v := 0) dX3_readInto_74 (by decide) ?_
            exact w_X3_readInto_14_75 hr (fun hf => ih hf) hf
          · have hf := ite_t hc hf
            refine g_aload_n dX3_readInto_62 rfl ?_
            refine g_aload_n dX3_readInto_63 rfl ?_
            obtain ⟨r4, hq, hf⟩ := bnd hf
            refine g_cV_R_I (c_X3_readRow_14 (r := r4.1) (M1 := r4.2) hq) cv_X3_35 (by decide) (cel_55 _ _ _) rfl ⟨by decide, by decide⟩ (Nat.le_of_ble_eq_true rfl) dX3_readInto_64 ?_
            refine g_if_eq (tgt := 74) dX3_readInto_67 (by decide) (fun hc => ?_) (fun hc => ?_)
            · have hf := ite_t hc hf
              refine g_iconst (v := 0) dX3_readInto_74 (by decide) ?_
              exact w_X3_readInto_14_75 hr (fun hf => ih hf) hf
            · have hf := ite_f hc hf
              refine g_iconst (v := 1) dX3_readInto_70 (by decide) ?_
              refine g_goto (tgt := 75) dX3_readInto_71 (by decide) ?_
              exact w_X3_readInto_14_75 hr (fun hf => ih hf) hf
        · have hf := ite_t hc hf
          refine g_aload_n dX3_readInto_46 rfl ?_
          refine g_aload_n dX3_readInto_47 rfl ?_
          obtain ⟨r5, hq, hf⟩ := bnd hf
          refine g_cV_R_I (c_X3_readBridge_14 (r := r5.1) (M1 := r5.2) hq) cv_X3_32 (by decide) (cel_55 _ _ _) rfl ⟨by decide, by decide⟩ (Nat.le_of_ble_eq_true rfl) dX3_readInto_48 ?_
          refine g_goto (tgt := 75) dX3_readInto_51 (by decide) ?_
          exact w_X3_readInto_14_75 hr (fun hf => ih hf) hf
def f_X3_readInto_14  (M : Mem) : Option (Int32 × Mem) :=
  let M1 := mI M 55 4 (0 : Int32)
  (f_X3_step M1).bind fun r2 =>
  (f_X3_readRiver_14 r2).bind fun r3 =>
  if r3.1 = 0 then (some ((-1 : Int32), r3.2))
  else (b_X3_readInto_14_23 fu (1 : Int32) (0 : Int32) r3.2)
set_option maxHeartbeats 4000000 in
set_option maxRecDepth 100000 in
theorem c_X3_readInto_14 {l : Launch}  {M : Mem} {r : Int32} {M1 : Mem} (hf : f_X3_readInto_14 M = some (r, M1)) : Cn l yX3_readInto cX3_readInto 5 (some .int) 9 196 (fun E => [.ref (E.1 55), .ref (E.1 14)]) M (some (.int r), M1) := by
  unfold f_X3_readInto_14 at hf
  refine cn_of RX3 (fun E => [some (.ref (E.1 55)), some (.ref (E.1 14)), none, none, none]) (by decide +kernel) rfl (fun E => Nat.le_of_ble_eq_true rfl) (fun E => rfl) (fun X hr => ?_)
  refine g_aload_n dX3_readInto_0 rfl ?_
  refine g_iconst (v := 0) dX3_readInto_1 (by decide) ?_
  refine g_putI (kk := 55) (by decide) (cel_55 _ _ _) (pI_55_4 _ _ _ _) rfl inX3 tyX3_ok nmX3 fl_X3_19 (by decide) (Nat.le_of_ble_eq_true rfl) rfl (by decide +kernel) dX3_readInto_2 ?_
  refine g_aload_n dX3_readInto_5 rfl ?_
  obtain ⟨r2, hq, hf⟩ := bnd hf
  refine g_cV_0_V (c_X3_step hq) cv_X3_22 (by decide) (cel_55 _ _ _) rfl ⟨by decide, by decide⟩ (Nat.le_of_ble_eq_true rfl) dX3_readInto_6 ?_
  refine g_aload_n dX3_readInto_9 rfl ?_
  refine g_aload_n dX3_readInto_10 rfl ?_
  obtain ⟨r3, hq, hf⟩ := bnd hf
  refine g_cV_R_I (c_X3_readRiver_14 (r := r3.1) (M1 := r3.2) hq) cv_X3_25 (by decide) (cel_55 _ _ _) rfl ⟨by decide, by decide⟩ (Nat.le_of_ble_eq_true rfl) dX3_readInto_11 ?_
  refine g_if_ne (tgt := 19) dX3_readInto_14 (by decide) (fun hc => ?_) (fun hc => ?_)
  · have hf := ite_f hc hf
    refine g_iconst (v := 1) dX3_readInto_19 (by decide) ?_
    refine g_ist2 dX3_readInto_20 (by decide) lnl_r ?_
    refine g_iconst (v := 0) dX3_readInto_21 (by decide) ?_
    refine g_ist3 dX3_readInto_22 (by decide) lnl_i ?_
    exact w_X3_readInto_14_23 hr fu hf
  · have hf := ite_t hc hf
    refine g_iconst (v := (-1)) dX3_readInto_17 (by decide) ?_
    exact g_iret_w hr hf dX3_readInto_18
-- X7_read
def f_X7_read  (M : Mem) : Option (Int32 × Mem) :=
  (f_X3_readInto_14 M).bind fun r1 =>
  if r1.1 = (-1 : Int32) then (some (((-10 : Int32) - (f_X3_faultPlace r1.2)), r1.2))
  else ((f_X4_copyOf_1_14 r1.2).bind fun r2 =>
  some (r1.1, r2))
set_option maxHeartbeats 4000000 in
set_option maxRecDepth 100000 in
theorem c_X7_read {l : Launch}  {M : Mem} {r : Int32} {M1 : Mem} (hf : f_X7_read M = some (r, M1)) : Cn l yX7_read cX7_read 2 (some .int) 10 220 (fun E => [.ref (E.1 0)]) M (some (.int r), M1) := by
  unfold f_X7_read at hf
  refine cn_of RX7 (fun E => [some (.ref (E.1 0)), none]) (by decide +kernel) rfl (fun E => Nat.le_of_ble_eq_true rfl) (fun E => rfl) (fun X hr => ?_)
  refine g_aload_n dX7_read_0 rfl ?_
  refine g_get (kk := 0) (by decide) (cel_0 _ _ _) rfl inX7 fl_X7_30 (by decide) rfl dX7_read_1 ?_
  refine g_aload_n dX7_read_4 rfl ?_
  refine g_get (kk := 0) (by decide) (cel_0 _ _ _) rfl inX7 fl_X7_16 (by decide) rfl dX7_read_5 ?_
  obtain ⟨r1, hq, hf⟩ := bnd hf
  refine g_cV_R_I (c_X3_readInto_14 (r := r1.1) (M1 := r1.2) hq) cv_X7_127 (by decide) (cel_55 _ _ _) rfl ⟨by decide, by decide⟩ (Nat.le_of_ble_eq_true rfl) dX7_read_8 ?_
  refine g_ist1 dX7_read_11 (by decide) lnl_r ?_
  refine g_iload_n dX7_read_12 rfl ?_
  refine g_iconst (v := (-1)) dX7_read_13 (by decide) ?_
  refine g_icmp_ne (tgt := 28) dX7_read_14 (by decide) (fun hc => ?_) (fun hc => ?_)
  · have hf := ite_f hc hf
    refine g_aload_n dX7_read_28 rfl ?_
    refine g_get (kk := 0) (by decide) (cel_0 _ _ _) rfl inX7 fl_X7_10 (by decide) rfl dX7_read_29 ?_
    refine g_aload_n dX7_read_32 rfl ?_
    refine g_get (kk := 0) (by decide) (cel_0 _ _ _) rfl inX7 fl_X7_16 (by decide) rfl dX7_read_33 ?_
    obtain ⟨r2, hq, hf⟩ := bnd hf
    refine g_cV_R_V (c_X4_copyOf_1_14 hq) cv_X7_134 (by decide) (cel_1 _ _ _) rfl ⟨by decide, by decide⟩ (Nat.le_of_ble_eq_true rfl) dX7_read_36 ?_
    refine g_iload_n dX7_read_39 rfl ?_
    exact g_iret_w hr hf dX7_read_40
  · have hf := ite_t hc hf
    refine g_bipush (v := (-10)) dX7_read_17 (by decide) ?_
    refine g_aload_n dX7_read_19 rfl ?_
    refine g_get (kk := 0) (by decide) (cel_0 _ _ _) rfl inX7 fl_X7_30 (by decide) rfl dX7_read_20 ?_
    refine g_cV_0_I (c_X3_faultPlace rfl) cv_X7_131 (by decide) (cel_55 _ _ _) rfl ⟨by decide, by decide⟩ (Nat.le_of_ble_eq_true rfl) dX7_read_23 ?_
    refine g_isub dX7_read_26 ?_
    exact g_iret_w hr hf dX7_read_27
