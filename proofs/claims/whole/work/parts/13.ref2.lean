-- X8_higher
def b_X8_higher_5   (x0 : Int64) (x2 : Int32) : Nat → Int64 → Int32 → Option Int64
  | 0, _, _ => none
  | n + 1, x3, x5 =>
    if (f_X8_many x0) ≤ x5 then (some x3)
    else (b_X8_higher_5 x0 x2 n (f_X8_behind x3 (((f_X8_syllable x0 x5) + x2) - ((f_X8_syllable x0 x5) + x2) / (16 : Int32) * (16 : Int32))) (x5 + (1 : Int32)))
set_option maxHeartbeats 4000000 in
set_option maxRecDepth 100000 in
theorem w_X8_higher_5 {X : Cx} {r : Int64} {M : Mem}  {x0 : Int64} {x2 : Int32}   (hr : X.meth.sig.returnType = (some .long)) : ∀ (n : Nat) {x3 : Int64} {x5 : Int32}, b_X8_higher_5 x0 x2 n x3 x5 = some r → G X (some (.long r), M) RX8 cX8_higher 6 2 43 5 [some (.long x0), none, some (.int x2), some (.long x3), none, some (.int x5)] [] M := by
  intro n
  induction n with
  | zero => intro x3 x5 hf; cases hf
  | succ n ih =>
    intro x3 x5 hf
    rw [b_X8_higher_5.eq_2] at hf
    refine g_iload dX8_higher_5 rfl ?_
    refine g_lload_n dX8_higher_7 rfl ?_
    refine g_cS_J_I (c_X8_many rfl) cs_X8_71 ⟨by decide, by decide⟩ (Nat.le_of_ble_eq_true rfl) dX8_higher_8 ?_
    refine g_icmp_ge (tgt := 36) dX8_higher_11 (by decide) (fun hc => ?_) (fun hc => ?_)
    · have hf := ite_t hc hf
      refine g_lload_n dX8_higher_36 rfl ?_
      exact g_lret_p hr hf dX8_higher_37
    · have hf := ite_f hc hf
      refine g_lload_n dX8_higher_14 rfl ?_
      refine g_lload_n dX8_higher_15 rfl ?_
      refine g_iload dX8_higher_16 rfl ?_
      refine g_cS_JI_I (c_X8_syllable rfl) cs_X8_82 ⟨by decide, by decide⟩ (Nat.le_of_ble_eq_true rfl) dX8_higher_18 ?_
      refine g_iload_n dX8_higher_21 rfl ?_
      refine g_iadd dX8_higher_22 ?_
      refine g_bipush (v := 16) dX8_higher_23 (by decide) ?_
      refine g_irem dX8_higher_25 (by decide) ?_
      refine g_cS_JI_J (c_X8_behind rfl) cs_X8_79 ⟨by decide, by decide⟩ (Nat.le_of_ble_eq_true rfl) dX8_higher_26 ?_
      refine g_lst3 dX8_higher_29 (by decide) lnl_i ?_
      refine g_iinc5 (v := (x5 + (1 : Int32))) dX8_higher_30 (by decide) lnl_n rfl ?_
      refine g_goto (tgt := 5) dX8_higher_33 (by decide) ?_
      exact ih hf
def f_X8_higher (x0 : Int64) (x2 : Int32) : Option Int64 :=
  b_X8_higher_5 x0 x2 fu (0 : Int64) (0 : Int32)
set_option maxHeartbeats 4000000 in
set_option maxRecDepth 100000 in
theorem c_X8_higher {l : Launch} {x0 : Int64} {x2 : Int32} {M : Mem} {r : Int64} (hf : f_X8_higher x0 x2 = some r) : Cn l yX8_higher cX8_higher 6 (some .long) 2 43 (fun E => [.long x0, .int x2]) M (some (.long r), M) := by
  unfold f_X8_higher at hf
  refine cn_of RX8 (fun E => [some (.long x0), none, some (.int x2), none, none, none]) (by decide +kernel) rfl (fun E => Nat.le_of_ble_eq_true rfl) (fun E => rfl) (fun X hr => ?_)
  refine g_lconst (v := 0) dX8_higher_0 (by decide) ?_
  refine g_lst3 dX8_higher_1 (by decide) lnl_i ?_
  refine g_iconst (v := 0) dX8_higher_2 (by decide) ?_
  refine g_ist5 dX8_higher_3 (by decide) lnl_n ?_
  exact w_X8_higher_5 hr fu hf
-- X8_sweet
def f_X8_sweet (x0 : Int64) (x2 : Int32) : Int64 :=
  if (f_X8_many x0) = (12 : Int32) then ((f_X8_behind (f_X8_firstOnes x0 (11 : Int32)) x2))
  else ((f_X8_behind x0 x2))
set_option maxHeartbeats 4000000 in
set_option maxRecDepth 100000 in
theorem c_X8_sweet {l : Launch} {x0 : Int64} {x2 : Int32} {M : Mem} {r : Int64} (hf : f_X8_sweet x0 x2 = r) : Cn l yX8_sweet cX8_sweet 3 (some .long) 2 43 (fun E => [.long x0, .int x2]) M (some (.long r), M) := by
  unfold f_X8_sweet at hf
  refine cn_of RX8 (fun E => [some (.long x0), none, some (.int x2)]) (by decide +kernel) rfl (fun E => Nat.le_of_ble_eq_true rfl) (fun E => rfl) (fun X hr => ?_)
  refine g_lload_n dX8_sweet_0 rfl ?_
  refine g_cS_J_I (c_X8_many rfl) cs_X8_71 ⟨by decide, by decide⟩ (Nat.le_of_ble_eq_true rfl) dX8_sweet_1 ?_
  refine g_bipush (v := 12) dX8_sweet_4 (by decide) ?_
  refine g_icmp_ne (tgt := 18) dX8_sweet_6 (by decide) (fun hc => ?_) (fun hc => ?_)
  · have hf := ite_f hc hf
    refine g_lload_n dX8_sweet_18 rfl ?_
    refine g_iload_n dX8_sweet_19 rfl ?_
    refine g_cS_JI_J (c_X8_behind rfl) cs_X8_79 ⟨by decide, by decide⟩ (Nat.le_of_ble_eq_true rfl) dX8_sweet_20 ?_
    exact g_lret_t hr hf dX8_sweet_23
  · have hf := ite_t hc hf
    refine g_lload_n dX8_sweet_9 rfl ?_
    refine g_bipush (v := 11) dX8_sweet_10 (by decide) ?_
    refine g_cS_JI_J (c_X8_firstOnes rfl) cs_X8_75 ⟨by decide, by decide⟩ (Nat.le_of_ble_eq_true rfl) dX8_sweet_12 ?_
    refine g_goto (tgt := 19) dX8_sweet_15 (by decide) ?_
    refine g_iload_n dX8_sweet_19 rfl ?_
    refine g_cS_JI_J (c_X8_behind rfl) cs_X8_79 ⟨by decide, by decide⟩ (Nat.le_of_ble_eq_true rfl) dX8_sweet_20 ?_
    exact g_lret_t hr hf dX8_sweet_23
-- X8_twice
def b_X8_twice_13   (x0 : Int64) : Nat → Int64 → Int32 → Option Int64
  | 0, _, _ => none
  | n + 1, x2, x4 =>
    if (f_X8_many x0) ≤ x4 then (some x2)
    else (if (11 : Int32) ≤ x4 then (some x2)
    else (b_X8_twice_13 x0 n (f_X8_behind x2 (f_X8_syllable x0 x4)) (x4 + (1 : Int32))))
set_option maxHeartbeats 4000000 in
set_option maxRecDepth 100000 in
theorem w_X8_twice_13 {X : Cx} {r : Int64} {M : Mem}  {x0 : Int64}   (hr : X.meth.sig.returnType = (some .long)) : ∀ (n : Nat) {x2 : Int64} {x4 : Int32}, b_X8_twice_13 x0 n x2 x4 = some r → G X (some (.long r), M) RX8 cX8_twice 5 2 43 13 [some (.long x0), none, some (.long x2), none, some (.int x4)] [] M := by
  intro n
  induction n with
  | zero => intro x2 x4 hf; cases hf
  | succ n ih =>
    intro x2 x4 hf
    rw [b_X8_twice_13.eq_2] at hf
    refine g_iload dX8_twice_13 rfl ?_
    refine g_lload_n dX8_twice_15 rfl ?_
    refine g_cS_J_I (c_X8_many rfl) cs_X8_71 ⟨by decide, by decide⟩ (Nat.le_of_ble_eq_true rfl) dX8_twice_16 ?_
    refine g_icmp_ge (tgt := 46) dX8_twice_19 (by decide) (fun hc => ?_) (fun hc => ?_)
    · have hf := ite_t hc hf
      refine g_lload_n dX8_twice_46 rfl ?_
      exact g_lret_p hr hf dX8_twice_47
    · have hf := ite_f hc hf
      refine g_iload dX8_twice_22 rfl ?_
      refine g_bipush (v := 11) dX8_twice_24 (by decide) ?_
      refine g_icmp_ge (tgt := 46) dX8_twice_26 (by decide) (fun hc => ?_) (fun hc => ?_)
      · have hf := ite_t hc hf
        refine g_lload_n dX8_twice_46 rfl ?_
        exact g_lret_p hr hf dX8_twice_47
      · have hf := ite_f hc hf
        refine g_lload_n dX8_twice_29 rfl ?_
        refine g_lload_n dX8_twice_30 rfl ?_
        refine g_iload dX8_twice_31 rfl ?_
        refine g_cS_JI_I (c_X8_syllable rfl) cs_X8_82 ⟨by decide, by decide⟩ (Nat.le_of_ble_eq_true rfl) dX8_twice_33 ?_
        refine g_cS_JI_J (c_X8_behind rfl) cs_X8_79 ⟨by decide, by decide⟩ (Nat.le_of_ble_eq_true rfl) dX8_twice_36 ?_
        refine g_lst2 dX8_twice_39 (by decide) lnl_n ?_
        refine g_iinc4 (v := (x4 + (1 : Int32))) dX8_twice_40 (by decide) lnl_n rfl ?_
        refine g_goto (tgt := 13) dX8_twice_43 (by decide) ?_
        exact ih hf
def f_X8_twice (x0 : Int64) : Option Int64 :=
  b_X8_twice_13 x0 fu (f_X8_behind (0 : Int64) (f_X8_syllable x0 (0 : Int32))) (0 : Int32)
set_option maxHeartbeats 4000000 in
set_option maxRecDepth 100000 in
theorem c_X8_twice {l : Launch} {x0 : Int64} {M : Mem} {r : Int64} (hf : f_X8_twice x0 = some r) : Cn l yX8_twice cX8_twice 5 (some .long) 2 43 (fun E => [.long x0]) M (some (.long r), M) := by
  unfold f_X8_twice at hf
  refine cn_of RX8 (fun E => [some (.long x0), none, none, none, none]) (by decide +kernel) rfl (fun E => Nat.le_of_ble_eq_true rfl) (fun E => rfl) (fun X hr => ?_)
  refine g_lconst (v := 0) dX8_twice_0 (by decide) ?_
  refine g_lload_n dX8_twice_1 rfl ?_
  refine g_iconst (v := 0) dX8_twice_2 (by decide) ?_
  refine g_cS_JI_I (c_X8_syllable rfl) cs_X8_82 ⟨by decide, by decide⟩ (Nat.le_of_ble_eq_true rfl) dX8_twice_3 ?_
  refine g_cS_JI_J (c_X8_behind rfl) cs_X8_79 ⟨by decide, by decide⟩ (Nat.le_of_ble_eq_true rfl) dX8_twice_6 ?_
  refine g_lst2 dX8_twice_9 (by decide) lnl_n ?_
  refine g_iconst (v := 0) dX8_twice_10 (by decide) ?_
  refine g_ist4 dX8_twice_11 (by decide) lnl_n ?_
  exact w_X8_twice_13 hr fu hf
-- X8_turn
def b_X8_turn_10   (x0 : Int64) : Nat → Int64 → Int32 → Option Int64
  | 0, _, _ => none
  | n + 1, x2, x4 =>
    if x4 < 0 then (some x2)
    else (b_X8_turn_10 x0 n (f_X8_behind x2 (f_X8_syllable x0 x4)) (x4 + (-1 : Int32)))
set_option maxHeartbeats 4000000 in
set_option maxRecDepth 100000 in
theorem w_X8_turn_10 {X : Cx} {r : Int64} {M : Mem}  {x0 : Int64}   (hr : X.meth.sig.returnType = (some .long)) : ∀ (n : Nat) {x2 : Int64} {x4 : Int32}, b_X8_turn_10 x0 n x2 x4 = some r → G X (some (.long r), M) RX8 cX8_turn 5 2 43 10 [some (.long x0), none, some (.long x2), none, some (.int x4)] [] M := by
  intro n
  induction n with
  | zero => intro x2 x4 hf; cases hf
  | succ n ih =>
    intro x2 x4 hf
    rw [b_X8_turn_10.eq_2] at hf
    refine g_iload dX8_turn_10 rfl ?_
    refine g_if_lt (tgt := 32) dX8_turn_12 (by decide) (fun hc => ?_) (fun hc => ?_)
    · have hf := ite_t hc hf
      refine g_lload_n dX8_turn_32 rfl ?_
      exact g_lret_p hr hf dX8_turn_33
    · have hf := ite_f hc hf
      refine g_lload_n dX8_turn_15 rfl ?_
      refine g_lload_n dX8_turn_16 rfl ?_
      refine g_iload dX8_turn_17 rfl ?_
      refine g_cS_JI_I (c_X8_syllable rfl) cs_X8_82 ⟨by decide, by decide⟩ (Nat.le_of_ble_eq_true rfl) dX8_turn_19 ?_
      refine g_cS_JI_J (c_X8_behind rfl) cs_X8_79 ⟨by decide, by decide⟩ (Nat.le_of_ble_eq_true rfl) dX8_turn_22 ?_
      refine g_lst2 dX8_turn_25 (by decide) lnl_n ?_
      refine g_iinc4 (v := (x4 + (-1 : Int32))) dX8_turn_26 (by decide) lnl_n rfl ?_
      refine g_goto (tgt := 10) dX8_turn_29 (by decide) ?_
      exact ih hf
def f_X8_turn (x0 : Int64) : Option Int64 :=
  b_X8_turn_10 x0 fu (0 : Int64) ((f_X8_many x0) - (1 : Int32))
set_option maxHeartbeats 4000000 in
set_option maxRecDepth 100000 in
theorem c_X8_turn {l : Launch} {x0 : Int64} {M : Mem} {r : Int64} (hf : f_X8_turn x0 = some r) : Cn l yX8_turn cX8_turn 5 (some .long) 2 43 (fun E => [.long x0]) M (some (.long r), M) := by
  unfold f_X8_turn at hf
  refine cn_of RX8 (fun E => [some (.long x0), none, none, none, none]) (by decide +kernel) rfl (fun E => Nat.le_of_ble_eq_true rfl) (fun E => rfl) (fun X hr => ?_)
  refine g_lconst (v := 0) dX8_turn_0 (by decide) ?_
  refine g_lst2 dX8_turn_1 (by decide) lnl_n ?_
  refine g_lload_n dX8_turn_2 rfl ?_
  refine g_cS_J_I (c_X8_many rfl) cs_X8_71 ⟨by decide, by decide⟩ (Nat.le_of_ble_eq_true rfl) dX8_turn_3 ?_
  refine g_iconst (v := 1) dX8_turn_6 (by decide) ?_
  refine g_isub dX8_turn_7 ?_
  refine g_ist4 dX8_turn_8 (by decide) lnl_n ?_
  exact w_X8_turn_10 hr fu hf
-- X8_becomes
def f_X8_becomes (x0 : Int32) (x1 : Int32) (x2 : Int32) (x3 : Int64) : Option Int64 :=
  if x0 = 1 then (some (f_X8_sweet x3 x1))
  else if x0 = 2 then (some (f_X8_drop x3 x1))
  else if x0 = 3 then ((f_X8_turn x3).bind fun r1 =>
  some r1)
  else if x0 = 4 then ((f_X8_twice (f_X8_sweet x3 x1)).bind fun r2 =>
  some r2)
  else if x0 = 5 then (if (x2 - x2 / (4 : Int32) * (4 : Int32)) = 0 then (some (f_X8_drop x3 x1))
  else ((f_X8_higher x3 x1).bind fun r3 =>
  some r3))
  else (some x3)
set_option maxHeartbeats 4000000 in
set_option maxRecDepth 100000 in
theorem c_X8_becomes {l : Launch} {x0 : Int32} {x1 : Int32} {x2 : Int32} {x3 : Int64} {M : Mem} {r : Int64} (hf : f_X8_becomes x0 x1 x2 x3 = some r) : Cn l yX8_becomes cX8_becomes 5 (some .long) 3 68 (fun E => [.int x0, .int x1, .int x2, .long x3]) M (some (.long r), M) := by
  unfold f_X8_becomes at hf
  refine cn_of RX8 (fun E => [some (.int x0), some (.int x1), some (.int x2), some (.long x3), none]) (by decide +kernel) rfl (fun E => Nat.le_of_ble_eq_true rfl) (fun E => rfl) (fun X hr => ?_)
  refine g_iload_n dX8_becomes_0 rfl ?_
  by_cases h1 : x0 = 1
  · have hf := ite_t h1 hf
    refine g_tabIn (tgt := 36) dX8_becomes_1 (by rw [h1]; decide) (by rw [h1]; decide) (by rw [h1]; rfl) (by decide) ?_
    refine g_lload_n dX8_becomes_36 rfl ?_
    refine g_iload_n dX8_becomes_37 rfl ?_
    refine g_cS_JI_J (c_X8_sweet rfl) cs_X8_86 ⟨by decide, by decide⟩ (Nat.le_of_ble_eq_true rfl) dX8_becomes_38 ?_
    exact g_lret_p hr hf dX8_becomes_41
  have hf := ite_f h1 hf
  by_cases h2 : x0 = 2
  · have hf := ite_t h2 hf
    refine g_tabIn (tgt := 42) dX8_becomes_1 (by rw [h2]; decide) (by rw [h2]; decide) (by rw [h2]; rfl) (by decide) ?_
    refine g_lload_n dX8_becomes_42 rfl ?_
    refine g_iload_n dX8_becomes_43 rfl ?_
    refine g_cS_JI_J (c_X8_drop rfl) cs_X8_89 ⟨by decide, by decide⟩ (Nat.le_of_ble_eq_true rfl) dX8_becomes_44 ?_
    exact g_lret_p hr hf dX8_becomes_47
  have hf := ite_f h2 hf
  by_cases h3 : x0 = 3
  · have hf := ite_t h3 hf
    refine g_tabIn (tgt := 48) dX8_becomes_1 (by rw [h3]; decide) (by rw [h3]; decide) (by rw [h3]; rfl) (by decide) ?_
    refine g_lload_n dX8_becomes_48 rfl ?_
    obtain ⟨r1, hq, hf⟩ := bnd hf
    refine g_cS_J_J (c_X8_turn hq) cs_X8_92 ⟨by decide, by decide⟩ (Nat.le_of_ble_eq_true rfl) dX8_becomes_49 ?_
    exact g_lret_p hr hf dX8_becomes_52
  have hf := ite_f h3 hf
  by_cases h4 : x0 = 4
  · have hf := ite_t h4 hf
    refine g_tabIn (tgt := 53) dX8_becomes_1 (by rw [h4]; decide) (by rw [h4]; decide) (by rw [h4]; rfl) (by decide) ?_
    refine g_lload_n dX8_becomes_53 rfl ?_
    refine g_iload_n dX8_becomes_54 rfl ?_
    refine g_cS_JI_J (c_X8_sweet rfl) cs_X8_86 ⟨by decide, by decide⟩ (Nat.le_of_ble_eq_true rfl) dX8_becomes_55 ?_
    obtain ⟨r2, hq, hf⟩ := bnd hf
    refine g_cS_J_J (c_X8_twice hq) cs_X8_96 ⟨by decide, by decide⟩ (Nat.le_of_ble_eq_true rfl) dX8_becomes_58 ?_
    exact g_lret_p hr hf dX8_becomes_61
  have hf := ite_f h4 hf
  by_cases h5 : x0 = 5
  · have hf := ite_t h5 hf
    refine g_tabIn (tgt := 62) dX8_becomes_1 (by rw [h5]; decide) (by rw [h5]; decide) (by rw [h5]; rfl) (by decide) ?_
    refine g_iload_n dX8_becomes_62 rfl ?_
    refine g_iconst (v := 4) dX8_becomes_63 (by decide) ?_
    refine g_irem dX8_becomes_64 (by decide) ?_
    refine g_if_ne (tgt := 76) dX8_becomes_65 (by decide) (fun hc => ?_) (fun hc => ?_)
    · have hf := ite_f hc hf
      refine g_lload_n dX8_becomes_76 rfl ?_
      refine g_iload_n dX8_becomes_77 rfl ?_
      obtain ⟨r3, hq, hf⟩ := bnd hf
      refine g_cS_JI_J (c_X8_higher hq) cs_X8_99 ⟨by decide, by decide⟩ (Nat.le_of_ble_eq_true rfl) dX8_becomes_78 ?_
      exact g_lret_p hr hf dX8_becomes_81
    · have hf := ite_t hc hf
      refine g_lload_n dX8_becomes_68 rfl ?_
      refine g_iload_n dX8_becomes_69 rfl ?_
      refine g_cS_JI_J (c_X8_drop rfl) cs_X8_89 ⟨by decide, by decide⟩ (Nat.le_of_ble_eq_true rfl) dX8_becomes_70 ?_
      refine g_goto (tgt := 81) dX8_becomes_73 (by decide) ?_
      exact g_lret_p hr hf dX8_becomes_81
  have hf := ite_f h5 hf
  have n1 := lv_neT (a := 1) h1 (by decide)
  have n2 := lv_neT (a := 2) h2 (by decide)
  have n3 := lv_neT (a := 3) h3 (by decide)
  have n4 := lv_neT (a := 4) h4 (by decide)
  have n5 := lv_neT (a := 5) h5 (by decide)
  refine g_tabOut (tgt := 82) dX8_becomes_1 (by omega) (by decide) ?_
  refine g_lload_n dX8_becomes_82 rfl ?_
  exact g_lret_p hr hf dX8_becomes_83
-- X8_behindBridge
def f_X8_behindBridge (M : Mem) (x1 : Int32) (x2 : Int64) : Option Int64 :=
  (f_X8_get M x1 (2 : Int32)).bind fun r1 =>
  (f_X8_get M x1 (3 : Int32)).bind fun r2 =>
  (f_X8_becomes r1 r2 (M.1 64 1) x2).bind fun r3 =>
  some r3
set_option maxHeartbeats 4000000 in
set_option maxRecDepth 100000 in
theorem c_X8_behindBridge {l : Launch} {x1 : Int32} {x2 : Int64} {M : Mem} {r : Int64} (hf : f_X8_behindBridge M x1 x2 = some r) : Cn l yX8_behindBridge cX8_behindBridge 4 (some .long) 4 92 (fun E => [.ref (E.1 63), .int x1, .long x2]) M (some (.long r), M) := by
  unfold f_X8_behindBridge at hf
  refine cn_of RX8 (fun E => [some (.ref (E.1 63)), some (.int x1), some (.long x2), none]) (by decide +kernel) rfl (fun E => Nat.le_of_ble_eq_true rfl) (fun E => rfl) (fun X hr => ?_)
  refine g_aload_n dX8_behindBridge_0 rfl ?_
  refine g_iload_n dX8_behindBridge_1 rfl ?_
  refine g_iconst (v := 2) dX8_behindBridge_2 (by decide) ?_
  obtain ⟨r1, hq, hf⟩ := bnd hf
  refine g_cV_II_I (c_X8_get hq) cv_X8_135 (by decide) (cel_63 _ _ _) rfl ⟨by decide, by decide⟩ (Nat.le_of_ble_eq_true rfl) dX8_behindBridge_3 ?_
  refine g_aload_n dX8_behindBridge_6 rfl ?_
  refine g_iload_n dX8_behindBridge_7 rfl ?_
  refine g_iconst (v := 3) dX8_behindBridge_8 (by decide) ?_
  obtain ⟨r2, hq, hf⟩ := bnd hf
  refine g_cV_II_I (c_X8_get hq) cv_X8_135 (by decide) (cel_63 _ _ _) rfl ⟨by decide, by decide⟩ (Nat.le_of_ble_eq_true rfl) dX8_behindBridge_9 ?_
  refine g_aload_n dX8_behindBridge_12 rfl ?_
  refine g_get (kk := 63) (by decide) (cel_63 _ _ _) rfl inX8 fl_X8_7 (by decide) rfl dX8_behindBridge_13 ?_
  refine g_iconst (v := 1) dX8_behindBridge_16 (by decide) ?_
  refine g_iaload (kk := 64) (by decide) (fun f g => cel_64 _ f g) (vp_in_iff.mpr ⟨by decide, by decide⟩) (j := 1) (by decide) dX8_behindBridge_17 ?_
  refine g_lload_n dX8_behindBridge_18 rfl ?_
  obtain ⟨r3, hq, hf⟩ := bnd hf
  refine g_cS_IIIJ_J (c_X8_becomes hq) cs_X8_154 ⟨by decide, by decide⟩ (Nat.le_of_ble_eq_true rfl) dX8_behindBridge_19 ?_
  exact g_lret_p hr hf dX8_behindBridge_22
-- X8_called
def b_X8_called_47   (x3 : Int32) (x4 : Int32) : Nat → Int64 → Int32 → Mem → Option (Int32 × Mem)
  | 0, _, _, _ => none
  | n + 1, x5, x7, M =>
    if x3 < x7 then (some ((f_X8_told x5 x4), M))
    else ((f_X8_behindBridge M x7 x5).bind fun r4 =>
    b_X8_called_47 x3 x4 n r4 (x7 + (1 : Int32)) M)
set_option maxHeartbeats 4000000 in
set_option maxRecDepth 100000 in
theorem w_X8_called_47 {X : Cx} {r : Int32} {M1 : Mem}   {x3 : Int32} {x4 : Int32}   (hr : X.meth.sig.returnType = (some .int)) : ∀ (n : Nat) {x5 : Int64} {x7 : Int32} {M : Mem}, b_X8_called_47 x3 x4 n x5 x7 M = some (r, M1) → G X (some (.int r), M1) RX8 cX8_called 8 5 115 47 [some (.ref (X.1.1 63)), none, none, some (.int x3), some (.int x4), some (.long x5), none, some (.int x7)] [] M := by
  intro n
  induction n with
  | zero => intro x5 x7 M hf; cases hf
  | succ n ih =>
    intro x5 x7 M hf
    rw [b_X8_called_47.eq_2] at hf
    refine g_iload dX8_called_47 rfl ?_
    refine g_iload_n dX8_called_49 rfl ?_
    refine g_icmp_gt (tgt := 69) dX8_called_50 (by decide) (fun hc => ?_) (fun hc => ?_)
    · have hf := ite_t hc hf
      refine g_lload dX8_called_69 rfl ?_
      refine g_iload dX8_called_71 rfl ?_
      refine g_cS_JI_I (c_X8_told rfl) cs_X8_151 ⟨by decide, by decide⟩ (Nat.le_of_ble_eq_true rfl) dX8_called_73 ?_
      exact g_iret_w hr hf dX8_called_76
    · have hf := ite_f hc hf
      refine g_aload_n dX8_called_53 rfl ?_
      refine g_iload dX8_called_54 rfl ?_
      refine g_lload dX8_called_56 rfl ?_
      obtain ⟨r4, hq, hf⟩ := bnd hf
      refine g_cV_IJ_J (c_X8_behindBridge hq) cv_X8_158 (by decide) (cel_63 _ _ _) rfl ⟨by decide, by decide⟩ (Nat.le_of_ble_eq_true rfl) dX8_called_58 ?_
      refine g_lst5 dX8_called_61 (by decide) lnl_i ?_
      refine g_iinc7 (v := (x7 + (1 : Int32))) dX8_called_63 (by decide) lnl_n rfl ?_
      refine g_goto (tgt := 47) dX8_called_66 (by decide) ?_
      exact ih hf
def f_X8_called (x1 : Int32) (x2 : Int32) (x3 : Int32) (x4 : Int32) (M : Mem) : Option (Int32 × Mem) :=
  if (f_X8_isRow x1) = 0 then ((f_X8_bad (-10 : Int32) M).bind fun r1 =>
  some (r1.1, r1.2))
  else (if (f_X8_isBridge M x2) = 0 then ((f_X8_bad (-10 : Int32) M).bind fun r2 =>
  some (r2.1, r2.2))
  else (if (f_X8_isBridge M x3) = 0 then ((f_X8_bad (-10 : Int32) M).bind fun r3 =>
  some (r3.1, r3.2))
  else (if (-1 : Int32) ≤ x4 then (ck x1 20 <|
  b_X8_called_47 x3 x4 fu (M.2 66 x1.toNatClampNeg) x2 M)
  else ((f_X8_bad (-10 : Int32) M).bind fun r5 =>
  some (r5.1, r5.2)))))
set_option maxHeartbeats 4000000 in
set_option maxRecDepth 100000 in
theorem c_X8_called {l : Launch} {x1 : Int32} {x2 : Int32} {x3 : Int32} {x4 : Int32} {M : Mem} {r : Int32} {M1 : Mem} (hf : f_X8_called x1 x2 x3 x4 M = some (r, M1)) : Cn l yX8_called cX8_called 8 (some .int) 5 115 (fun E => [.ref (E.1 63), .int x1, .int x2, .int x3, .int x4]) M (some (.int r), M1) := by
  unfold f_X8_called at hf
  refine cn_of RX8 (fun E => [some (.ref (E.1 63)), some (.int x1), some (.int x2), some (.int x3), some (.int x4), none, none, none]) (by decide +kernel) rfl (fun E => Nat.le_of_ble_eq_true rfl) (fun E => rfl) (fun X hr => ?_)
  refine g_iload_n dX8_called_0 rfl ?_
  refine g_cS_I_I (c_X8_isRow rfl) cs_X8_148 ⟨by decide, by decide⟩ (Nat.le_of_ble_eq_true rfl) dX8_called_1 ?_
  refine g_if_eq (tgt := 29) dX8_called_4 (by decide) (fun hc => ?_) (fun hc => ?_)
  · have hf := ite_t hc hf
    refine g_aload_n dX8_called_29 rfl ?_
    refine g_bipush (v := (-10)) dX8_called_30 (by decide) ?_
    obtain ⟨r1, hq, hf⟩ := bnd hf
    refine g_cV_I_I (c_X8_bad (r := r1.1) (M1 := r1.2) hq) cv_X8_116 (by decide) (cel_63 _ _ _) rfl ⟨by decide, by decide⟩ (Nat.le_of_ble_eq_true rfl) dX8_called_32 ?_
    exact g_iret_w hr hf dX8_called_35
  · have hf := ite_f hc hf
    refine g_aload_n dX8_called_7 rfl ?_
    refine g_iload_n dX8_called_8 rfl ?_
    refine g_cV_I_I (c_X8_isBridge rfl) cv_X8_139 (by decide) (cel_63 _ _ _) rfl ⟨by decide, by decide⟩ (Nat.le_of_ble_eq_true rfl) dX8_called_9 ?_
    refine g_if_eq (tgt := 29) dX8_called_12 (by decide) (fun hc => ?_) (fun hc => ?_)
    · have hf := ite_t hc hf
      refine g_aload_n dX8_called_29 rfl ?_
      refine g_bipush (v := (-10)) dX8_called_30 (by decide) ?_
      obtain ⟨r2, hq, hf⟩ := bnd hf
      refine g_cV_I_I (c_X8_bad (r := r2.1) (M1 := r2.2) hq) cv_X8_116 (by decide) (cel_63 _ _ _) rfl ⟨by decide, by decide⟩ (Nat.le_of_ble_eq_true rfl) dX8_called_32 ?_
      exact g_iret_w hr hf dX8_called_35
    · have hf := ite_f hc hf
      refine g_aload_n dX8_called_15 rfl ?_
      refine g_iload_n dX8_called_16 rfl ?_
      refine g_cV_I_I (c_X8_isBridge rfl) cv_X8_139 (by decide) (cel_63 _ _ _) rfl ⟨by decide, by decide⟩ (Nat.le_of_ble_eq_true rfl) dX8_called_17 ?_
      refine g_if_eq (tgt := 29) dX8_called_20 (by decide) (fun hc => ?_) (fun hc => ?_)
      · have hf := ite_t hc hf
        refine g_aload_n dX8_called_29 rfl ?_
        refine g_bipush (v := (-10)) dX8_called_30 (by decide) ?_
        obtain ⟨r3, hq, hf⟩ := bnd hf
        refine g_cV_I_I (c_X8_bad (r := r3.1) (M1 := r3.2) hq) cv_X8_116 (by decide) (cel_63 _ _ _) rfl ⟨by decide, by decide⟩ (Nat.le_of_ble_eq_true rfl) dX8_called_32 ?_
        exact g_iret_w hr hf dX8_called_35
      · have hf := ite_f hc hf
        refine g_iload dX8_called_23 rfl ?_
        refine g_iconst (v := (-1)) dX8_called_25 (by decide) ?_
        refine g_icmp_ge (tgt := 36) dX8_called_26 (by decide) (fun hc => ?_) (fun hc => ?_)
        · have hf := ite_t hc hf
          refine g_aload_n dX8_called_36 rfl ?_
          refine g_get (kk := 63) (by decide) (cel_63 _ _ _) rfl inX8 fl_X8_16 (by decide) rfl dX8_called_37 ?_
          refine g_iload_n dX8_called_40 rfl ?_
          obtain ⟨hi, hf⟩ := ck_s hf
          refine g_laload (kk := 66) (by decide) (fun f g => cel_66 _ f g) hi rfl dX8_called_41 ?_
          refine g_lst5 dX8_called_42 (by decide) lnl_i ?_
          refine g_iload_n dX8_called_44 rfl ?_
          refine g_ist7 dX8_called_45 (by decide) lnl_n ?_
          exact g_weakr (w_X8_called_47 hr fu hf) (lsk (lsd (lsd (lsk (lsk (lsk (lsd (lsk lsz))))))))
        · have hf := ite_f hc hf
          refine g_aload_n dX8_called_29 rfl ?_
          refine g_bipush (v := (-10)) dX8_called_30 (by decide) ?_
          obtain ⟨r5, hq, hf⟩ := bnd hf
          refine g_cV_I_I (c_X8_bad (r := r5.1) (M1 := r5.2) hq) cv_X8_116 (by decide) (cel_63 _ _ _) rfl ⟨by decide, by decide⟩ (Nat.le_of_ble_eq_true rfl) dX8_called_32 ?_
          exact g_iret_w hr hf dX8_called_35
-- X8_nothing
def b_X8_nothing_32    : Nat → Int64 → Int32 → Mem → Option (Int32 × Mem)
  | 0, _, _, _ => none
  | n + 1, x3, x5, M =>
    if (f_X8_bridges M) ≤ x5 then (some ((-1 : Int32), M))
    else ((f_X8_behindBridge M x5 x3).bind fun r2 =>
    if (lg_cmp r2 (0 : Int64)) = 0 then (some (x5, M))
    else (b_X8_nothing_32 n r2 (x5 + (1 : Int32)) M))
set_option maxHeartbeats 4000000 in
set_option maxRecDepth 100000 in
theorem w_X8_nothing_32 {X : Cx} {r : Int32} {M1 : Mem}      (hr : X.meth.sig.returnType = (some .int)) : ∀ (n : Nat) {x3 : Int64} {x5 : Int32} {M : Mem}, b_X8_nothing_32  n x3 x5 M = some (r, M1) → G X (some (.int r), M1) RX8 cX8_nothing 6 5 115 32 [some (.ref (X.1.1 63)), none, none, some (.long x3), none, some (.int x5)] [] M := by
  intro n
  induction n with
  | zero => intro x3 x5 M hf; cases hf
  | succ n ih =>
    intro x3 x5 M hf
    rw [b_X8_nothing_32.eq_2] at hf
    refine g_iload dX8_nothing_32 rfl ?_
    refine g_aload_n dX8_nothing_34 rfl ?_
    refine g_cV_0_I (c_X8_bridges rfl) cv_X8_102 (by decide) (cel_63 _ _ _) rfl ⟨by decide, by decide⟩ (Nat.le_of_ble_eq_true rfl) dX8_nothing_35 ?_
    refine g_icmp_ge (tgt := 64) dX8_nothing_38 (by decide) (fun hc => ?_) (fun hc => ?_)
    · have hf := ite_t hc hf
      refine g_iconst (v := (-1)) dX8_nothing_64 (by decide) ?_
      exact g_iret_w hr hf dX8_nothing_65
    · have hf := ite_f hc hf
      refine g_aload_n dX8_nothing_41 rfl ?_
      refine g_iload dX8_nothing_42 rfl ?_
      refine g_lload_n dX8_nothing_44 rfl ?_
      obtain ⟨r2, hq, hf⟩ := bnd hf
      refine g_cV_IJ_J (c_X8_behindBridge hq) cv_X8_158 (by decide) (cel_63 _ _ _) rfl ⟨by decide, by decide⟩ (Nat.le_of_ble_eq_true rfl) dX8_nothing_45 ?_
      refine g_lst3 dX8_nothing_48 (by decide) lnl_n ?_
      refine g_lload_n dX8_nothing_49 rfl ?_
      refine g_lconst (v := 0) dX8_nothing_50 (by decide) ?_
      refine g_lcmp dX8_nothing_51 ?_
      refine g_if_ne (tgt := 58) dX8_nothing_52 (by decide) (fun hc => ?_) (fun hc => ?_)
      · have hf := ite_f hc hf
        refine g_iinc5 (v := (x5 + (1 : Int32))) dX8_nothing_58 (by decide) lnl_n rfl ?_
        refine g_goto (tgt := 32) dX8_nothing_61 (by decide) ?_
        exact ih hf
      · have hf := ite_t hc hf
        refine g_iload dX8_nothing_55 rfl ?_
        exact g_iret_w hr hf dX8_nothing_57
def f_X8_nothing (x1 : Int32) (x2 : Int32) (M : Mem) : Option (Int32 × Mem) :=
  if (f_X8_isRow x1) = 0 then ((f_X8_bad (-2 : Int32) M).bind fun r1 =>
  some (r1.1, r1.2))
  else (if (f_X8_isBridge M x2) = 0 then ((f_X8_bad (-2 : Int32) M).bind fun r3 =>
  some (r3.1, r3.2))
  else (ck x1 20 <|
  b_X8_nothing_32 fu (M.2 66 x1.toNatClampNeg) x2 M))
set_option maxHeartbeats 4000000 in
set_option maxRecDepth 100000 in
theorem c_X8_nothing {l : Launch} {x1 : Int32} {x2 : Int32} {M : Mem} {r : Int32} {M1 : Mem} (hf : f_X8_nothing x1 x2 M = some (r, M1)) : Cn l yX8_nothing cX8_nothing 6 (some .int) 5 115 (fun E => [.ref (E.1 63), .int x1, .int x2]) M (some (.int r), M1) := by
  unfold f_X8_nothing at hf
  refine cn_of RX8 (fun E => [some (.ref (E.1 63)), some (.int x1), some (.int x2), none, none, none]) (by decide +kernel) rfl (fun E => Nat.le_of_ble_eq_true rfl) (fun E => rfl) (fun X hr => ?_)
  refine g_iload_n dX8_nothing_0 rfl ?_
  refine g_cS_I_I (c_X8_isRow rfl) cs_X8_148 ⟨by decide, by decide⟩ (Nat.le_of_ble_eq_true rfl) dX8_nothing_1 ?_
  refine g_if_eq (tgt := 15) dX8_nothing_4 (by decide) (fun hc => ?_) (fun hc => ?_)
  · have hf := ite_t hc hf
    refine g_aload_n dX8_nothing_15 rfl ?_
    refine g_bipush (v := (-2)) dX8_nothing_16 (by decide) ?_
    obtain ⟨r1, hq, hf⟩ := bnd hf
    refine g_cV_I_I (c_X8_bad (r := r1.1) (M1 := r1.2) hq) cv_X8_116 (by decide) (cel_63 _ _ _) rfl ⟨by decide, by decide⟩ (Nat.le_of_ble_eq_true rfl) dX8_nothing_18 ?_
    exact g_iret_w hr hf dX8_nothing_21
  · have hf := ite_f hc hf
    refine g_aload_n dX8_nothing_7 rfl ?_
    refine g_iload_n dX8_nothing_8 rfl ?_
    refine g_cV_I_I (c_X8_isBridge rfl) cv_X8_139 (by decide) (cel_63 _ _ _) rfl ⟨by decide, by decide⟩ (Nat.le_of_ble_eq_true rfl) dX8_nothing_9 ?_
    refine g_if_ne (tgt := 22) dX8_nothing_12 (by decide) (fun hc => ?_) (fun hc => ?_)
    · have hf := ite_f hc hf
      refine g_aload_n dX8_nothing_22 rfl ?_
      refine g_get (kk := 63) (by decide) (cel_63 _ _ _) rfl inX8 fl_X8_16 (by decide) rfl dX8_nothing_23 ?_
      refine g_iload_n dX8_nothing_26 rfl ?_
      obtain ⟨hi, hf⟩ := ck_s hf
      refine g_laload (kk := 66) (by decide) (fun f g => cel_66 _ f g) hi rfl dX8_nothing_27 ?_
      refine g_lst3 dX8_nothing_28 (by decide) lnl_i ?_
      refine g_iload_n dX8_nothing_29 rfl ?_
      refine g_ist5 dX8_nothing_30 (by decide) lnl_n ?_
      exact g_weakr (w_X8_nothing_32 hr fu hf) (lsk (lsd (lsd (lsk (lsd (lsk lsz))))))
    · have hf := ite_t hc hf
      refine g_aload_n dX8_nothing_15 rfl ?_
      refine g_bipush (v := (-2)) dX8_nothing_16 (by decide) ?_
      obtain ⟨r3, hq, hf⟩ := bnd hf
      refine g_cV_I_I (c_X8_bad (r := r3.1) (M1 := r3.2) hq) cv_X8_116 (by decide) (cel_63 _ _ _) rfl ⟨by decide, by decide⟩ (Nat.le_of_ble_eq_true rfl) dX8_nothing_18 ?_
      exact g_iret_w hr hf dX8_nothing_21
-- X8_canSay
def b_X8_canSay_37 (k5 : Int32 → Int32 → Option Int32)  (x0 : Int32) (x1 : Int64) (x4 : Int32) (t0 : Int32) : Option Int32 :=
  k5 t0 (x4 + (1 : Int32))
set_option maxHeartbeats 4000000 in
set_option maxRecDepth 100000 in
theorem w_X8_canSay_37 {X : Cx} {r : Int32} {M : Mem} {k5 : Int32 → Int32 → Option Int32} {x0 : Int32} {x1 : Int64}   {x4 : Int32} {t0 : Int32} (hr : X.meth.sig.returnType = (some .boolean)) (hk5 : ∀ {x3_ : Int32} {x4_ : Int32}, k5 x3_ x4_ = some r → G X (some (.int r), M) RX8 cX8_canSay 5 1 22 5 [some (.int x0), some (.long x1), none, some (.int x3_), some (.int x4_)] [] M) (hf : b_X8_canSay_37 k5 x0 x1 x4 t0 = some r) : G X (some (.int r), M) RX8 cX8_canSay 5 1 22 37 [some (.int x0), some (.long x1), none, none, some (.int x4)] [.int t0] M := by
  unfold b_X8_canSay_37 at hf
  refine g_ist3 dX8_canSay_37 (by decide) lnl_n ?_
  refine g_iinc4 (v := (x4 + (1 : Int32))) dX8_canSay_38 (by decide) lnl_i rfl ?_
  refine g_goto (tgt := 5) dX8_canSay_41 (by decide) ?_
  exact hk5 hf
def b_X8_canSay_5   (x0 : Int32) (x1 : Int64) : Nat → Int32 → Int32 → Option Int32
  | 0, _, _ => none
  | n + 1, x3, x4 =>
    if (f_X8_many x1) ≤ x4 then (ckB x3 (some x3))
    else (if x3 = 0 then (b_X8_canSay_37 (fun x3_ x4_ => b_X8_canSay_5 x0 x1 n x3_ x4_) x0 x1 x4 (0 : Int32))
    else (if ((x0 >>> ((f_X8_syllable x1 x4) &&& 31)) &&& (1 : Int32)) = (1 : Int32) then (b_X8_canSay_37 (fun x3_ x4_ => b_X8_canSay_5 x0 x1 n x3_ x4_) x0 x1 x4 (1 : Int32))
    else (b_X8_canSay_37 (fun x3_ x4_ => b_X8_canSay_5 x0 x1 n x3_ x4_) x0 x1 x4 (0 : Int32))))
set_option maxHeartbeats 4000000 in
set_option maxRecDepth 100000 in
theorem w_X8_canSay_5 {X : Cx} {r : Int32} {M : Mem}  {x0 : Int32} {x1 : Int64}   (hr : X.meth.sig.returnType = (some .boolean)) : ∀ (n : Nat) {x3 : Int32} {x4 : Int32}, b_X8_canSay_5 x0 x1 n x3 x4 = some r → G X (some (.int r), M) RX8 cX8_canSay 5 1 22 5 [some (.int x0), some (.long x1), none, some (.int x3), some (.int x4)] [] M := by
  intro n
  induction n with
  | zero => intro x3 x4 hf; cases hf
  | succ n ih =>
    intro x3 x4 hf
    rw [b_X8_canSay_5.eq_2] at hf
    refine g_iload dX8_canSay_5 rfl ?_
    refine g_lload_n dX8_canSay_7 rfl ?_
    refine g_cS_J_I (c_X8_many rfl) cs_X8_71 ⟨by decide, by decide⟩ (Nat.le_of_ble_eq_true rfl) dX8_canSay_8 ?_
    refine g_icmp_ge (tgt := 44) dX8_canSay_11 (by decide) (fun hc => ?_) (fun hc => ?_)
    · have hf := ite_t hc hf
      refine g_iload_n dX8_canSay_44 rfl ?_
      obtain ⟨hz, hf⟩ := ckB_s hf
      exact g_zret_p hr hz hf dX8_canSay_45
    · have hf := ite_f hc hf
      refine g_iload_n dX8_canSay_14 rfl ?_
      refine g_if_eq (tgt := 36) dX8_canSay_15 (by decide) (fun hc => ?_) (fun hc => ?_)
      · have hf := ite_t hc hf
        refine g_iconst (v := 0) dX8_canSay_36 (by decide) ?_
        exact g_weakr (w_X8_canSay_37 hr (fun hf => ih hf) hf) (lsk (lsk (lsd (lsd (lsk lsz)))))
      · have hf := ite_f hc hf
        refine g_iload_n dX8_canSay_18 rfl ?_
        refine g_lload_n dX8_canSay_19 rfl ?_
        refine g_iload dX8_canSay_20 rfl ?_
        refine g_cS_JI_I (c_X8_syllable rfl) cs_X8_82 ⟨by decide, by decide⟩ (Nat.le_of_ble_eq_true rfl) dX8_canSay_22 ?_
        refine g_ishr dX8_canSay_25 ?_
        refine g_iconst (v := 1) dX8_canSay_26 (by decide) ?_
        refine g_iand dX8_canSay_27 ?_
        refine g_iconst (v := 1) dX8_canSay_28 (by decide) ?_
        refine g_icmp_ne (tgt := 36) dX8_canSay_29 (by decide) (fun hc => ?_) (fun hc => ?_)
        · have hf := ite_f hc hf
          refine g_iconst (v := 0) dX8_canSay_36 (by decide) ?_
          exact g_weakr (w_X8_canSay_37 hr (fun hf => ih hf) hf) (lsk (lsk (lsd (lsd (lsk lsz)))))
        · have hf := ite_t hc hf
          refine g_iconst (v := 1) dX8_canSay_32 (by decide) ?_
          refine g_goto (tgt := 37) dX8_canSay_33 (by decide) ?_
          exact g_weakr (w_X8_canSay_37 hr (fun hf => ih hf) hf) (lsk (lsk (lsd (lsd (lsk lsz)))))
def f_X8_canSay (x0 : Int32) (x1 : Int64) : Option Int32 :=
  b_X8_canSay_5 x0 x1 fu (1 : Int32) (0 : Int32)
set_option maxHeartbeats 4000000 in
set_option maxRecDepth 100000 in
theorem c_X8_canSay {l : Launch} {x0 : Int32} {x1 : Int64} {M : Mem} {r : Int32} (hf : f_X8_canSay x0 x1 = some r) : Cn l yX8_canSay cX8_canSay 5 (some .boolean) 1 22 (fun E => [.int x0, .long x1]) M (some (.int r), M) := by
  unfold f_X8_canSay at hf
  refine cn_of RX8 (fun E => [some (.int x0), some (.long x1), none, none, none]) (by decide +kernel) rfl (fun E => Nat.le_of_ble_eq_true rfl) (fun E => rfl) (fun X hr => ?_)
  refine g_iconst (v := 1) dX8_canSay_0 (by decide) ?_
  refine g_ist3 dX8_canSay_1 (by decide) lnl_n ?_
  refine g_iconst (v := 0) dX8_canSay_2 (by decide) ?_
  refine g_ist4 dX8_canSay_3 (by decide) lnl_i ?_
  exact w_X8_canSay_5 hr fu hf
-- X8_boat
def b_X8_boat_68   (x2 : Int32) (x4 : Int32) (x5 : Int32) : Nat → Int32 → Int64 → Int32 → Mem → Option (Int32 × Mem)
  | 0, _, _, _, _ => none
  | n + 1, x6, x7, x9, M =>
    if x4 < x9 then (if x5 = 0 then (some ((-1 : Int32), M))
    else (some (x6, M)))
    else ((f_X8_behindBridge M x9 x7).bind fun r5 =>
    (f_X8_canSay x2 r5).bind fun r6 =>
    if r6 = 0 then (if x5 = 0 then (some (x9, M))
    else (some (x6, M)))
    else (b_X8_boat_68 x2 x4 x5 n (x6 + (f_X8_many r5)) r5 (x9 + (1 : Int32)) M))
set_option maxHeartbeats 4000000 in
set_option maxRecDepth 100000 in
theorem w_X8_boat_68 {X : Cx} {r : Int32} {M1 : Mem}   {x2 : Int32} {x4 : Int32} {x5 : Int32}   (hr : X.meth.sig.returnType = (some .int)) : ∀ (n : Nat) {x6 : Int32} {x7 : Int64} {x9 : Int32} {M : Mem}, b_X8_boat_68 x2 x4 x5 n x6 x7 x9 M = some (r, M1) → G X (some (.int r), M1) RX8 cX8_boat 10 5 115 68 [some (.ref (X.1.1 63)), none, some (.int x2), none, some (.int x4), some (.int x5), some (.int x6), some (.long x7), none, some (.int x9)] [] M := by
  intro n
  induction n with
  | zero => intro x6 x7 x9 M hf; cases hf
  | succ n ih =>
    intro x6 x7 x9 M hf
    rw [b_X8_boat_68.eq_2] at hf
    refine g_iload dX8_boat_68 rfl ?_
    refine g_iload dX8_boat_70 rfl ?_
    refine g_icmp_gt (tgt := 123) dX8_boat_72 (by decide) (fun hc => ?_) (fun hc => ?_)
    · have hf := ite_t hc hf
      refine g_iload dX8_boat_123 rfl ?_
      refine g_if_ne (tgt := 132) dX8_boat_125 (by decide) (fun hc => ?_) (fun hc => ?_)
      · have hf := ite_f hc hf
        refine g_iload dX8_boat_132 rfl ?_
        exact g_iret_w hr hf dX8_boat_134
      · have hf := ite_t hc hf
        refine g_iconst (v := (-1)) dX8_boat_128 (by decide) ?_
        refine g_goto (tgt := 134) dX8_boat_129 (by decide) ?_
        exact g_iret_w hr hf dX8_boat_134
    · have hf := ite_f hc hf
      refine g_aload_n dX8_boat_75 rfl ?_
      refine g_iload dX8_boat_76 rfl ?_
      refine g_lload dX8_boat_78 rfl ?_
      obtain ⟨r5, hq, hf⟩ := bnd hf
      refine g_cV_IJ_J (c_X8_behindBridge hq) cv_X8_158 (by decide) (cel_63 _ _ _) rfl ⟨by decide, by decide⟩ (Nat.le_of_ble_eq_true rfl) dX8_boat_80 ?_
      refine g_lst7 dX8_boat_83 (by decide) lnl_i ?_
      refine g_iload_n dX8_boat_85 rfl ?_
      refine g_lload dX8_boat_86 rfl ?_
      obtain ⟨r6, hq, hf⟩ := bnd hf
      refine g_cS_IJ_I (c_X8_canSay hq) cs_X8_164 ⟨by decide, by decide⟩ (Nat.le_of_ble_eq_true rfl) dX8_boat_88 ?_
      refine g_if_ne (tgt := 107) dX8_boat_91 (by decide) (fun hc => ?_) (fun hc => ?_)
      · have hf := ite_f hc hf
        refine g_iload dX8_boat_107 rfl ?_
        refine g_lload dX8_boat_109 rfl ?_
        refine g_cS_J_I (c_X8_many rfl) cs_X8_71 ⟨by decide, by decide⟩ (Nat.le_of_ble_eq_true rfl) dX8_boat_111 ?_
        refine g_iadd dX8_boat_114 ?_
        refine g_ist6 dX8_boat_115 (by decide) lnl_i ?_
        refine g_iinc9 (v := (x9 + (1 : Int32))) dX8_boat_117 (by decide) lnl_n rfl ?_
        refine g_goto (tgt := 68) dX8_boat_120 (by decide) ?_
        exact ih hf
      · have hf := ite_t hc hf
        refine g_iload dX8_boat_94 rfl ?_
        refine g_if_ne (tgt := 104) dX8_boat_96 (by decide) (fun hc => ?_) (fun hc => ?_)
        · have hf := ite_f hc hf
          refine g_iload dX8_boat_104 rfl ?_
          exact g_iret_w hr hf dX8_boat_106
        · have hf := ite_t hc hf
          refine g_iload dX8_boat_99 rfl ?_
          refine g_goto (tgt := 106) dX8_boat_101 (by decide) ?_
          exact g_iret_w hr hf dX8_boat_106
def f_X8_boat (x1 : Int32) (x2 : Int32) (x3 : Int32) (x4 : Int32) (x5 : Int32) (M : Mem) : Option (Int32 × Mem) :=
  if (f_X8_isRow x1) = 0 then ((f_X8_bad (-10 : Int32) M).bind fun r1 =>
  some (r1.1, r1.2))
  else (if (f_X8_in x2.toInt64 (0 : Int64) (65535 : Int64)) = 0 then ((f_X8_bad (-10 : Int32) M).bind fun r2 =>
  some (r2.1, r2.2))
  else (if (f_X8_isBridge M x3) = 0 then ((f_X8_bad (-10 : Int32) M).bind fun r3 =>
  some (r3.1, r3.2))
  else (if (f_X8_isBridge M x4) = 0 then ((f_X8_bad (-10 : Int32) M).bind fun r4 =>
  some (r4.1, r4.2))
  else (if (f_X8_in x5.toInt64 (0 : Int64) (1 : Int64)) = 0 then ((f_X8_bad (-10 : Int32) M).bind fun r7 =>
  some (r7.1, r7.2))
  else (ck x1 20 <|
  b_X8_boat_68 x2 x4 x5 fu (0 : Int32) (M.2 66 x1.toNatClampNeg) x3 M)))))
set_option maxHeartbeats 4000000 in
set_option maxRecDepth 100000 in
theorem c_X8_boat {l : Launch} {x1 : Int32} {x2 : Int32} {x3 : Int32} {x4 : Int32} {x5 : Int32} {M : Mem} {r : Int32} {M1 : Mem} (hf : f_X8_boat x1 x2 x3 x4 x5 M = some (r, M1)) : Cn l yX8_boat cX8_boat 10 (some .int) 5 115 (fun E => [.ref (E.1 63), .int x1, .int x2, .int x3, .int x4, .int x5]) M (some (.int r), M1) := by
  unfold f_X8_boat at hf
  refine cn_of RX8 (fun E => [some (.ref (E.1 63)), some (.int x1), some (.int x2), some (.int x3), some (.int x4), some (.int x5), none, none, none, none]) (by decide +kernel) rfl (fun E => Nat.le_of_ble_eq_true rfl) (fun E => rfl) (fun X hr => ?_)
  refine g_iload_n dX8_boat_0 rfl ?_
  refine g_cS_I_I (c_X8_isRow rfl) cs_X8_148 ⟨by decide, by decide⟩ (Nat.le_of_ble_eq_true rfl) dX8_boat_1 ?_
  refine g_if_eq (tgt := 47) dX8_boat_4 (by decide) (fun hc => ?_) (fun hc => ?_)
  · have hf := ite_t hc hf
    refine g_aload_n dX8_boat_47 rfl ?_
    refine g_bipush (v := (-10)) dX8_boat_48 (by decide) ?_
    obtain ⟨r1, hq, hf⟩ := bnd hf
    refine g_cV_I_I (c_X8_bad (r := r1.1) (M1 := r1.2) hq) cv_X8_116 (by decide) (cel_63 _ _ _) rfl ⟨by decide, by decide⟩ (Nat.le_of_ble_eq_true rfl) dX8_boat_50 ?_
    exact g_iret_w hr hf dX8_boat_53
  · have hf := ite_f hc hf
    refine g_iload_n dX8_boat_7 rfl ?_
    refine g_i2l dX8_boat_8 ?_
    refine g_lconst (v := 0) dX8_boat_9 (by decide) ?_
    refine g_ldc2 cl_X8_162 dX8_boat_10 ?_
    refine g_cS_JJJ_I (c_X8_in rfl) cs_X8_106 ⟨by decide, by decide⟩ (Nat.le_of_ble_eq_true rfl) dX8_boat_13 ?_
    refine g_if_eq (tgt := 47) dX8_boat_16 (by decide) (fun hc => ?_) (fun hc => ?_)
    · have hf := ite_t hc hf
      refine g_aload_n dX8_boat_47 rfl ?_
      refine g_bipush (v := (-10)) dX8_boat_48 (by decide) ?_
      obtain ⟨r2, hq, hf⟩ := bnd hf
      refine g_cV_I_I (c_X8_bad (r := r2.1) (M1 := r2.2) hq) cv_X8_116 (by decide) (cel_63 _ _ _) rfl ⟨by decide, by decide⟩ (Nat.le_of_ble_eq_true rfl) dX8_boat_50 ?_
      exact g_iret_w hr hf dX8_boat_53
    · have hf := ite_f hc hf
      refine g_aload_n dX8_boat_19 rfl ?_
      refine g_iload_n dX8_boat_20 rfl ?_
      refine g_cV_I_I (c_X8_isBridge rfl) cv_X8_139 (by decide) (cel_63 _ _ _) rfl ⟨by decide, by decide⟩ (Nat.le_of_ble_eq_true rfl) dX8_boat_21 ?_
      refine g_if_eq (tgt := 47) dX8_boat_24 (by decide) (fun hc => ?_) (fun hc => ?_)
      · have hf := ite_t hc hf
        refine g_aload_n dX8_boat_47 rfl ?_
        refine g_bipush (v := (-10)) dX8_boat_48 (by decide) ?_
        obtain ⟨r3, hq, hf⟩ := bnd hf
        refine g_cV_I_I (c_X8_bad (r := r3.1) (M1 := r3.2) hq) cv_X8_116 (by decide) (cel_63 _ _ _) rfl ⟨by decide, by decide⟩ (Nat.le_of_ble_eq_true rfl) dX8_boat_50 ?_
        exact g_iret_w hr hf dX8_boat_53
      · have hf := ite_f hc hf
        refine g_aload_n dX8_boat_27 rfl ?_
        refine g_iload dX8_boat_28 rfl ?_
        refine g_cV_I_I (c_X8_isBridge rfl) cv_X8_139 (by decide) (cel_63 _ _ _) rfl ⟨by decide, by decide⟩ (Nat.le_of_ble_eq_true rfl) dX8_boat_30 ?_
        refine g_if_eq (tgt := 47) dX8_boat_33 (by decide) (fun hc => ?_) (fun hc => ?_)
        · have hf := ite_t hc hf
          refine g_aload_n dX8_boat_47 rfl ?_
          refine g_bipush (v := (-10)) dX8_boat_48 (by decide) ?_
          obtain ⟨r4, hq, hf⟩ := bnd hf
          refine g_cV_I_I (c_X8_bad (r := r4.1) (M1 := r4.2) hq) cv_X8_116 (by decide) (cel_63 _ _ _) rfl ⟨by decide, by decide⟩ (Nat.le_of_ble_eq_true rfl) dX8_boat_50 ?_
          exact g_iret_w hr hf dX8_boat_53
        · have hf := ite_f hc hf
          refine g_iload dX8_boat_36 rfl ?_
          refine g_i2l dX8_boat_38 ?_
          refine g_lconst (v := 0) dX8_boat_39 (by decide) ?_
          refine g_lconst (v := 1) dX8_boat_40 (by decide) ?_
          refine g_cS_JJJ_I (c_X8_in rfl) cs_X8_106 ⟨by decide, by decide⟩ (Nat.le_of_ble_eq_true rfl) dX8_boat_41 ?_
          refine g_if_ne (tgt := 54) dX8_boat_44 (by decide) (fun hc => ?_) (fun hc => ?_)
          · have hf := ite_f hc hf
            refine g_iconst (v := 0) dX8_boat_54 (by decide) ?_
            refine g_ist6 dX8_boat_55 (by decide) lnl_i ?_
            refine g_aload_n dX8_boat_57 rfl ?_
            refine g_get (kk := 63) (by decide) (cel_63 _ _ _) rfl inX8 fl_X8_16 (by decide) rfl dX8_boat_58 ?_
            refine g_iload_n dX8_boat_61 rfl ?_
            obtain ⟨hi, hf⟩ := ck_s hf
            refine g_laload (kk := 66) (by decide) (fun f g => cel_66 _ f g) hi rfl dX8_boat_62 ?_
            refine g_lst7 dX8_boat_63 (by decide) lnl_i ?_
            refine g_iload_n dX8_boat_65 rfl ?_
            refine g_ist9 dX8_boat_66 (by decide) lnl_n ?_
            exact g_weakr (w_X8_boat_68 hr fu hf) (lsk (lsd (lsk (lsd (lsk (lsk (lsk (lsk (lsd (lsk lsz))))))))))
          · have hf := ite_t hc hf
            refine g_aload_n dX8_boat_47 rfl ?_
            refine g_bipush (v := (-10)) dX8_boat_48 (by decide) ?_
            obtain ⟨r7, hq, hf⟩ := bnd hf
            refine g_cV_I_I (c_X8_bad (r := r7.1) (M1 := r7.2) hq) cv_X8_116 (by decide) (cel_63 _ _ _) rfl ⟨by decide, by decide⟩ (Nat.le_of_ble_eq_true rfl) dX8_boat_50 ?_
            exact g_iret_w hr hf dX8_boat_53
-- X8_beginWay
def f_X8_beginWay (x1 : Int64) (x3 : Int32) (M : Mem) : Option Mem :=
  let M1 := mI M 63 12 (0 : Int32)
  let M2 := mI M1 71 0 x3
  let M3 := mL M2 72 0 x1
  let M4 := mI M3 73 0 (0 : Int32)
  let M5 := mI M4 70 0 (-1 : Int32)
  some M5
set_option maxHeartbeats 4000000 in
set_option maxRecDepth 100000 in
theorem c_X8_beginWay {l : Launch} {x1 : Int64} {x3 : Int32} {M : Mem} {M1 : Mem} (hf : f_X8_beginWay x1 x3 M = some M1) : Cn l yX8_beginWay cX8_beginWay 4 none 0 0 (fun E => [.ref (E.1 63), .long x1, .int x3]) M (none, M1) := by
  unfold f_X8_beginWay at hf
  refine cn_of RX8 (fun E => [some (.ref (E.1 63)), some (.long x1), none, some (.int x3)]) (by decide +kernel) rfl (fun E => Nat.le_of_ble_eq_true rfl) (fun E => rfl) (fun X hr => ?_)
  refine g_aload_n dX8_beginWay_0 rfl ?_
  refine g_iconst (v := 0) dX8_beginWay_1 (by decide) ?_
  refine g_putI (kk := 63) (by decide) (cel_63 _ _ _) (pI_63_12 _ _ _ _) rfl inX8 tyX8_ok nmX8 fl_X8_168 (by decide) (Nat.le_of_ble_eq_true rfl) rfl (by decide +kernel) dX8_beginWay_2 ?_
  refine g_aload_n dX8_beginWay_5 rfl ?_
  refine g_get (kk := 63) (by decide) (cel_63 _ _ _) rfl inX8 fl_X8_37 (by decide) rfl dX8_beginWay_6 ?_
  refine g_iconst (v := 0) dX8_beginWay_9 (by decide) ?_
  refine g_iload_n dX8_beginWay_10 rfl ?_
  refine g_iastore (kk := 71) (by decide) (fun f g => cel_71 _ f g) (vp_in_iff.mpr ⟨by decide, by decide⟩) (j := 0) (by decide) dX8_beginWay_11 ?_
  refine g_aload_n dX8_beginWay_12 rfl ?_
  refine g_get (kk := 63) (by decide) (cel_63 _ _ _) rfl inX8 fl_X8_40 (by decide) rfl dX8_beginWay_13 ?_
  refine g_iconst (v := 0) dX8_beginWay_16 (by decide) ?_
  refine g_lload_n dX8_beginWay_17 rfl ?_
  refine g_lastore (kk := 72) (by decide) (fun f g => cel_72 _ f g) (vp_in_iff.mpr ⟨by decide, by decide⟩) (j := 0) (by decide) dX8_beginWay_18 ?_
  refine g_aload_n dX8_beginWay_19 rfl ?_
  refine g_get (kk := 63) (by decide) (cel_63 _ _ _) rfl inX8 fl_X8_43 (by decide) rfl dX8_beginWay_20 ?_
  refine g_iconst (v := 0) dX8_beginWay_23 (by decide) ?_
  refine g_iconst (v := 0) dX8_beginWay_24 (by decide) ?_
  refine g_iastore (kk := 73) (by decide) (fun f g => cel_73 _ f g) (vp_in_iff.mpr ⟨by decide, by decide⟩) (j := 0) (by decide) dX8_beginWay_25 ?_
  refine g_aload_n dX8_beginWay_26 rfl ?_
  refine g_get (kk := 63) (by decide) (cel_63 _ _ _) rfl inX8 fl_X8_34 (by decide) rfl dX8_beginWay_27 ?_
  refine g_iconst (v := 0) dX8_beginWay_30 (by decide) ?_
  refine g_iconst (v := (-1)) dX8_beginWay_31 (by decide) ?_
  refine g_iastore (kk := 70) (by decide) (fun f g => cel_70 _ f g) (vp_in_iff.mpr ⟨by decide, by decide⟩) (j := 0) (by decide) dX8_beginWay_32 ?_
  exact g_vret_w hr hf dX8_beginWay_33
-- X8_judge
def b_X8_judge_94    : Nat → Int32 → Mem → Option Mem
  | 0, _, _ => none
  | n + 1, x2, M =>
    if (M.1 63 12) ≤ x2 then (some M)
    else (ck x2 7 <|
    ck x2 6 <|
    let M4 := mI M 74 (x2.toNatClampNeg) (M.1 70 x2.toNatClampNeg)
    b_X8_judge_94 n (x2 + (1 : Int32)) M4)
set_option maxHeartbeats 4000000 in
set_option maxRecDepth 100000 in
theorem w_X8_judge_94 {X : Cx} {M1 : Mem}      (hr : X.meth.sig.returnType = none) : ∀ (n : Nat) {x2 : Int32} {M : Mem}, b_X8_judge_94  n x2 M = some M1 → G X (none, M1) RX8 cX8_judge 3 0 0 94 [some (.ref (X.1.1 63)), none, some (.int x2)] [] M := by
  intro n
  induction n with
  | zero => intro x2 M hf; cases hf
  | succ n ih =>
    intro x2 M hf
    rw [b_X8_judge_94.eq_2] at hf
    refine g_iload_n dX8_judge_94 rfl ?_
    refine g_aload_n dX8_judge_95 rfl ?_
    refine g_get (kk := 63) (by decide) (cel_63 _ _ _) rfl inX8 fl_X8_168 (by decide) rfl dX8_judge_96 ?_
    refine g_icmp_ge (tgt := 120) dX8_judge_99 (by decide) (fun hc => ?_) (fun hc => ?_)
    · have hf := ite_t hc hf
      exact g_vret_w hr hf dX8_judge_120
    · have hf := ite_f hc hf
      refine g_aload_n dX8_judge_102 rfl ?_
      refine g_get (kk := 63) (by decide) (cel_63 _ _ _) rfl inX8 fl_X8_46 (by decide) rfl dX8_judge_103 ?_
      refine g_iload_n dX8_judge_106 rfl ?_
      refine g_aload_n dX8_judge_107 rfl ?_
      refine g_get (kk := 63) (by decide) (cel_63 _ _ _) rfl inX8 fl_X8_34 (by decide) rfl dX8_judge_108 ?_
      refine g_iload_n dX8_judge_111 rfl ?_
      obtain ⟨hi, hf⟩ := ck_s hf
      refine g_iaload (kk := 70) (by decide) (fun f g => cel_70 _ f g) hi rfl dX8_judge_112 ?_
      obtain ⟨hi, hf⟩ := ck_s hf
      refine g_iastore (kk := 74) (by decide) (fun f g => cel_74 _ f g) hi rfl dX8_judge_113 ?_
      refine g_iinc2 (v := (x2 + (1 : Int32))) dX8_judge_114 (by decide) lnl_n rfl ?_
      refine g_goto (tgt := 94) dX8_judge_117 (by decide) ?_
      exact ih hf
def b_X8_judge_66   (t0 : Int32) (M : Mem) : Option Mem :=
  if t0 = 0 then (some M)
  else (let M2 := mI M 63 14 (M.1 63 12)
  ck (M2.1 63 12) 7 <|
  let M3 := mI M2 63 15 (M2.1 73 (M2.1 63 12).toNatClampNeg)
  b_X8_judge_94 fu (0 : Int32) M3)
set_option maxHeartbeats 4000000 in
set_option maxRecDepth 100000 in
theorem w_X8_judge_66 {X : Cx} {M1 : Mem}      {t0 : Int32} {M : Mem} (hr : X.meth.sig.returnType = none) (hf : b_X8_judge_66 t0 M = some M1) : G X (none, M1) RX8 cX8_judge 3 0 0 66 [some (.ref (X.1.1 63)), none, none] [.int t0] M := by
  unfold b_X8_judge_66 at hf
  refine g_ist1 dX8_judge_66 (by decide) lnl_r ?_
  refine g_iload_n dX8_judge_67 rfl ?_
  refine g_if_eq (tgt := 120) dX8_judge_68 (by decide) (fun hc => ?_) (fun hc => ?_)
  · have hf := ite_t hc hf
    exact g_vret_w hr hf dX8_judge_120
  · have hf := ite_f hc hf
    refine g_aload_n dX8_judge_71 rfl ?_
    refine g_aload_n dX8_judge_72 rfl ?_
    refine g_get (kk := 63) (by decide) (cel_63 _ _ _) rfl inX8 fl_X8_168 (by decide) rfl dX8_judge_73 ?_
    refine g_putI (kk := 63) (by decide) (cel_63 _ _ _) (pI_63_14 _ _ _ _) rfl inX8 tyX8_ok nmX8 fl_X8_178 (by decide) (Nat.le_of_ble_eq_true rfl) rfl (by decide +kernel) dX8_judge_76 ?_
    refine g_aload_n dX8_judge_79 rfl ?_
    refine g_aload_n dX8_judge_80 rfl ?_
    refine g_get (kk := 63) (by decide) (cel_63 _ _ _) rfl inX8 fl_X8_43 (by decide) rfl dX8_judge_81 ?_
    refine g_aload_n dX8_judge_84 rfl ?_
    refine g_get (kk := 63) (by decide) (cel_63 _ _ _) rfl inX8 fl_X8_168 (by decide) rfl dX8_judge_85 ?_
    obtain ⟨hi, hf⟩ := ck_s hf
    refine g_iaload (kk := 73) (by decide) (fun f g => cel_73 _ f g) hi rfl dX8_judge_88 ?_
    refine g_putI (kk := 63) (by decide) (cel_63 _ _ _) (pI_63_15 _ _ _ _) rfl inX8 tyX8_ok nmX8 fl_X8_181 (by decide) (Nat.le_of_ble_eq_true rfl) rfl (by decide +kernel) dX8_judge_89 ?_
    refine g_iconst (v := 0) dX8_judge_92 (by decide) ?_
    refine g_ist2 dX8_judge_93 (by decide) lnl_i ?_
    exact g_weakr (w_X8_judge_94 hr fu hf) (lsk (lsd (lsk lsz)))
def f_X8_judge  (M : Mem) : Option Mem :=
  let M1 := mI M 63 16 ((M.1 63 16) + (1 : Int32))
  if (M1.1 63 14) = (-1 : Int32) then (b_X8_judge_66 (1 : Int32) M1)
  else (ck (M1.1 63 12) 7 <|
  if (M1.1 73 (M1.1 63 12).toNatClampNeg) < (M1.1 63 15) then (b_X8_judge_66 (1 : Int32) M1)
  else (ck (M1.1 63 12) 7 <|
  if (M1.1 73 (M1.1 63 12).toNatClampNeg) = (M1.1 63 15) then (if (M1.1 63 14) ≤ (M1.1 63 12) then (b_X8_judge_66 (0 : Int32) M1)
  else (b_X8_judge_66 (1 : Int32) M1))
  else (b_X8_judge_66 (0 : Int32) M1)))
set_option maxHeartbeats 4000000 in
set_option maxRecDepth 100000 in
theorem c_X8_judge {l : Launch}  {M : Mem} {M1 : Mem} (hf : f_X8_judge M = some M1) : Cn l yX8_judge cX8_judge 3 none 0 0 (fun E => [.ref (E.1 63)]) M (none, M1) := by
  unfold f_X8_judge at hf
  refine cn_of RX8 (fun E => [some (.ref (E.1 63)), none, none]) (by decide +kernel) rfl (fun E => Nat.le_of_ble_eq_true rfl) (fun E => rfl) (fun X hr => ?_)
  refine g_aload_n dX8_judge_0 rfl ?_
  refine g_dup dX8_judge_1 rfl ?_
  refine g_get (kk := 63) (by decide) (cel_63 _ _ _) rfl inX8 fl_X8_175 (by decide) rfl dX8_judge_2 ?_
  refine g_iconst (v := 1) dX8_judge_5 (by decide) ?_
  refine g_iadd dX8_judge_6 ?_
  refine g_putI (kk := 63) (by decide) (cel_63 _ _ _) (pI_63_16 _ _ _ _) rfl inX8 tyX8_ok nmX8 fl_X8_175 (by decide) (Nat.le_of_ble_eq_true rfl) rfl (by decide +kernel) dX8_judge_7 ?_
  refine g_aload_n dX8_judge_10 rfl ?_
  refine g_get (kk := 63) (by decide) (cel_63 _ _ _) rfl inX8 fl_X8_178 (by decide) rfl dX8_judge_11 ?_
  refine g_iconst (v := (-1)) dX8_judge_14 (by decide) ?_
  refine g_icmp_eq (tgt := 61) dX8_judge_15 (by decide) (fun hc => ?_) (fun hc => ?_)
  · have hf := ite_t hc hf
    refine g_iconst (v := 1) dX8_judge_61 (by decide) ?_
    refine g_goto (tgt := 66) dX8_judge_62 (by decide) ?_
    exact w_X8_judge_66 hr hf
  · have hf := ite_f hc hf
    refine g_aload_n dX8_judge_18 rfl ?_
    refine g_get (kk := 63) (by decide) (cel_63 _ _ _) rfl inX8 fl_X8_43 (by decide) rfl dX8_judge_19 ?_
    refine g_aload_n dX8_judge_22 rfl ?_
    refine g_get (kk := 63) (by decide) (cel_63 _ _ _) rfl inX8 fl_X8_168 (by decide) rfl dX8_judge_23 ?_
    obtain ⟨hi, hf⟩ := ck_s hf
    refine g_iaload (kk := 73) (by decide) (fun f g => cel_73 _ f g) hi rfl dX8_judge_26 ?_
    refine g_aload_n dX8_judge_27 rfl ?_
    refine g_get (kk := 63) (by decide) (cel_63 _ _ _) rfl inX8 fl_X8_181 (by decide) rfl dX8_judge_28 ?_
    refine g_icmp_lt (tgt := 61) dX8_judge_31 (by decide) (fun hc => ?_) (fun hc => ?_)
    · have hf := ite_t hc hf
      refine g_iconst (v := 1) dX8_judge_61 (by decide) ?_
      refine g_goto (tgt := 66) dX8_judge_62 (by decide) ?_
      exact w_X8_judge_66 hr hf
    · have hf := ite_f hc hf
      refine g_aload_n dX8_judge_34 rfl ?_
      refine g_get (kk := 63) (by decide) (cel_63 _ _ _) rfl inX8 fl_X8_43 (by decide) rfl dX8_judge_35 ?_
      refine g_aload_n dX8_judge_38 rfl ?_
      refine g_get (kk := 63) (by decide) (cel_63 _ _ _) rfl inX8 fl_X8_168 (by decide) rfl dX8_judge_39 ?_
      obtain ⟨hi, hf⟩ := ck_s hf
      refine g_iaload (kk := 73) (by decide) (fun f g => cel_73 _ f g) hi rfl dX8_judge_42 ?_
      refine g_aload_n dX8_judge_43 rfl ?_
      refine g_get (kk := 63) (by decide) (cel_63 _ _ _) rfl inX8 fl_X8_181 (by decide) rfl dX8_judge_44 ?_
      refine g_icmp_ne (tgt := 65) dX8_judge_47 (by decide) (fun hc => ?_) (fun hc => ?_)
      · have hf := ite_f hc hf
        refine g_iconst (v := 0) dX8_judge_65 (by decide) ?_
        exact w_X8_judge_66 hr hf
      · have hf := ite_t hc hf
        refine g_aload_n dX8_judge_50 rfl ?_
        refine g_get (kk := 63) (by decide) (cel_63 _ _ _) rfl inX8 fl_X8_168 (by decide) rfl dX8_judge_51 ?_
        refine g_aload_n dX8_judge_54 rfl ?_
        refine g_get (kk := 63) (by decide) (cel_63 _ _ _) rfl inX8 fl_X8_178 (by decide) rfl dX8_judge_55 ?_
        refine g_icmp_ge (tgt := 65) dX8_judge_58 (by decide) (fun hc => ?_) (fun hc => ?_)
        · have hf := ite_t hc hf
          refine g_iconst (v := 0) dX8_judge_65 (by decide) ?_
          exact w_X8_judge_66 hr hf
        · have hf := ite_f hc hf
          refine g_iconst (v := 1) dX8_judge_61 (by decide) ?_
          refine g_goto (tgt := 66) dX8_judge_62 (by decide) ?_
          exact w_X8_judge_66 hr hf
-- X8_isGone
def b_X8_isGone_31 (k4 : Int32 → Int32 → Option Int32) (M : Mem) (x1 : Int32) (x3 : Int32) (t0 : Int32) : Option Int32 :=
  k4 t0 (x3 + (1 : Int32))
set_option maxHeartbeats 4000000 in
set_option maxRecDepth 100000 in
theorem w_X8_isGone_31 {X : Cx} {r : Int32} {M : Mem} {k4 : Int32 → Int32 → Option Int32} {x1 : Int32}   {x3 : Int32} {t0 : Int32} (hr : X.meth.sig.returnType = (some .boolean)) (hk4 : ∀ {x2_ : Int32} {x3_ : Int32}, k4 x2_ x3_ = some r → G X (some (.int r), M) RX8 cX8_isGone 4 0 0 4 [some (.ref (X.1.1 63)), some (.int x1), some (.int x2_), some (.int x3_)] [] M) (hf : b_X8_isGone_31 k4 M x1 x3 t0 = some r) : G X (some (.int r), M) RX8 cX8_isGone 4 0 0 31 [some (.ref (X.1.1 63)), some (.int x1), none, some (.int x3)] [.int t0] M := by
  unfold b_X8_isGone_31 at hf
  refine g_ist2 dX8_isGone_31 (by decide) lnl_i ?_
  refine g_iinc3 (v := (x3 + (1 : Int32))) dX8_isGone_32 (by decide) lnl_i rfl ?_
  refine g_goto (tgt := 4) dX8_isGone_35 (by decide) ?_
  exact hk4 hf
def b_X8_isGone_4  (M : Mem) (x1 : Int32) : Nat → Int32 → Int32 → Option Int32
  | 0, _, _ => none
  | n + 1, x2, x3 =>
    if (M.1 63 12) ≤ x3 then (ckB x2 (some x2))
    else (if x2 = 0 then (ck x3 7 <|
    if (M.1 70 x3.toNatClampNeg) = x1 then (b_X8_isGone_31 (fun x2_ x3_ => b_X8_isGone_4 M x1 n x2_ x3_) M x1 x3 (1 : Int32))
    else (b_X8_isGone_31 (fun x2_ x3_ => b_X8_isGone_4 M x1 n x2_ x3_) M x1 x3 (0 : Int32)))
    else (b_X8_isGone_31 (fun x2_ x3_ => b_X8_isGone_4 M x1 n x2_ x3_) M x1 x3 (1 : Int32)))
set_option maxHeartbeats 4000000 in
set_option maxRecDepth 100000 in
theorem w_X8_isGone_4 {X : Cx} {r : Int32} {M : Mem}  {x1 : Int32}   (hr : X.meth.sig.returnType = (some .boolean)) : ∀ (n : Nat) {x2 : Int32} {x3 : Int32}, b_X8_isGone_4 M x1 n x2 x3 = some r → G X (some (.int r), M) RX8 cX8_isGone 4 0 0 4 [some (.ref (X.1.1 63)), some (.int x1), some (.int x2), some (.int x3)] [] M := by
  intro n
  induction n with
  | zero => intro x2 x3 hf; cases hf
  | succ n ih =>
    intro x2 x3 hf
    rw [b_X8_isGone_4.eq_2] at hf
    refine g_iload_n dX8_isGone_4 rfl ?_
    refine g_aload_n dX8_isGone_5 rfl ?_
    refine g_get (kk := 63) (by decide) (cel_63 _ _ _) rfl inX8 fl_X8_168 (by decide) rfl dX8_isGone_6 ?_
    refine g_icmp_ge (tgt := 38) dX8_isGone_9 (by decide) (fun hc => ?_) (fun hc => ?_)
    · have hf := ite_t hc hf
      refine g_iload_n dX8_isGone_38 rfl ?_
      obtain ⟨hz, hf⟩ := ckB_s hf
      exact g_zret_p hr hz hf dX8_isGone_39
    · have hf := ite_f hc hf
      refine g_iload_n dX8_isGone_12 rfl ?_
      refine g_if_ne (tgt := 26) dX8_isGone_13 (by decide) (fun hc => ?_) (fun hc => ?_)
      · have hf := ite_f hc hf
        refine g_iconst (v := 1) dX8_isGone_26 (by decide) ?_
        refine g_goto (tgt := 31) dX8_isGone_27 (by decide) ?_
        exact g_weakr (w_X8_isGone_31 hr (fun hf => ih hf) hf) (lsk (lsk (lsd (lsk lsz))))
      · have hf := ite_t hc hf
        refine g_aload_n dX8_isGone_16 rfl ?_
        refine g_get (kk := 63) (by decide) (cel_63 _ _ _) rfl inX8 fl_X8_34 (by decide) rfl dX8_isGone_17 ?_
        refine g_iload_n dX8_isGone_20 rfl ?_
        obtain ⟨hi, hf⟩ := ck_s hf
        refine g_iaload (kk := 70) (by decide) (fun f g => cel_70 _ f g) hi rfl dX8_isGone_21 ?_
        refine g_iload_n dX8_isGone_22 rfl ?_
        refine g_icmp_ne (tgt := 30) dX8_isGone_23 (by decide) (fun hc => ?_) (fun hc => ?_)
        · have hf := ite_f hc hf
          refine g_iconst (v := 0) dX8_isGone_30 (by decide) ?_
          exact g_weakr (w_X8_isGone_31 hr (fun hf => ih hf) hf) (lsk (lsk (lsd (lsk lsz))))
        · have hf := ite_t hc hf
          refine g_iconst (v := 1) dX8_isGone_26 (by decide) ?_
          refine g_goto (tgt := 31) dX8_isGone_27 (by decide) ?_
          exact g_weakr (w_X8_isGone_31 hr (fun hf => ih hf) hf) (lsk (lsk (lsd (lsk lsz))))
def f_X8_isGone (M : Mem) (x1 : Int32) : Option Int32 :=
  b_X8_isGone_4 M x1 fu (0 : Int32) (0 : Int32)
set_option maxHeartbeats 4000000 in
set_option maxRecDepth 100000 in
theorem c_X8_isGone {l : Launch} {x1 : Int32} {M : Mem} {r : Int32} (hf : f_X8_isGone M x1 = some r) : Cn l yX8_isGone cX8_isGone 4 (some .boolean) 0 0 (fun E => [.ref (E.1 63), .int x1]) M (some (.int r), M) := by
  unfold f_X8_isGone at hf
  refine cn_of RX8 (fun E => [some (.ref (E.1 63)), some (.int x1), none, none]) (by decide +kernel) rfl (fun E => Nat.le_of_ble_eq_true rfl) (fun E => rfl) (fun X hr => ?_)
  refine g_iconst (v := 0) dX8_isGone_0 (by decide) ?_
  refine g_ist2 dX8_isGone_1 (by decide) lnl_i ?_
  refine g_iconst (v := 0) dX8_isGone_2 (by decide) ?_
  refine g_ist3 dX8_isGone_3 (by decide) lnl_i ?_
  exact w_X8_isGone_4 hr fu hf
-- X8_goOn
def b_X8_goOn_185 (k0 : Mem → Option (Int32 × Mem))   (M : Mem) : Option (Int32 × Mem) :=
  let M1 := mI M 63 12 ((M.1 63 12) - (1 : Int32))
  k0 M1
set_option maxHeartbeats 4000000 in
set_option maxRecDepth 100000 in
theorem w_X8_goOn_185 {X : Cx} {r : Int32} {M1 : Mem}  {k0 : Mem → Option (Int32 × Mem)}     {M : Mem} (hr : X.meth.sig.returnType = (some .boolean)) (hk0 : ∀  {M_ : Mem}, k0  M_ = some (r, M1) → G X (some (.int r), M1) RX8 cX8_goOn 2 5 115 0 [some (.ref (X.1.1 63)), none] [] M_) (hf : b_X8_goOn_185 k0 M = some (r, M1)) : G X (some (.int r), M1) RX8 cX8_goOn 2 5 115 185 [some (.ref (X.1.1 63)), none] [] M := by
  unfold b_X8_goOn_185 at hf
  refine g_aload_n dX8_goOn_185 rfl ?_
  refine g_dup dX8_goOn_186 rfl ?_
  refine g_get (kk := 63) (by decide) (cel_63 _ _ _) rfl inX8 fl_X8_168 (by decide) rfl dX8_goOn_187 ?_
  refine g_iconst (v := 1) dX8_goOn_190 (by decide) ?_
  refine g_isub dX8_goOn_191 ?_
  refine g_putI (kk := 63) (by decide) (cel_63 _ _ _) (pI_63_12 _ _ _ _) rfl inX8 tyX8_ok nmX8 fl_X8_168 (by decide) (Nat.le_of_ble_eq_true rfl) rfl (by decide +kernel) dX8_goOn_192 ?_
  refine g_goto (tgt := 0) dX8_goOn_195 (by decide) ?_
  exact hk0 hf
def b_X8_goOn_76   (x1 : Int32) (M : Mem) : Option (Int32 × Mem) :=
  ck (M.1 63 12) 7 <|
  let M2 := mI M 70 ((M.1 63 12).toNatClampNeg) x1
  ck (M2.1 63 12) 7 <|
  (f_X8_behindBridge M2 x1 (M2.2 72 (M2.1 63 12).toNatClampNeg)).bind fun r3 =>
  ck ((M2.1 63 12) + (1 : Int32)) 7 <|
  let M4 := mL M2 72 (((M2.1 63 12) + (1 : Int32)).toNatClampNeg) r3
  (f_X8_get M4 x1 (1 : Int32)).bind fun r5 =>
  ck ((M4.1 63 12) + (1 : Int32)) 7 <|
  let M6 := mI M4 71 (((M4.1 63 12) + (1 : Int32)).toNatClampNeg) r5
  ck (M6.1 63 12) 7 <|
  ck ((M6.1 63 12) + (1 : Int32)) 7 <|
  ck ((M6.1 63 12) + (1 : Int32)) 7 <|
  let M7 := mI M6 73 (((M6.1 63 12) + (1 : Int32)).toNatClampNeg) ((M6.1 73 (M6.1 63 12).toNatClampNeg) + (f_X8_many (M6.2 72 ((M6.1 63 12) + (1 : Int32)).toNatClampNeg)))
  let M8 := mI M7 63 12 ((M7.1 63 12) + (1 : Int32))
  ck (M8.1 63 12) 7 <|
  let M9 := mI M8 70 ((M8.1 63 12).toNatClampNeg) (-1 : Int32)
  some ((1 : Int32), M9)
set_option maxHeartbeats 4000000 in
set_option maxRecDepth 100000 in
theorem w_X8_goOn_76 {X : Cx} {r : Int32} {M1 : Mem}      {x1 : Int32} {M : Mem} (hr : X.meth.sig.returnType = (some .boolean)) (hf : b_X8_goOn_76 x1 M = some (r, M1)) : G X (some (.int r), M1) RX8 cX8_goOn 2 5 115 76 [some (.ref (X.1.1 63)), some (.int x1)] [] M := by
  unfold b_X8_goOn_76 at hf
  refine g_aload_n dX8_goOn_76 rfl ?_
  refine g_get (kk := 63) (by decide) (cel_63 _ _ _) rfl inX8 fl_X8_34 (by decide) rfl dX8_goOn_77 ?_
  refine g_aload_n dX8_goOn_80 rfl ?_
  refine g_get (kk := 63) (by decide) (cel_63 _ _ _) rfl inX8 fl_X8_168 (by decide) rfl dX8_goOn_81 ?_
  refine g_iload_n dX8_goOn_84 rfl ?_
  obtain ⟨hi, hf⟩ := ck_s hf
  refine g_iastore (kk := 70) (by decide) (fun f g => cel_70 _ f g) hi rfl dX8_goOn_85 ?_
  refine g_aload_n dX8_goOn_86 rfl ?_
  refine g_get (kk := 63) (by decide) (cel_63 _ _ _) rfl inX8 fl_X8_40 (by decide) rfl dX8_goOn_87 ?_
  refine g_aload_n dX8_goOn_90 rfl ?_
  refine g_get (kk := 63) (by decide) (cel_63 _ _ _) rfl inX8 fl_X8_168 (by decide) rfl dX8_goOn_91 ?_
  refine g_iconst (v := 1) dX8_goOn_94 (by decide) ?_
  refine g_iadd dX8_goOn_95 ?_
  refine g_aload_n dX8_goOn_96 rfl ?_
  refine g_iload_n dX8_goOn_97 rfl ?_
  refine g_aload_n dX8_goOn_98 rfl ?_
  refine g_get (kk := 63) (by decide) (cel_63 _ _ _) rfl inX8 fl_X8_40 (by decide) rfl dX8_goOn_99 ?_
  refine g_aload_n dX8_goOn_102 rfl ?_
  refine g_get (kk := 63) (by decide) (cel_63 _ _ _) rfl inX8 fl_X8_168 (by decide) rfl dX8_goOn_103 ?_
  obtain ⟨hi, hf⟩ := ck_s hf
  refine g_laload (kk := 72) (by decide) (fun f g => cel_72 _ f g) hi rfl dX8_goOn_106 ?_
  obtain ⟨r3, hq, hf⟩ := bnd hf
  refine g_cV_IJ_J (c_X8_behindBridge hq) cv_X8_158 (by decide) (cel_63 _ _ _) rfl ⟨by decide, by decide⟩ (Nat.le_of_ble_eq_true rfl) dX8_goOn_107 ?_
  obtain ⟨hi, hf⟩ := ck_s hf
  refine g_lastore (kk := 72) (by decide) (fun f g => cel_72 _ f g) hi rfl dX8_goOn_110 ?_
  refine g_aload_n dX8_goOn_111 rfl ?_
  refine g_get (kk := 63) (by decide) (cel_63 _ _ _) rfl inX8 fl_X8_37 (by decide) rfl dX8_goOn_112 ?_
  refine g_aload_n dX8_goOn_115 rfl ?_
  refine g_get (kk := 63) (by decide) (cel_63 _ _ _) rfl inX8 fl_X8_168 (by decide) rfl dX8_goOn_116 ?_
  refine g_iconst (v := 1) dX8_goOn_119 (by decide) ?_
  refine g_iadd dX8_goOn_120 ?_
  refine g_aload_n dX8_goOn_121 rfl ?_
  refine g_iload_n dX8_goOn_122 rfl ?_
  refine g_iconst (v := 1) dX8_goOn_123 (by decide) ?_
  obtain ⟨r5, hq, hf⟩ := bnd hf
  refine g_cV_II_I (c_X8_get hq) cv_X8_135 (by decide) (cel_63 _ _ _) rfl ⟨by decide, by decide⟩ (Nat.le_of_ble_eq_true rfl) dX8_goOn_124 ?_
  obtain ⟨hi, hf⟩ := ck_s hf
  refine g_iastore (kk := 71) (by decide) (fun f g => cel_71 _ f g) hi rfl dX8_goOn_127 ?_
  refine g_aload_n dX8_goOn_128 rfl ?_
  refine g_get (kk := 63) (by decide) (cel_63 _ _ _) rfl inX8 fl_X8_43 (by decide) rfl dX8_goOn_129 ?_
  refine g_aload_n dX8_goOn_132 rfl ?_
  refine g_get (kk := 63) (by decide) (cel_63 _ _ _) rfl inX8 fl_X8_168 (by decide) rfl dX8_goOn_133 ?_
  refine g_iconst (v := 1) dX8_goOn_136 (by decide) ?_
  refine g_iadd dX8_goOn_137 ?_
  refine g_aload_n dX8_goOn_138 rfl ?_
  refine g_get (kk := 63) (by decide) (cel_63 _ _ _) rfl inX8 fl_X8_43 (by decide) rfl dX8_goOn_139 ?_
  refine g_aload_n dX8_goOn_142 rfl ?_
  refine g_get (kk := 63) (by decide) (cel_63 _ _ _) rfl inX8 fl_X8_168 (by decide) rfl dX8_goOn_143 ?_
  obtain ⟨hi, hf⟩ := ck_s hf
  refine g_iaload (kk := 73) (by decide) (fun f g => cel_73 _ f g) hi rfl dX8_goOn_146 ?_
  refine g_aload_n dX8_goOn_147 rfl ?_
  refine g_get (kk := 63) (by decide) (cel_63 _ _ _) rfl inX8 fl_X8_40 (by decide) rfl dX8_goOn_148 ?_
  refine g_aload_n dX8_goOn_151 rfl ?_
  refine g_get (kk := 63) (by decide) (cel_63 _ _ _) rfl inX8 fl_X8_168 (by decide) rfl dX8_goOn_152 ?_
  refine g_iconst (v := 1) dX8_goOn_155 (by decide) ?_
  refine g_iadd dX8_goOn_156 ?_
  obtain ⟨hi, hf⟩ := ck_s hf
  refine g_laload (kk := 72) (by decide) (fun f g => cel_72 _ f g) hi rfl dX8_goOn_157 ?_
  refine g_cS_J_I (c_X8_many rfl) cs_X8_71 ⟨by decide, by decide⟩ (Nat.le_of_ble_eq_true rfl) dX8_goOn_158 ?_
  refine g_iadd dX8_goOn_161 ?_
  obtain ⟨hi, hf⟩ := ck_s hf
  refine g_iastore (kk := 73) (by decide) (fun f g => cel_73 _ f g) hi rfl dX8_goOn_162 ?_
  refine g_aload_n dX8_goOn_163 rfl ?_
  refine g_dup dX8_goOn_164 rfl ?_
  refine g_get (kk := 63) (by decide) (cel_63 _ _ _) rfl inX8 fl_X8_168 (by decide) rfl dX8_goOn_165 ?_
  refine g_iconst (v := 1) dX8_goOn_168 (by decide) ?_
  refine g_iadd dX8_goOn_169 ?_
  refine g_putI (kk := 63) (by decide) (cel_63 _ _ _) (pI_63_12 _ _ _ _) rfl inX8 tyX8_ok nmX8 fl_X8_168 (by decide) (Nat.le_of_ble_eq_true rfl) rfl (by decide +kernel) dX8_goOn_170 ?_
  refine g_aload_n dX8_goOn_173 rfl ?_
  refine g_get (kk := 63) (by decide) (cel_63 _ _ _) rfl inX8 fl_X8_34 (by decide) rfl dX8_goOn_174 ?_
  refine g_aload_n dX8_goOn_177 rfl ?_
  refine g_get (kk := 63) (by decide) (cel_63 _ _ _) rfl inX8 fl_X8_168 (by decide) rfl dX8_goOn_178 ?_
  refine g_iconst (v := (-1)) dX8_goOn_181 (by decide) ?_
  obtain ⟨hi, hf⟩ := ck_s hf
  refine g_iastore (kk := 70) (by decide) (fun f g => cel_70 _ f g) hi rfl dX8_goOn_182 ?_
  refine g_iconst (v := 1) dX8_goOn_183 (by decide) ?_
  exact g_zret_w hr (Or.inr rfl) hf dX8_goOn_184
def b_X8_goOn_59 (k0 : Mem → Option (Int32 × Mem))  (x1 : Int32) (M : Mem) : Option (Int32 × Mem) :=
  if (6 : Int32) ≤ (M.1 63 12) then (b_X8_goOn_185 k0 M)
  else (if (f_X8_bridges M) ≤ x1 then (b_X8_goOn_185 k0 M)
  else (b_X8_goOn_76 x1 M))
set_option maxHeartbeats 4000000 in
set_option maxRecDepth 100000 in
theorem w_X8_goOn_59 {X : Cx} {r : Int32} {M1 : Mem}  {k0 : Mem → Option (Int32 × Mem)}    {x1 : Int32} {M : Mem} (hr : X.meth.sig.returnType = (some .boolean)) (hk0 : ∀  {M_ : Mem}, k0  M_ = some (r, M1) → G X (some (.int r), M1) RX8 cX8_goOn 2 5 115 0 [some (.ref (X.1.1 63)), none] [] M_) (hf : b_X8_goOn_59 k0 x1 M = some (r, M1)) : G X (some (.int r), M1) RX8 cX8_goOn 2 5 115 59 [some (.ref (X.1.1 63)), some (.int x1)] [] M := by
  unfold b_X8_goOn_59 at hf
  refine g_aload_n dX8_goOn_59 rfl ?_
  refine g_get (kk := 63) (by decide) (cel_63 _ _ _) rfl inX8 fl_X8_168 (by decide) rfl dX8_goOn_60 ?_
  refine g_bipush (v := 6) dX8_goOn_63 (by decide) ?_
  refine g_icmp_ge (tgt := 185) dX8_goOn_65 (by decide) (fun hc => ?_) (fun hc => ?_)
  · have hf := ite_t hc hf
    exact g_weakr (w_X8_goOn_185 hr hk0 hf) (lsk (lsd lsz))
  · have hf := ite_f hc hf
    refine g_iload_n dX8_goOn_68 rfl ?_
    refine g_aload_n dX8_goOn_69 rfl ?_
    refine g_cV_0_I (c_X8_bridges rfl) cv_X8_102 (by decide) (cel_63 _ _ _) rfl ⟨by decide, by decide⟩ (Nat.le_of_ble_eq_true rfl) dX8_goOn_70 ?_
    refine g_icmp_ge (tgt := 185) dX8_goOn_73 (by decide) (fun hc => ?_) (fun hc => ?_)
    · have hf := ite_t hc hf
      exact g_weakr (w_X8_goOn_185 hr hk0 hf) (lsk (lsd lsz))
    · have hf := ite_f hc hf
      exact w_X8_goOn_76 hr hf
def b_X8_goOn_53 (k19 : Int32 → Mem → Option (Int32 × Mem))  (x1 : Int32) (M : Mem) : Option (Int32 × Mem) :=
  k19 (x1 + (1 : Int32)) M
set_option maxHeartbeats 4000000 in
set_option maxRecDepth 100000 in
theorem w_X8_goOn_53 {X : Cx} {r : Int32} {M1 : Mem}  {k19 : Int32 → Mem → Option (Int32 × Mem)}    {x1 : Int32} {M : Mem} (hr : X.meth.sig.returnType = (some .boolean)) (hk19 : ∀ {x1_ : Int32} {M_ : Mem}, k19 x1_ M_ = some (r, M1) → G X (some (.int r), M1) RX8 cX8_goOn 2 5 115 19 [some (.ref (X.1.1 63)), some (.int x1_)] [] M_) (hf : b_X8_goOn_53 k19 x1 M = some (r, M1)) : G X (some (.int r), M1) RX8 cX8_goOn 2 5 115 53 [some (.ref (X.1.1 63)), some (.int x1)] [] M := by
  unfold b_X8_goOn_53 at hf
  refine g_iinc1 (v := (x1 + (1 : Int32))) dX8_goOn_53 (by decide) lnl_r rfl ?_
  refine g_goto (tgt := 19) dX8_goOn_56 (by decide) ?_
  exact hk19 hf
def b_X8_goOn_19 (k0 : Mem → Option (Int32 × Mem))   : Nat → Int32 → Mem → Option (Int32 × Mem)
  | 0, _, _ => none
  | n + 1, x1, M =>
    if (f_X8_bridges M) ≤ x1 then (b_X8_goOn_59 k0 x1 M)
    else ((f_X8_get M x1 (0 : Int32)).bind fun r10 =>
    ck (M.1 63 12) 7 <|
    if r10 = (M.1 71 (M.1 63 12).toNatClampNeg) then ((f_X8_isGone M x1).bind fun r11 =>
    if r11 = 0 then (b_X8_goOn_59 k0 x1 M)
    else (b_X8_goOn_53 (fun x1_ M_ => b_X8_goOn_19 k0 n x1_ M_) x1 M))
    else (b_X8_goOn_53 (fun x1_ M_ => b_X8_goOn_19 k0 n x1_ M_) x1 M))
set_option maxHeartbeats 4000000 in
set_option maxRecDepth 100000 in
theorem w_X8_goOn_19 {X : Cx} {r : Int32} {M1 : Mem}  {k0 : Mem → Option (Int32 × Mem)}    (hr : X.meth.sig.returnType = (some .boolean)) (hk0 : ∀  {M_ : Mem}, k0  M_ = some (r, M1) → G X (some (.int r), M1) RX8 cX8_goOn 2 5 115 0 [some (.ref (X.1.1 63)), none] [] M_) : ∀ (n : Nat) {x1 : Int32} {M : Mem}, b_X8_goOn_19 k0 n x1 M = some (r, M1) → G X (some (.int r), M1) RX8 cX8_goOn 2 5 115 19 [some (.ref (X.1.1 63)), some (.int x1)] [] M := by
  intro n
  induction n with
  | zero => intro x1 M hf; cases hf
  | succ n ih =>
    intro x1 M hf
    rw [b_X8_goOn_19.eq_2] at hf
    refine g_iload_n dX8_goOn_19 rfl ?_
    refine g_aload_n dX8_goOn_20 rfl ?_
    refine g_cV_0_I (c_X8_bridges rfl) cv_X8_102 (by decide) (cel_63 _ _ _) rfl ⟨by decide, by decide⟩ (Nat.le_of_ble_eq_true rfl) dX8_goOn_21 ?_
    refine g_icmp_ge (tgt := 59) dX8_goOn_24 (by decide) (fun hc => ?_) (fun hc => ?_)
    · have hf := ite_t hc hf
      exact w_X8_goOn_59 hr hk0 hf
    · have hf := ite_f hc hf
      refine g_aload_n dX8_goOn_27 rfl ?_
      refine g_iload_n dX8_goOn_28 rfl ?_
      refine g_iconst (v := 0) dX8_goOn_29 (by decide) ?_
      obtain ⟨r10, hq, hf⟩ := bnd hf
      refine g_cV_II_I (c_X8_get hq) cv_X8_135 (by decide) (cel_63 _ _ _) rfl ⟨by decide, by decide⟩ (Nat.le_of_ble_eq_true rfl) dX8_goOn_30 ?_
      refine g_aload_n dX8_goOn_33 rfl ?_
      refine g_get (kk := 63) (by decide) (cel_63 _ _ _) rfl inX8 fl_X8_37 (by decide) rfl dX8_goOn_34 ?_
      refine g_aload_n dX8_goOn_37 rfl ?_
      refine g_get (kk := 63) (by decide) (cel_63 _ _ _) rfl inX8 fl_X8_168 (by decide) rfl dX8_goOn_38 ?_
      obtain ⟨hi, hf⟩ := ck_s hf
      refine g_iaload (kk := 71) (by decide) (fun f g => cel_71 _ f g) hi rfl dX8_goOn_41 ?_
      refine g_icmp_ne (tgt := 53) dX8_goOn_42 (by decide) (fun hc => ?_) (fun hc => ?_)
      · have hf := ite_f hc hf
        exact w_X8_goOn_53 hr (fun hf => ih hf) hf
      · have hf := ite_t hc hf
        refine g_aload_n dX8_goOn_45 rfl ?_
        refine g_iload_n dX8_goOn_46 rfl ?_
        obtain ⟨r11, hq, hf⟩ := bnd hf
        refine g_cV_I_I (c_X8_isGone hq) cv_X8_172 (by decide) (cel_63 _ _ _) rfl ⟨by decide, by decide⟩ (Nat.le_of_ble_eq_true rfl) dX8_goOn_47 ?_
        refine g_if_eq (tgt := 59) dX8_goOn_50 (by decide) (fun hc => ?_) (fun hc => ?_)
        · have hf := ite_t hc hf
          exact w_X8_goOn_59 hr hk0 hf
        · have hf := ite_f hc hf
          exact w_X8_goOn_53 hr (fun hf => ih hf) hf
def b_X8_goOn_0    : Nat → Mem → Option (Int32 × Mem)
  | 0, _ => none
  | n + 1, M =>
    if (M.1 63 12) < 0 then (some ((0 : Int32), M))
    else (ck (M.1 63 12) 7 <|
    b_X8_goOn_19 (fun M_ => b_X8_goOn_0 n M_) fu ((M.1 70 (M.1 63 12).toNatClampNeg) + (1 : Int32)) M)
set_option maxHeartbeats 4000000 in
set_option maxRecDepth 100000 in
theorem w_X8_goOn_0 {X : Cx} {r : Int32} {M1 : Mem}      (hr : X.meth.sig.returnType = (some .boolean)) : ∀ (n : Nat)  {M : Mem}, b_X8_goOn_0  n M = some (r, M1) → G X (some (.int r), M1) RX8 cX8_goOn 2 5 115 0 [some (.ref (X.1.1 63)), none] [] M := by
  intro n
  induction n with
  | zero => intro M hf; cases hf
  | succ n ih =>
    intro M hf
    rw [b_X8_goOn_0.eq_2] at hf
    refine g_aload_n dX8_goOn_0 rfl ?_
    refine g_get (kk := 63) (by decide) (cel_63 _ _ _) rfl inX8 fl_X8_168 (by decide) rfl dX8_goOn_1 ?_
    refine g_if_lt (tgt := 198) dX8_goOn_4 (by decide) (fun hc => ?_) (fun hc => ?_)
    · have hf := ite_t hc hf
      refine g_iconst (v := 0) dX8_goOn_198 (by decide) ?_
      exact g_zret_w hr (Or.inl rfl) hf dX8_goOn_199
    · have hf := ite_f hc hf
      refine g_aload_n dX8_goOn_7 rfl ?_
      refine g_get (kk := 63) (by decide) (cel_63 _ _ _) rfl inX8 fl_X8_34 (by decide) rfl dX8_goOn_8 ?_
      refine g_aload_n dX8_goOn_11 rfl ?_
      refine g_get (kk := 63) (by decide) (cel_63 _ _ _) rfl inX8 fl_X8_168 (by decide) rfl dX8_goOn_12 ?_
      obtain ⟨hi, hf⟩ := ck_s hf
      refine g_iaload (kk := 70) (by decide) (fun f g => cel_70 _ f g) hi rfl dX8_goOn_15 ?_
      refine g_iconst (v := 1) dX8_goOn_16 (by decide) ?_
      refine g_iadd dX8_goOn_17 ?_
      refine g_ist1 dX8_goOn_18 (by decide) lnl_r ?_
      exact w_X8_goOn_19 hr (fun hf => ih hf) fu hf
def f_X8_goOn  (M : Mem) : Option (Int32 × Mem) :=
  b_X8_goOn_0 fu M
set_option maxHeartbeats 4000000 in
set_option maxRecDepth 100000 in
theorem c_X8_goOn {l : Launch}  {M : Mem} {r : Int32} {M1 : Mem} (hf : f_X8_goOn M = some (r, M1)) : Cn l yX8_goOn cX8_goOn 2 (some .boolean) 5 115 (fun E => [.ref (E.1 63)]) M (some (.int r), M1) := by
  unfold f_X8_goOn at hf
  refine cn_of RX8 (fun E => [some (.ref (E.1 63)), none]) (by decide +kernel) rfl (fun E => Nat.le_of_ble_eq_true rfl) (fun E => rfl) (fun X hr => ?_)
  exact w_X8_goOn_0 hr fu hf
-- X8_layWays
def b_X8_layWays_51 (k29 : Int32 → Mem → Option Mem)  (x3 : Int32) (M : Mem) : Option Mem :=
  (f_X8_goOn M).bind fun r5 =>
  k29 r5.1 r5.2
set_option maxHeartbeats 4000000 in
set_option maxRecDepth 100000 in
theorem w_X8_layWays_51 {X : Cx} {M1 : Mem}  {k29 : Int32 → Mem → Option Mem} {x3 : Int32}    {M : Mem} (hr : X.meth.sig.returnType = none) (hk29 : ∀ {x4_ : Int32} {M_ : Mem}, k29 x4_ M_ = some M1 → G X (none, M1) RX8 cX8_layWays 5 6 136 29 [some (.ref (X.1.1 63)), none, none, some (.int x3), some (.int x4_)] [] M_) (hf : b_X8_layWays_51 k29 x3 M = some M1) : G X (none, M1) RX8 cX8_layWays 5 6 136 51 [some (.ref (X.1.1 63)), none, none, some (.int x3), none] [] M := by
  unfold b_X8_layWays_51 at hf
  refine g_aload_n dX8_layWays_51 rfl ?_
  obtain ⟨r5, hq, hf⟩ := bnd hf
  refine g_cV_0_I (c_X8_goOn (r := r5.1) (M1 := r5.2) hq) cv_X8_191 (by decide) (cel_63 _ _ _) rfl ⟨by decide, by decide⟩ (Nat.le_of_ble_eq_true rfl) dX8_layWays_52 ?_
  refine g_ist4 dX8_layWays_55 (by decide) lnl_i ?_
  refine g_goto (tgt := 29) dX8_layWays_57 (by decide) ?_
  exact hk29 hf
def b_X8_layWays_29   (x3 : Int32) : Nat → Int32 → Mem → Option Mem
  | 0, _, _ => none
  | n + 1, x4, M =>
    if x4 = 0 then (some M)
    else (ck (M.1 63 12) 7 <|
    if (M.1 71 (M.1 63 12).toNatClampNeg) = x3 then ((f_X8_judge M).bind fun r6 =>
    b_X8_layWays_51 (fun x4_ M_ => b_X8_layWays_29 x3 n x4_ M_) x3 r6)
    else (b_X8_layWays_51 (fun x4_ M_ => b_X8_layWays_29 x3 n x4_ M_) x3 M))
set_option maxHeartbeats 4000000 in
set_option maxRecDepth 100000 in
theorem w_X8_layWays_29 {X : Cx} {M1 : Mem}   {x3 : Int32}   (hr : X.meth.sig.returnType = none) : ∀ (n : Nat) {x4 : Int32} {M : Mem}, b_X8_layWays_29 x3 n x4 M = some M1 → G X (none, M1) RX8 cX8_layWays 5 6 136 29 [some (.ref (X.1.1 63)), none, none, some (.int x3), some (.int x4)] [] M := by
  intro n
  induction n with
  | zero => intro x4 M hf; cases hf
  | succ n ih =>
    intro x4 M hf
    rw [b_X8_layWays_29.eq_2] at hf
    refine g_iload dX8_layWays_29 rfl ?_
    refine g_if_eq (tgt := 60) dX8_layWays_31 (by decide) (fun hc => ?_) (fun hc => ?_)
    · have hf := ite_t hc hf
      exact g_vret_w hr hf dX8_layWays_60
    · have hf := ite_f hc hf
      refine g_aload_n dX8_layWays_34 rfl ?_
      refine g_get (kk := 63) (by decide) (cel_63 _ _ _) rfl inX8 fl_X8_37 (by decide) rfl dX8_layWays_35 ?_
      refine g_aload_n dX8_layWays_38 rfl ?_
      refine g_get (kk := 63) (by decide) (cel_63 _ _ _) rfl inX8 fl_X8_168 (by decide) rfl dX8_layWays_39 ?_
      obtain ⟨hi, hf⟩ := ck_s hf
      refine g_iaload (kk := 71) (by decide) (fun f g => cel_71 _ f g) hi rfl dX8_layWays_42 ?_
      refine g_iload_n dX8_layWays_43 rfl ?_
      refine g_icmp_ne (tgt := 51) dX8_layWays_44 (by decide) (fun hc => ?_) (fun hc => ?_)
      · have hf := ite_f hc hf
        exact g_weakr (w_X8_layWays_51 hr (fun hf => ih hf) hf) (lsk (lsd (lsd (lsk (lsd lsz)))))
      · have hf := ite_t hc hf
        refine g_aload_n dX8_layWays_47 rfl ?_
        obtain ⟨r6, hq, hf⟩ := bnd hf
        refine g_cV_0_V (c_X8_judge hq) cv_X8_188 (by decide) (cel_63 _ _ _) rfl ⟨by decide, by decide⟩ (Nat.le_of_ble_eq_true rfl) dX8_layWays_48 ?_
        exact g_weakr (w_X8_layWays_51 hr (fun hf => ih hf) hf) (lsk (lsd (lsd (lsk (lsd lsz)))))
def f_X8_layWays (x1 : Int32) (x2 : Int32) (x3 : Int32) (M : Mem) : Option Mem :=
  let M1 := mI M 63 14 (-1 : Int32)
  let M2 := mI M1 63 15 (0 : Int32)
  let M3 := mI M2 63 16 (0 : Int32)
  ck x1 20 <|
  (f_X8_beginWay (M3.2 66 x1.toNatClampNeg) x2 M3).bind fun r4 =>
  b_X8_layWays_29 x3 fu (1 : Int32) r4
set_option maxHeartbeats 4000000 in
set_option maxRecDepth 100000 in
theorem c_X8_layWays {l : Launch} {x1 : Int32} {x2 : Int32} {x3 : Int32} {M : Mem} {M1 : Mem} (hf : f_X8_layWays x1 x2 x3 M = some M1) : Cn l yX8_layWays cX8_layWays 5 none 6 136 (fun E => [.ref (E.1 63), .int x1, .int x2, .int x3]) M (none, M1) := by
  unfold f_X8_layWays at hf
  refine cn_of RX8 (fun E => [some (.ref (E.1 63)), some (.int x1), some (.int x2), some (.int x3), none]) (by decide +kernel) rfl (fun E => Nat.le_of_ble_eq_true rfl) (fun E => rfl) (fun X hr => ?_)
  refine g_aload_n dX8_layWays_0 rfl ?_
  refine g_iconst (v := (-1)) dX8_layWays_1 (by decide) ?_
  refine g_putI (kk := 63) (by decide) (cel_63 _ _ _) (pI_63_14 _ _ _ _) rfl inX8 tyX8_ok nmX8 fl_X8_178 (by decide) (Nat.le_of_ble_eq_true rfl) rfl (by decide +kernel) dX8_layWays_2 ?_
  refine g_aload_n dX8_layWays_5 rfl ?_
  refine g_iconst (v := 0) dX8_layWays_6 (by decide) ?_
  refine g_putI (kk := 63) (by decide) (cel_63 _ _ _) (pI_63_15 _ _ _ _) rfl inX8 tyX8_ok nmX8 fl_X8_181 (by decide) (Nat.le_of_ble_eq_true rfl) rfl (by decide +kernel) dX8_layWays_7 ?_
  refine g_aload_n dX8_layWays_10 rfl ?_
  refine g_iconst (v := 0) dX8_layWays_11 (by decide) ?_
  refine g_putI (kk := 63) (by decide) (cel_63 _ _ _) (pI_63_16 _ _ _ _) rfl inX8 tyX8_ok nmX8 fl_X8_175 (by decide) (Nat.le_of_ble_eq_true rfl) rfl (by decide +kernel) dX8_layWays_12 ?_
  refine g_aload_n dX8_layWays_15 rfl ?_
  refine g_aload_n dX8_layWays_16 rfl ?_
  refine g_get (kk := 63) (by decide) (cel_63 _ _ _) rfl inX8 fl_X8_16 (by decide) rfl dX8_layWays_17 ?_
  refine g_iload_n dX8_layWays_20 rfl ?_
  obtain ⟨hi, hf⟩ := ck_s hf
  refine g_laload (kk := 66) (by decide) (fun f g => cel_66 _ f g) hi rfl dX8_layWays_21 ?_
  refine g_iload_n dX8_layWays_22 rfl ?_
  obtain ⟨r4, hq, hf⟩ := bnd hf
  refine g_cV_JI_V (c_X8_beginWay hq) cv_X8_184 (by decide) (cel_63 _ _ _) rfl ⟨by decide, by decide⟩ (Nat.le_of_ble_eq_true rfl) dX8_layWays_23 ?_
  refine g_iconst (v := 1) dX8_layWays_26 (by decide) ?_
  refine g_ist4 dX8_layWays_27 (by decide) lnl_i ?_
  exact g_weakr (w_X8_layWays_29 hr fu hf) (lsk (lsd (lsd (lsk (lsk lsz)))))
-- X8_way
def f_X8_way (x1 : Int32) (x2 : Int32) (x3 : Int32) (x4 : Int32) (M : Mem) : Option (Int32 × Mem) :=
  if (f_X8_isRow x1) = 0 then ((f_X8_bad (-10 : Int32) M).bind fun r1 =>
  some (r1.1, r1.2))
  else (if (f_X8_isPlace x2) = 0 then ((f_X8_bad (-10 : Int32) M).bind fun r2 =>
  some (r2.1, r2.2))
  else (if (f_X8_isPlace x3) = 0 then ((f_X8_bad (-10 : Int32) M).bind fun r3 =>
  some (r3.1, r3.2))
  else (if (-1 : Int32) ≤ x4 then ((f_X8_layWays x1 x2 x3 M).bind fun r4 =>
  if (r4.1 63 14) = (-1 : Int32) then (some ((-1 : Int32), r4))
  else (if x4 = (-1 : Int32) then (some ((r4.1 63 15), r4))
  else (if (r4.1 63 14) ≤ x4 then (some ((-5 : Int32), r4))
  else (ck x4 6 <|
  some ((r4.1 74 x4.toNatClampNeg), r4)))))
  else ((f_X8_bad (-10 : Int32) M).bind fun r5 =>
  some (r5.1, r5.2)))))
set_option maxHeartbeats 4000000 in
set_option maxRecDepth 100000 in
theorem c_X8_way {l : Launch} {x1 : Int32} {x2 : Int32} {x3 : Int32} {x4 : Int32} {M : Mem} {r : Int32} {M1 : Mem} (hf : f_X8_way x1 x2 x3 x4 M = some (r, M1)) : Cn l yX8_way cX8_way 5 (some .int) 7 160 (fun E => [.ref (E.1 63), .int x1, .int x2, .int x3, .int x4]) M (some (.int r), M1) := by
  unfold f_X8_way at hf
  refine cn_of RX8 (fun E => [some (.ref (E.1 63)), some (.int x1), some (.int x2), some (.int x3), some (.int x4)]) (by decide +kernel) rfl (fun E => Nat.le_of_ble_eq_true rfl) (fun E => rfl) (fun X hr => ?_)
  refine g_iload_n dX8_way_0 rfl ?_
  refine g_cS_I_I (c_X8_isRow rfl) cs_X8_148 ⟨by decide, by decide⟩ (Nat.le_of_ble_eq_true rfl) dX8_way_1 ?_
  refine g_if_eq (tgt := 27) dX8_way_4 (by decide) (fun hc => ?_) (fun hc => ?_)
  · have hf := ite_t hc hf
    refine g_aload_n dX8_way_27 rfl ?_
    refine g_bipush (v := (-10)) dX8_way_28 (by decide) ?_
    obtain ⟨r1, hq, hf⟩ := bnd hf
    refine g_cV_I_I (c_X8_bad (r := r1.1) (M1 := r1.2) hq) cv_X8_116 (by decide) (cel_63 _ _ _) rfl ⟨by decide, by decide⟩ (Nat.le_of_ble_eq_true rfl) dX8_way_30 ?_
    exact g_iret_w hr hf dX8_way_33
  · have hf := ite_f hc hf
    refine g_iload_n dX8_way_7 rfl ?_
    refine g_cS_I_I (c_X8_isPlace rfl) cs_X8_124 ⟨by decide, by decide⟩ (Nat.le_of_ble_eq_true rfl) dX8_way_8 ?_
    refine g_if_eq (tgt := 27) dX8_way_11 (by decide) (fun hc => ?_) (fun hc => ?_)
    · have hf := ite_t hc hf
      refine g_aload_n dX8_way_27 rfl ?_
      refine g_bipush (v := (-10)) dX8_way_28 (by decide) ?_
      obtain ⟨r2, hq, hf⟩ := bnd hf
      refine g_cV_I_I (c_X8_bad (r := r2.1) (M1 := r2.2) hq) cv_X8_116 (by decide) (cel_63 _ _ _) rfl ⟨by decide, by decide⟩ (Nat.le_of_ble_eq_true rfl) dX8_way_30 ?_
      exact g_iret_w hr hf dX8_way_33
    · have hf := ite_f hc hf
      refine g_iload_n dX8_way_14 rfl ?_
      refine g_cS_I_I (c_X8_isPlace rfl) cs_X8_124 ⟨by decide, by decide⟩ (Nat.le_of_ble_eq_true rfl) dX8_way_15 ?_
      refine g_if_eq (tgt := 27) dX8_way_18 (by decide) (fun hc => ?_) (fun hc => ?_)
      · have hf := ite_t hc hf
        refine g_aload_n dX8_way_27 rfl ?_
        refine g_bipush (v := (-10)) dX8_way_28 (by decide) ?_
        obtain ⟨r3, hq, hf⟩ := bnd hf
        refine g_cV_I_I (c_X8_bad (r := r3.1) (M1 := r3.2) hq) cv_X8_116 (by decide) (cel_63 _ _ _) rfl ⟨by decide, by decide⟩ (Nat.le_of_ble_eq_true rfl) dX8_way_30 ?_
        exact g_iret_w hr hf dX8_way_33
      · have hf := ite_f hc hf
        refine g_iload dX8_way_21 rfl ?_
        refine g_iconst (v := (-1)) dX8_way_23 (by decide) ?_
        refine g_icmp_ge (tgt := 34) dX8_way_24 (by decide) (fun hc => ?_) (fun hc => ?_)
        · have hf := ite_t hc hf
          refine g_aload_n dX8_way_34 rfl ?_
          refine g_iload_n dX8_way_35 rfl ?_
          refine g_iload_n dX8_way_36 rfl ?_
          refine g_iload_n dX8_way_37 rfl ?_
          obtain ⟨r4, hq, hf⟩ := bnd hf
          refine g_cV_III_V (c_X8_layWays hq) cv_X8_195 (by decide) (cel_63 _ _ _) rfl ⟨by decide, by decide⟩ (Nat.le_of_ble_eq_true rfl) dX8_way_38 ?_
          refine g_aload_n dX8_way_41 rfl ?_
          refine g_get (kk := 63) (by decide) (cel_63 _ _ _) rfl inX8 fl_X8_178 (by decide) rfl dX8_way_42 ?_
          refine g_iconst (v := (-1)) dX8_way_45 (by decide) ?_
          refine g_icmp_ne (tgt := 53) dX8_way_46 (by decide) (fun hc => ?_) (fun hc => ?_)
          · have hf := ite_f hc hf
            refine g_iload dX8_way_53 rfl ?_
            refine g_iconst (v := (-1)) dX8_way_55 (by decide) ?_
            refine g_icmp_ne (tgt := 66) dX8_way_56 (by decide) (fun hc => ?_) (fun hc => ?_)
            · have hf := ite_f hc hf
              refine g_iload dX8_way_66 rfl ?_
              refine g_aload_n dX8_way_68 rfl ?_
              refine g_get (kk := 63) (by decide) (cel_63 _ _ _) rfl inX8 fl_X8_178 (by decide) rfl dX8_way_69 ?_
              refine g_icmp_ge (tgt := 85) dX8_way_72 (by decide) (fun hc => ?_) (fun hc => ?_)
              · have hf := ite_t hc hf
                refine g_bipush (v := (-5)) dX8_way_85 (by decide) ?_
                exact g_iret_w hr hf dX8_way_87
              · have hf := ite_f hc hf
                refine g_aload_n dX8_way_75 rfl ?_
                refine g_get (kk := 63) (by decide) (cel_63 _ _ _) rfl inX8 fl_X8_46 (by decide) rfl dX8_way_76 ?_
                refine g_iload dX8_way_79 rfl ?_
                obtain ⟨hi, hf⟩ := ck_s hf
                refine g_iaload (kk := 74) (by decide) (fun f g => cel_74 _ f g) hi rfl dX8_way_81 ?_
                refine g_goto (tgt := 87) dX8_way_82 (by decide) ?_
                exact g_iret_w hr hf dX8_way_87
            · have hf := ite_t hc hf
              refine g_aload_n dX8_way_59 rfl ?_
              refine g_get (kk := 63) (by decide) (cel_63 _ _ _) rfl inX8 fl_X8_181 (by decide) rfl dX8_way_60 ?_
              refine g_goto (tgt := 87) dX8_way_63 (by decide) ?_
              exact g_iret_w hr hf dX8_way_87
          · have hf := ite_t hc hf
            refine g_iconst (v := (-1)) dX8_way_49 (by decide) ?_
            refine g_goto (tgt := 87) dX8_way_50 (by decide) ?_
            exact g_iret_w hr hf dX8_way_87
        · have hf := ite_f hc hf
          refine g_aload_n dX8_way_27 rfl ?_
          refine g_bipush (v := (-10)) dX8_way_28 (by decide) ?_
          obtain ⟨r5, hq, hf⟩ := bnd hf
          refine g_cV_I_I (c_X8_bad (r := r5.1) (M1 := r5.2) hq) cv_X8_116 (by decide) (cel_63 _ _ _) rfl ⟨by decide, by decide⟩ (Nat.le_of_ble_eq_true rfl) dX8_way_30 ?_
          exact g_iret_w hr hf dX8_way_33
-- X8_ways
def f_X8_ways (x1 : Int32) (x2 : Int32) (x3 : Int32) (x4 : Int32) (M : Mem) : Option (Int32 × Mem) :=
  if (f_X8_isRow x1) = 0 then ((f_X8_bad (-2 : Int32) M).bind fun r1 =>
  some (r1.1, r1.2))
  else (if (f_X8_isPlace x2) = 0 then ((f_X8_bad (-2 : Int32) M).bind fun r2 =>
  some (r2.1, r2.2))
  else (if (f_X8_isPlace x3) = 0 then ((f_X8_bad (-2 : Int32) M).bind fun r3 =>
  some (r3.1, r3.2))
  else (if (f_X8_in x4.toInt64 (0 : Int64) (1 : Int64)) = 0 then ((f_X8_bad (-2 : Int32) M).bind fun r5 =>
  some (r5.1, r5.2))
  else ((f_X8_layWays x1 x2 x3 M).bind fun r4 =>
  if x4 = 0 then (some ((r4.1 63 16), r4))
  else (some ((r4.1 63 14), r4))))))
set_option maxHeartbeats 4000000 in
set_option maxRecDepth 100000 in
theorem c_X8_ways {l : Launch} {x1 : Int32} {x2 : Int32} {x3 : Int32} {x4 : Int32} {M : Mem} {r : Int32} {M1 : Mem} (hf : f_X8_ways x1 x2 x3 x4 M = some (r, M1)) : Cn l yX8_ways cX8_ways 5 (some .int) 7 160 (fun E => [.ref (E.1 63), .int x1, .int x2, .int x3, .int x4]) M (some (.int r), M1) := by
  unfold f_X8_ways at hf
  refine cn_of RX8 (fun E => [some (.ref (E.1 63)), some (.int x1), some (.int x2), some (.int x3), some (.int x4)]) (by decide +kernel) rfl (fun E => Nat.le_of_ble_eq_true rfl) (fun E => rfl) (fun X hr => ?_)
  refine g_iload_n dX8_ways_0 rfl ?_
  refine g_cS_I_I (c_X8_isRow rfl) cs_X8_148 ⟨by decide, by decide⟩ (Nat.le_of_ble_eq_true rfl) dX8_ways_1 ?_
  refine g_if_eq (tgt := 32) dX8_ways_4 (by decide) (fun hc => ?_) (fun hc => ?_)
  · have hf := ite_t hc hf
    refine g_aload_n dX8_ways_32 rfl ?_
    refine g_bipush (v := (-2)) dX8_ways_33 (by decide) ?_
    obtain ⟨r1, hq, hf⟩ := bnd hf
    refine g_cV_I_I (c_X8_bad (r := r1.1) (M1 := r1.2) hq) cv_X8_116 (by decide) (cel_63 _ _ _) rfl ⟨by decide, by decide⟩ (Nat.le_of_ble_eq_true rfl) dX8_ways_35 ?_
    exact g_iret_w hr hf dX8_ways_38
  · have hf := ite_f hc hf
    refine g_iload_n dX8_ways_7 rfl ?_
    refine g_cS_I_I (c_X8_isPlace rfl) cs_X8_124 ⟨by decide, by decide⟩ (Nat.le_of_ble_eq_true rfl) dX8_ways_8 ?_
    refine g_if_eq (tgt := 32) dX8_ways_11 (by decide) (fun hc => ?_) (fun hc => ?_)
    · have hf := ite_t hc hf
      refine g_aload_n dX8_ways_32 rfl ?_
      refine g_bipush (v := (-2)) dX8_ways_33 (by decide) ?_
      obtain ⟨r2, hq, hf⟩ := bnd hf
      refine g_cV_I_I (c_X8_bad (r := r2.1) (M1 := r2.2) hq) cv_X8_116 (by decide) (cel_63 _ _ _) rfl ⟨by decide, by decide⟩ (Nat.le_of_ble_eq_true rfl) dX8_ways_35 ?_
      exact g_iret_w hr hf dX8_ways_38
    · have hf := ite_f hc hf
      refine g_iload_n dX8_ways_14 rfl ?_
      refine g_cS_I_I (c_X8_isPlace rfl) cs_X8_124 ⟨by decide, by decide⟩ (Nat.le_of_ble_eq_true rfl) dX8_ways_15 ?_
      refine g_if_eq (tgt := 32) dX8_ways_18 (by decide) (fun hc => ?_) (fun hc => ?_)
      · have hf := ite_t hc hf
        refine g_aload_n dX8_ways_32 rfl ?_
        refine g_bipush (v := (-2)) dX8_ways_33 (by decide) ?_
        obtain ⟨r3, hq, hf⟩ := bnd hf
        refine g_cV_I_I (c_X8_bad (r := r3.1) (M1 := r3.2) hq) cv_X8_116 (by decide) (cel_63 _ _ _) rfl ⟨by decide, by decide⟩ (Nat.le_of_ble_eq_true rfl) dX8_ways_35 ?_
        exact g_iret_w hr hf dX8_ways_38
      · have hf := ite_f hc hf
        refine g_iload dX8_ways_21 rfl ?_
        refine g_i2l dX8_ways_23 ?_
        refine g_lconst (v := 0) dX8_ways_24 (by decide) ?_
        refine g_lconst (v := 1) dX8_ways_25 (by decide) ?_
        refine g_cS_JJJ_I (c_X8_in rfl) cs_X8_106 ⟨by decide, by decide⟩ (Nat.le_of_ble_eq_true rfl) dX8_ways_26 ?_
        refine g_if_ne (tgt := 39) dX8_ways_29 (by decide) (fun hc => ?_) (fun hc => ?_)
        · have hf := ite_f hc hf
          refine g_aload_n dX8_ways_39 rfl ?_
          refine g_iload_n dX8_ways_40 rfl ?_
          refine g_iload_n dX8_ways_41 rfl ?_
          refine g_iload_n dX8_ways_42 rfl ?_
          obtain ⟨r4, hq, hf⟩ := bnd hf
          refine g_cV_III_V (c_X8_layWays hq) cv_X8_195 (by decide) (cel_63 _ _ _) rfl ⟨by decide, by decide⟩ (Nat.le_of_ble_eq_true rfl) dX8_ways_43 ?_
          refine g_iload dX8_ways_46 rfl ?_
          refine g_if_ne (tgt := 58) dX8_ways_48 (by decide) (fun hc => ?_) (fun hc => ?_)
          · have hf := ite_f hc hf
            refine g_aload_n dX8_ways_58 rfl ?_
            refine g_get (kk := 63) (by decide) (cel_63 _ _ _) rfl inX8 fl_X8_178 (by decide) rfl dX8_ways_59 ?_
            exact g_iret_w hr hf dX8_ways_62
          · have hf := ite_t hc hf
            refine g_aload_n dX8_ways_51 rfl ?_
            refine g_get (kk := 63) (by decide) (cel_63 _ _ _) rfl inX8 fl_X8_175 (by decide) rfl dX8_ways_52 ?_
            refine g_goto (tgt := 62) dX8_ways_55 (by decide) ?_
            exact g_iret_w hr hf dX8_ways_62
        · have hf := ite_t hc hf
          refine g_aload_n dX8_ways_32 rfl ?_
          refine g_bipush (v := (-2)) dX8_ways_33 (by decide) ?_
          obtain ⟨r5, hq, hf⟩ := bnd hf
          refine g_cV_I_I (c_X8_bad (r := r5.1) (M1 := r5.2) hq) cv_X8_116 (by decide) (cel_63 _ _ _) rfl ⟨by decide, by decide⟩ (Nat.le_of_ble_eq_true rfl) dX8_ways_35 ?_
          exact g_iret_w hr hf dX8_ways_38
-- X8_has
def b_X8_has_86 (k6 : Int32 → Int32 → Option Int32)  (x0 : Int64) (x2 : Int64) (x5 : Int32) (t0 : Int32) : Option Int32 :=
  k6 t0 (x5 + (1 : Int32))
set_option maxHeartbeats 4000000 in
set_option maxRecDepth 100000 in
theorem w_X8_has_86 {X : Cx} {r : Int32} {M : Mem} {k6 : Int32 → Int32 → Option Int32} {x0 : Int64} {x2 : Int64}   {x5 : Int32} {t0 : Int32} (hr : X.meth.sig.returnType = (some .boolean)) (hk6 : ∀ {x4_ : Int32} {x5_ : Int32}, k6 x4_ x5_ = some r → G X (some (.int r), M) RX8 cX8_has 8 1 22 6 [some (.long x0), none, some (.long x2), none, some (.int x4_), some (.int x5_), none, none] [] M) (hf : b_X8_has_86 k6 x0 x2 x5 t0 = some r) : G X (some (.int r), M) RX8 cX8_has 8 1 22 86 [some (.long x0), none, some (.long x2), none, none, some (.int x5), none, none] [.int t0] M := by
  unfold b_X8_has_86 at hf
  refine g_ist4 dX8_has_86 (by decide) lnl_n ?_
  refine g_iinc5 (v := (x5 + (1 : Int32))) dX8_has_88 (by decide) lnl_i rfl ?_
  refine g_goto (tgt := 6) dX8_has_91 (by decide) ?_
  exact hk6 hf
def b_X8_has_71 (k6 : Int32 → Int32 → Option Int32)  (x0 : Int64) (x2 : Int64) (x4 : Int32) (x5 : Int32) (x6 : Int32) : Option Int32 :=
  if x4 = 0 then (if x6 = 0 then (b_X8_has_86 k6 x0 x2 x5 (0 : Int32))
  else (b_X8_has_86 k6 x0 x2 x5 (1 : Int32)))
  else (b_X8_has_86 k6 x0 x2 x5 (1 : Int32))
set_option maxHeartbeats 4000000 in
set_option maxRecDepth 100000 in
theorem w_X8_has_71 {X : Cx} {r : Int32} {M : Mem} {k6 : Int32 → Int32 → Option Int32} {x0 : Int64} {x2 : Int64}   {x4 : Int32} {x5 : Int32} {x6 : Int32} (hr : X.meth.sig.returnType = (some .boolean)) (hk6 : ∀ {x4_ : Int32} {x5_ : Int32}, k6 x4_ x5_ = some r → G X (some (.int r), M) RX8 cX8_has 8 1 22 6 [some (.long x0), none, some (.long x2), none, some (.int x4_), some (.int x5_), none, none] [] M) (hf : b_X8_has_71 k6 x0 x2 x4 x5 x6 = some r) : G X (some (.int r), M) RX8 cX8_has 8 1 22 71 [some (.long x0), none, some (.long x2), none, some (.int x4), some (.int x5), some (.int x6), none] [] M := by
  unfold b_X8_has_71 at hf
  refine g_iload dX8_has_71 rfl ?_
  refine g_if_ne (tgt := 81) dX8_has_73 (by decide) (fun hc => ?_) (fun hc => ?_)
  · have hf := ite_f hc hf
    refine g_iconst (v := 1) dX8_has_81 (by decide) ?_
    refine g_goto (tgt := 86) dX8_has_82 (by decide) ?_
    exact g_weakr (w_X8_has_86 hr hk6 hf) (lsk (lsd (lsk (lsd (lsd (lsk (lsd (lsd lsz))))))))
  · have hf := ite_t hc hf
    refine g_iload dX8_has_76 rfl ?_
    refine g_if_eq (tgt := 85) dX8_has_78 (by decide) (fun hc => ?_) (fun hc => ?_)
    · have hf := ite_t hc hf
      refine g_iconst (v := 0) dX8_has_85 (by decide) ?_
      exact g_weakr (w_X8_has_86 hr hk6 hf) (lsk (lsd (lsk (lsd (lsd (lsk (lsd (lsd lsz))))))))
    · have hf := ite_f hc hf
      refine g_iconst (v := 1) dX8_has_81 (by decide) ?_
      refine g_goto (tgt := 86) dX8_has_82 (by decide) ?_
      exact g_weakr (w_X8_has_86 hr hk6 hf) (lsk (lsd (lsk (lsd (lsd (lsk (lsd (lsd lsz))))))))
def b_X8_has_63 (k26 : Int32 → Int32 → Option Int32)  (x0 : Int64) (x2 : Int64) (x4 : Int32) (x5 : Int32) (x7 : Int32) (t0 : Int32) : Option Int32 :=
  k26 t0 (x7 + (1 : Int32))
set_option maxHeartbeats 4000000 in
set_option maxRecDepth 100000 in
theorem w_X8_has_63 {X : Cx} {r : Int32} {M : Mem} {k26 : Int32 → Int32 → Option Int32} {x0 : Int64} {x2 : Int64} {x4 : Int32} {x5 : Int32}   {x7 : Int32} {t0 : Int32} (hr : X.meth.sig.returnType = (some .boolean)) (hk26 : ∀ {x6_ : Int32} {x7_ : Int32}, k26 x6_ x7_ = some r → G X (some (.int r), M) RX8 cX8_has 8 1 22 26 [some (.long x0), none, some (.long x2), none, some (.int x4), some (.int x5), some (.int x6_), some (.int x7_)] [] M) (hf : b_X8_has_63 k26 x0 x2 x4 x5 x7 t0 = some r) : G X (some (.int r), M) RX8 cX8_has 8 1 22 63 [some (.long x0), none, some (.long x2), none, some (.int x4), some (.int x5), none, some (.int x7)] [.int t0] M := by
  unfold b_X8_has_63 at hf
  refine g_ist6 dX8_has_63 (by decide) lnl_i ?_
  refine g_iinc7 (v := (x7 + (1 : Int32))) dX8_has_65 (by decide) lnl_i rfl ?_
  refine g_goto (tgt := 26) dX8_has_68 (by decide) ?_
  exact hk26 hf
def b_X8_has_26 (k6 : Int32 → Int32 → Option Int32)  (x0 : Int64) (x2 : Int64) (x4 : Int32) (x5 : Int32) : Nat → Int32 → Int32 → Option Int32
  | 0, _, _ => none
  | n + 1, x6, x7 =>
    if (f_X8_many x2) ≤ x7 then (b_X8_has_71 k6 x0 x2 x4 x5 x6)
    else (if x6 = 0 then (b_X8_has_63 (fun x6_ x7_ => b_X8_has_26 k6 x0 x2 x4 x5 n x6_ x7_) x0 x2 x4 x5 x7 (0 : Int32))
    else (if (f_X8_syllable x0 (x5 + x7)) = (f_X8_syllable x2 x7) then (b_X8_has_63 (fun x6_ x7_ => b_X8_has_26 k6 x0 x2 x4 x5 n x6_ x7_) x0 x2 x4 x5 x7 (1 : Int32))
    else (b_X8_has_63 (fun x6_ x7_ => b_X8_has_26 k6 x0 x2 x4 x5 n x6_ x7_) x0 x2 x4 x5 x7 (0 : Int32))))
set_option maxHeartbeats 4000000 in
set_option maxRecDepth 100000 in
theorem w_X8_has_26 {X : Cx} {r : Int32} {M : Mem} {k6 : Int32 → Int32 → Option Int32} {x0 : Int64} {x2 : Int64} {x4 : Int32} {x5 : Int32}   (hr : X.meth.sig.returnType = (some .boolean)) (hk6 : ∀ {x4_ : Int32} {x5_ : Int32}, k6 x4_ x5_ = some r → G X (some (.int r), M) RX8 cX8_has 8 1 22 6 [some (.long x0), none, some (.long x2), none, some (.int x4_), some (.int x5_), none, none] [] M) : ∀ (n : Nat) {x6 : Int32} {x7 : Int32}, b_X8_has_26 k6 x0 x2 x4 x5 n x6 x7 = some r → G X (some (.int r), M) RX8 cX8_has 8 1 22 26 [some (.long x0), none, some (.long x2), none, some (.int x4), some (.int x5), some (.int x6), some (.int x7)] [] M := by
  intro n
  induction n with
  | zero => intro x6 x7 hf; cases hf
  | succ n ih =>
    intro x6 x7 hf
    rw [b_X8_has_26.eq_2] at hf
    refine g_iload dX8_has_26 rfl ?_
    refine g_lload_n dX8_has_28 rfl ?_
    refine g_cS_J_I (c_X8_many rfl) cs_X8_71 ⟨by decide, by decide⟩ (Nat.le_of_ble_eq_true rfl) dX8_has_29 ?_
    refine g_icmp_ge (tgt := 71) dX8_has_32 (by decide) (fun hc => ?_) (fun hc => ?_)
    · have hf := ite_t hc hf
      exact g_weakr (w_X8_has_71 hr hk6 hf) (lsk (lsd (lsk (lsd (lsk (lsk (lsk (lsd lsz))))))))
    · have hf := ite_f hc hf
      refine g_iload dX8_has_35 rfl ?_
      refine g_if_eq (tgt := 62) dX8_has_37 (by decide) (fun hc => ?_) (fun hc => ?_)
      · have hf := ite_t hc hf
        refine g_iconst (v := 0) dX8_has_62 (by decide) ?_
        exact g_weakr (w_X8_has_63 hr (fun hf => ih hf) hf) (lsk (lsd (lsk (lsd (lsk (lsk (lsd (lsk lsz))))))))
      · have hf := ite_f hc hf
        refine g_lload_n dX8_has_40 rfl ?_
        refine g_iload dX8_has_41 rfl ?_
        refine g_iload dX8_has_43 rfl ?_
        refine g_iadd dX8_has_45 ?_
        refine g_cS_JI_I (c_X8_syllable rfl) cs_X8_82 ⟨by decide, by decide⟩ (Nat.le_of_ble_eq_true rfl) dX8_has_46 ?_
        refine g_lload_n dX8_has_49 rfl ?_
        refine g_iload dX8_has_50 rfl ?_
        refine g_cS_JI_I (c_X8_syllable rfl) cs_X8_82 ⟨by decide, by decide⟩ (Nat.le_of_ble_eq_true rfl) dX8_has_52 ?_
        refine g_icmp_ne (tgt := 62) dX8_has_55 (by decide) (fun hc => ?_) (fun hc => ?_)
        · have hf := ite_f hc hf
          refine g_iconst (v := 0) dX8_has_62 (by decide) ?_
          exact g_weakr (w_X8_has_63 hr (fun hf => ih hf) hf) (lsk (lsd (lsk (lsd (lsk (lsk (lsd (lsk lsz))))))))
        · have hf := ite_t hc hf
          refine g_iconst (v := 1) dX8_has_58 (by decide) ?_
          refine g_goto (tgt := 63) dX8_has_59 (by decide) ?_
          exact g_weakr (w_X8_has_63 hr (fun hf => ih hf) hf) (lsk (lsd (lsk (lsd (lsk (lsk (lsd (lsk lsz))))))))
def b_X8_has_6   (x0 : Int64) (x2 : Int64) : Nat → Int32 → Int32 → Option Int32
  | 0, _, _ => none
  | n + 1, x4, x5 =>
    if (f_X8_many x0) < (x5 + (f_X8_many x2)) then (ckB x4 (some x4))
    else (b_X8_has_26 (fun x4_ x5_ => b_X8_has_6 x0 x2 n x4_ x5_) x0 x2 x4 x5 fu (1 : Int32) (0 : Int32))
set_option maxHeartbeats 4000000 in
set_option maxRecDepth 100000 in
theorem w_X8_has_6 {X : Cx} {r : Int32} {M : Mem}  {x0 : Int64} {x2 : Int64}   (hr : X.meth.sig.returnType = (some .boolean)) : ∀ (n : Nat) {x4 : Int32} {x5 : Int32}, b_X8_has_6 x0 x2 n x4 x5 = some r → G X (some (.int r), M) RX8 cX8_has 8 1 22 6 [some (.long x0), none, some (.long x2), none, some (.int x4), some (.int x5), none, none] [] M := by
  intro n
  induction n with
  | zero => intro x4 x5 hf; cases hf
  | succ n ih =>
    intro x4 x5 hf
    rw [b_X8_has_6.eq_2] at hf
    refine g_iload dX8_has_6 rfl ?_
    refine g_lload_n dX8_has_8 rfl ?_
    refine g_cS_J_I (c_X8_many rfl) cs_X8_71 ⟨by decide, by decide⟩ (Nat.le_of_ble_eq_true rfl) dX8_has_9 ?_
    refine g_iadd dX8_has_12 ?_
    refine g_lload_n dX8_has_13 rfl ?_
    refine g_cS_J_I (c_X8_many rfl) cs_X8_71 ⟨by decide, by decide⟩ (Nat.le_of_ble_eq_true rfl) dX8_has_14 ?_
    refine g_icmp_gt (tgt := 94) dX8_has_17 (by decide) (fun hc => ?_) (fun hc => ?_)
    · have hf := ite_t hc hf
      refine g_iload dX8_has_94 rfl ?_
      obtain ⟨hz, hf⟩ := ckB_s hf
      exact g_zret_p hr hz hf dX8_has_96
    · have hf := ite_f hc hf
      refine g_iconst (v := 1) dX8_has_20 (by decide) ?_
      refine g_ist6 dX8_has_21 (by decide) lnl_i ?_
      refine g_iconst (v := 0) dX8_has_23 (by decide) ?_
      refine g_ist7 dX8_has_24 (by decide) lnl_i ?_
      exact w_X8_has_26 hr (fun hf => ih hf) fu hf
def f_X8_has (x0 : Int64) (x2 : Int64) : Option Int32 :=
  b_X8_has_6 x0 x2 fu (0 : Int32) (0 : Int32)
set_option maxHeartbeats 4000000 in
set_option maxRecDepth 100000 in
theorem c_X8_has {l : Launch} {x0 : Int64} {x2 : Int64} {M : Mem} {r : Int32} (hf : f_X8_has x0 x2 = some r) : Cn l yX8_has cX8_has 8 (some .boolean) 1 22 (fun E => [.long x0, .long x2]) M (some (.int r), M) := by
  unfold f_X8_has at hf
  refine cn_of RX8 (fun E => [some (.long x0), none, some (.long x2), none, none, none, none, none]) (by decide +kernel) rfl (fun E => Nat.le_of_ble_eq_true rfl) (fun E => rfl) (fun X hr => ?_)
  refine g_iconst (v := 0) dX8_has_0 (by decide) ?_
  refine g_ist4 dX8_has_1 (by decide) lnl_n ?_
  refine g_iconst (v := 0) dX8_has_3 (by decide) ?_
  refine g_ist5 dX8_has_4 (by decide) lnl_i ?_
  exact w_X8_has_6 hr fu hf
-- X8_curse
def b_X8_curse_105 (k107 : Int32 → Mem → Option (Int32 × Mem))  (x2 : Int32) (x4 : Int32) (M : Mem) : Option (Int32 × Mem) :=
  k107 x4 M
set_option maxHeartbeats 4000000 in
set_option maxRecDepth 100000 in
theorem w_X8_curse_105 {X : Cx} {r : Int32} {M1 : Mem}  {k107 : Int32 → Mem → Option (Int32 × Mem)} {x2 : Int32}   {x4 : Int32} {M : Mem} (hr : X.meth.sig.returnType = (some .int)) (hk107 : ∀ {t0_ : Int32} {M_ : Mem}, k107 t0_ M_ = some (r, M1) → G X (some (.int r), M1) RX8 cX8_curse 7 6 136 107 [some (.ref (X.1.1 63)), none, some (.int x2), none, none, none, none] [.int t0_] M_) (hf : b_X8_curse_105 k107 x2 x4 M = some (r, M1)) : G X (some (.int r), M1) RX8 cX8_curse 7 6 136 105 [some (.ref (X.1.1 63)), none, some (.int x2), none, some (.int x4), none, none] [] M := by
  unfold b_X8_curse_105 at hf
  refine g_iload dX8_curse_105 rfl ?_
  exact g_weakr (hk107 hf) (lsk (lsd (lsk (lsd (lsd (lsd (lsd lsz)))))))
def b_X8_curse_107 (k45 : Int32 → Int32 → Mem → Option (Int32 × Mem))  (x2 : Int32) (t0 : Int32) (M : Mem) : Option (Int32 × Mem) :=
  (f_X8_goOn M).bind fun r4 =>
  k45 t0 r4.1 r4.2
set_option maxHeartbeats 4000000 in
set_option maxRecDepth 100000 in
theorem w_X8_curse_107 {X : Cx} {r : Int32} {M1 : Mem}  {k45 : Int32 → Int32 → Mem → Option (Int32 × Mem)} {x2 : Int32}   {t0 : Int32} {M : Mem} (hr : X.meth.sig.returnType = (some .int)) (hk45 : ∀ {x4_ : Int32} {x5_ : Int32} {M_ : Mem}, k45 x4_ x5_ M_ = some (r, M1) → G X (some (.int r), M1) RX8 cX8_curse 7 6 136 45 [some (.ref (X.1.1 63)), none, some (.int x2), none, some (.int x4_), some (.int x5_), none] [] M_) (hf : b_X8_curse_107 k45 x2 t0 M = some (r, M1)) : G X (some (.int r), M1) RX8 cX8_curse 7 6 136 107 [some (.ref (X.1.1 63)), none, some (.int x2), none, none, none, none] [.int t0] M := by
  unfold b_X8_curse_107 at hf
  refine g_ist4 dX8_curse_107 (by decide) lnl_n ?_
  refine g_aload_n dX8_curse_109 rfl ?_
  obtain ⟨r4, hq, hf⟩ := bnd hf
  refine g_cV_0_I (c_X8_goOn (r := r4.1) (M1 := r4.2) hq) cv_X8_191 (by decide) (cel_63 _ _ _) rfl ⟨by decide, by decide⟩ (Nat.le_of_ble_eq_true rfl) dX8_curse_110 ?_
  refine g_ist5 dX8_curse_113 (by decide) lnl_i ?_
  refine g_goto (tgt := 45) dX8_curse_115 (by decide) ?_
  exact hk45 hf
def b_X8_curse_70 (k45 : Int32 → Int32 → Mem → Option (Int32 × Mem))  (x2 : Int32) (x4 : Int32) (t0 : Int32) (M : Mem) : Option (Int32 × Mem) :=
  if t0 = 0 then (b_X8_curse_105 (fun t0_ M_ => b_X8_curse_107 k45 x2 t0_ M_) x2 x4 M)
  else (ck (M.1 63 12) 7 <|
  ck x2 20 <|
  (f_X8_has (M.2 72 (M.1 63 12).toNatClampNeg) (M.2 66 x2.toNatClampNeg)).bind fun r5 =>
  if r5 = 0 then (b_X8_curse_105 (fun t0_ M_ => b_X8_curse_107 k45 x2 t0_ M_) x2 x4 M)
  else (b_X8_curse_107 k45 x2 (M.1 63 12) M))
set_option maxHeartbeats 4000000 in
set_option maxRecDepth 100000 in
theorem w_X8_curse_70 {X : Cx} {r : Int32} {M1 : Mem}  {k45 : Int32 → Int32 → Mem → Option (Int32 × Mem)} {x2 : Int32}   {x4 : Int32} {t0 : Int32} {M : Mem} (hr : X.meth.sig.returnType = (some .int)) (hk45 : ∀ {x4_ : Int32} {x5_ : Int32} {M_ : Mem}, k45 x4_ x5_ M_ = some (r, M1) → G X (some (.int r), M1) RX8 cX8_curse 7 6 136 45 [some (.ref (X.1.1 63)), none, some (.int x2), none, some (.int x4_), some (.int x5_), none] [] M_) (hf : b_X8_curse_70 k45 x2 x4 t0 M = some (r, M1)) : G X (some (.int r), M1) RX8 cX8_curse 7 6 136 70 [some (.ref (X.1.1 63)), none, some (.int x2), none, some (.int x4), none, none] [.int t0] M := by
  unfold b_X8_curse_70 at hf
  refine g_ist6 dX8_curse_70 (by decide) lnl_n ?_
  refine g_iload dX8_curse_72 rfl ?_
  refine g_if_eq (tgt := 105) dX8_curse_74 (by decide) (fun hc => ?_) (fun hc => ?_)
  · have hf := ite_t hc hf
    exact g_weakr (w_X8_curse_105 hr (fun hf => w_X8_curse_107 hr hk45 hf) hf) (lsk (lsd (lsk (lsd (lsk (lsd (lsd lsz)))))))
  · have hf := ite_f hc hf
    refine g_aload_n dX8_curse_77 rfl ?_
    refine g_get (kk := 63) (by decide) (cel_63 _ _ _) rfl inX8 fl_X8_40 (by decide) rfl dX8_curse_78 ?_
    refine g_aload_n dX8_curse_81 rfl ?_
    refine g_get (kk := 63) (by decide) (cel_63 _ _ _) rfl inX8 fl_X8_168 (by decide) rfl dX8_curse_82 ?_
    obtain ⟨hi, hf⟩ := ck_s hf
    refine g_laload (kk := 72) (by decide) (fun f g => cel_72 _ f g) hi rfl dX8_curse_85 ?_
    refine g_aload_n dX8_curse_86 rfl ?_
    refine g_get (kk := 63) (by decide) (cel_63 _ _ _) rfl inX8 fl_X8_16 (by decide) rfl dX8_curse_87 ?_
    refine g_iload_n dX8_curse_90 rfl ?_
    obtain ⟨hi, hf⟩ := ck_s hf
    refine g_laload (kk := 66) (by decide) (fun f g => cel_66 _ f g) hi rfl dX8_curse_91 ?_
    obtain ⟨r5, hq, hf⟩ := bnd hf
    refine g_cS_JJ_I (c_X8_has hq) cs_X8_199 ⟨by decide, by decide⟩ (Nat.le_of_ble_eq_true rfl) dX8_curse_92 ?_
    refine g_if_eq (tgt := 105) dX8_curse_95 (by decide) (fun hc => ?_) (fun hc => ?_)
    · have hf := ite_t hc hf
      exact g_weakr (w_X8_curse_105 hr (fun hf => w_X8_curse_107 hr hk45 hf) hf) (lsk (lsd (lsk (lsd (lsk (lsd (lsd lsz)))))))
    · have hf := ite_f hc hf
      refine g_aload_n dX8_curse_98 rfl ?_
      refine g_get (kk := 63) (by decide) (cel_63 _ _ _) rfl inX8 fl_X8_168 (by decide) rfl dX8_curse_99 ?_
      refine g_goto (tgt := 107) dX8_curse_102 (by decide) ?_
      exact g_weakr (w_X8_curse_107 hr hk45 hf) (lsk (lsd (lsk (lsd (lsd (lsd (lsd lsz)))))))
def b_X8_curse_45   (x2 : Int32) : Nat → Int32 → Int32 → Mem → Option (Int32 × Mem)
  | 0, _, _, _ => none
  | n + 1, x4, x5, M =>
    if x5 = 0 then (some (x4, M))
    else (if x4 = (-1 : Int32) then (b_X8_curse_70 (fun x4_ x5_ M_ => b_X8_curse_45 x2 n x4_ x5_ M_) x2 x4 (1 : Int32) M)
    else (if x4 ≤ (M.1 63 12) then (b_X8_curse_70 (fun x4_ x5_ M_ => b_X8_curse_45 x2 n x4_ x5_ M_) x2 x4 (0 : Int32) M)
    else (b_X8_curse_70 (fun x4_ x5_ M_ => b_X8_curse_45 x2 n x4_ x5_ M_) x2 x4 (1 : Int32) M)))
set_option maxHeartbeats 4000000 in
set_option maxRecDepth 100000 in
theorem w_X8_curse_45 {X : Cx} {r : Int32} {M1 : Mem}   {x2 : Int32}   (hr : X.meth.sig.returnType = (some .int)) : ∀ (n : Nat) {x4 : Int32} {x5 : Int32} {M : Mem}, b_X8_curse_45 x2 n x4 x5 M = some (r, M1) → G X (some (.int r), M1) RX8 cX8_curse 7 6 136 45 [some (.ref (X.1.1 63)), none, some (.int x2), none, some (.int x4), some (.int x5), none] [] M := by
  intro n
  induction n with
  | zero => intro x4 x5 M hf; cases hf
  | succ n ih =>
    intro x4 x5 M hf
    rw [b_X8_curse_45.eq_2] at hf
    refine g_iload dX8_curse_45 rfl ?_
    refine g_if_eq (tgt := 118) dX8_curse_47 (by decide) (fun hc => ?_) (fun hc => ?_)
    · have hf := ite_t hc hf
      refine g_iload dX8_curse_118 rfl ?_
      exact g_iret_w hr hf dX8_curse_120
    · have hf := ite_f hc hf
      refine g_iload dX8_curse_50 rfl ?_
      refine g_iconst (v := (-1)) dX8_curse_52 (by decide) ?_
      refine g_icmp_eq (tgt := 65) dX8_curse_53 (by decide) (fun hc => ?_) (fun hc => ?_)
      · have hf := ite_t hc hf
        refine g_iconst (v := 1) dX8_curse_65 (by decide) ?_
        refine g_goto (tgt := 70) dX8_curse_66 (by decide) ?_
        exact g_weakr (w_X8_curse_70 hr (fun hf => ih hf) hf) (lsk (lsd (lsk (lsd (lsk (lsd (lsd lsz)))))))
      · have hf := ite_f hc hf
        refine g_aload_n dX8_curse_56 rfl ?_
        refine g_get (kk := 63) (by decide) (cel_63 _ _ _) rfl inX8 fl_X8_168 (by decide) rfl dX8_curse_57 ?_
        refine g_iload dX8_curse_60 rfl ?_
        refine g_icmp_ge (tgt := 69) dX8_curse_62 (by decide) (fun hc => ?_) (fun hc => ?_)
        · have hf := ite_t hc hf
          refine g_iconst (v := 0) dX8_curse_69 (by decide) ?_
          exact g_weakr (w_X8_curse_70 hr (fun hf => ih hf) hf) (lsk (lsd (lsk (lsd (lsk (lsd (lsd lsz)))))))
        · have hf := ite_f hc hf
          refine g_iconst (v := 1) dX8_curse_65 (by decide) ?_
          refine g_goto (tgt := 70) dX8_curse_66 (by decide) ?_
          exact g_weakr (w_X8_curse_70 hr (fun hf => ih hf) hf) (lsk (lsd (lsk (lsd (lsk (lsd (lsd lsz)))))))
def f_X8_curse (x1 : Int32) (x2 : Int32) (x3 : Int32) (M : Mem) : Option (Int32 × Mem) :=
  if (f_X8_isRow x1) = 0 then ((f_X8_bad (-2 : Int32) M).bind fun r1 =>
  some (r1.1, r1.2))
  else (if (f_X8_isRow x2) = 0 then ((f_X8_bad (-2 : Int32) M).bind fun r2 =>
  some (r2.1, r2.2))
  else (if (f_X8_isPlace x3) = 0 then ((f_X8_bad (-2 : Int32) M).bind fun r6 =>
  some (r6.1, r6.2))
  else (ck x1 20 <|
  (f_X8_beginWay (M.2 66 x1.toNatClampNeg) x3 M).bind fun r3 =>
  b_X8_curse_45 x2 fu (-1 : Int32) (1 : Int32) r3)))
set_option maxHeartbeats 4000000 in
set_option maxRecDepth 100000 in
theorem c_X8_curse {l : Launch} {x1 : Int32} {x2 : Int32} {x3 : Int32} {M : Mem} {r : Int32} {M1 : Mem} (hf : f_X8_curse x1 x2 x3 M = some (r, M1)) : Cn l yX8_curse cX8_curse 7 (some .int) 6 136 (fun E => [.ref (E.1 63), .int x1, .int x2, .int x3]) M (some (.int r), M1) := by
  unfold f_X8_curse at hf
  refine cn_of RX8 (fun E => [some (.ref (E.1 63)), some (.int x1), some (.int x2), some (.int x3), none, none, none]) (by decide +kernel) rfl (fun E => Nat.le_of_ble_eq_true rfl) (fun E => rfl) (fun X hr => ?_)
  refine g_iload_n dX8_curse_0 rfl ?_
  refine g_cS_I_I (c_X8_isRow rfl) cs_X8_148 ⟨by decide, by decide⟩ (Nat.le_of_ble_eq_true rfl) dX8_curse_1 ?_
  refine g_if_eq (tgt := 21) dX8_curse_4 (by decide) (fun hc => ?_) (fun hc => ?_)
  · have hf := ite_t hc hf
    refine g_aload_n dX8_curse_21 rfl ?_
    refine g_bipush (v := (-2)) dX8_curse_22 (by decide) ?_
    obtain ⟨r1, hq, hf⟩ := bnd hf
    refine g_cV_I_I (c_X8_bad (r := r1.1) (M1 := r1.2) hq) cv_X8_116 (by decide) (cel_63 _ _ _) rfl ⟨by decide, by decide⟩ (Nat.le_of_ble_eq_true rfl) dX8_curse_24 ?_
    exact g_iret_w hr hf dX8_curse_27
  · have hf := ite_f hc hf
    refine g_iload_n dX8_curse_7 rfl ?_
    refine g_cS_I_I (c_X8_isRow rfl) cs_X8_148 ⟨by decide, by decide⟩ (Nat.le_of_ble_eq_true rfl) dX8_curse_8 ?_
    refine g_if_eq (tgt := 21) dX8_curse_11 (by decide) (fun hc => ?_) (fun hc => ?_)
    · have hf := ite_t hc hf
      refine g_aload_n dX8_curse_21 rfl ?_
      refine g_bipush (v := (-2)) dX8_curse_22 (by decide) ?_
      obtain ⟨r2, hq, hf⟩ := bnd hf
      refine g_cV_I_I (c_X8_bad (r := r2.1) (M1 := r2.2) hq) cv_X8_116 (by decide) (cel_63 _ _ _) rfl ⟨by decide, by decide⟩ (Nat.le_of_ble_eq_true rfl) dX8_curse_24 ?_
      exact g_iret_w hr hf dX8_curse_27
    · have hf := ite_f hc hf
      refine g_iload_n dX8_curse_14 rfl ?_
      refine g_cS_I_I (c_X8_isPlace rfl) cs_X8_124 ⟨by decide, by decide⟩ (Nat.le_of_ble_eq_true rfl) dX8_curse_15 ?_
      refine g_if_ne (tgt := 28) dX8_curse_18 (by decide) (fun hc => ?_) (fun hc => ?_)
      · have hf := ite_f hc hf
        refine g_iconst (v := (-1)) dX8_curse_28 (by decide) ?_
        refine g_ist4 dX8_curse_29 (by decide) lnl_i ?_
        refine g_aload_n dX8_curse_31 rfl ?_
        refine g_aload_n dX8_curse_32 rfl ?_
        refine g_get (kk := 63) (by decide) (cel_63 _ _ _) rfl inX8 fl_X8_16 (by decide) rfl dX8_curse_33 ?_
        refine g_iload_n dX8_curse_36 rfl ?_
        obtain ⟨hi, hf⟩ := ck_s hf
        refine g_laload (kk := 66) (by decide) (fun f g => cel_66 _ f g) hi rfl dX8_curse_37 ?_
        refine g_iload_n dX8_curse_38 rfl ?_
        obtain ⟨r3, hq, hf⟩ := bnd hf
        refine g_cV_JI_V (c_X8_beginWay hq) cv_X8_184 (by decide) (cel_63 _ _ _) rfl ⟨by decide, by decide⟩ (Nat.le_of_ble_eq_true rfl) dX8_curse_39 ?_
        refine g_iconst (v := 1) dX8_curse_42 (by decide) ?_
        refine g_ist5 dX8_curse_43 (by decide) lnl_i ?_
        exact g_weakr (w_X8_curse_45 hr fu hf) (lsk (lsd (lsk (lsd (lsk (lsk (lsd lsz)))))))
      · have hf := ite_t hc hf
        refine g_aload_n dX8_curse_21 rfl ?_
        refine g_bipush (v := (-2)) dX8_curse_22 (by decide) ?_
        obtain ⟨r6, hq, hf⟩ := bnd hf
        refine g_cV_I_I (c_X8_bad (r := r6.1) (M1 := r6.2) hq) cv_X8_116 (by decide) (cel_63 _ _ _) rfl ⟨by decide, by decide⟩ (Nat.le_of_ble_eq_true rfl) dX8_curse_24 ?_
        exact g_iret_w hr hf dX8_curse_27
-- X8_nameOf
def f_X8_nameOf (x0 : Int32) : Int64 :=
  if x0 ≤ (16 : Int32) then (if x0 ≤ 0 then ((0 : Int64))
  else ((f_X8_behind (0 : Int64) (x0 - (1 : Int32)))))
  else ((f_X8_behind (f_X8_behind (0 : Int64) ((x0 / (17 : Int32)) - (1 : Int32))) ((x0 - x0 / (17 : Int32) * (17 : Int32)) - (1 : Int32))))
set_option maxHeartbeats 4000000 in
set_option maxRecDepth 100000 in
theorem c_X8_nameOf {l : Launch} {x0 : Int32} {M : Mem} {r : Int64} (hf : f_X8_nameOf x0 = r) : Cn l yX8_nameOf cX8_nameOf 3 (some .long) 2 43 (fun E => [.int x0]) M (some (.long r), M) := by
  unfold f_X8_nameOf at hf
  refine cn_of RX8 (fun E => [some (.int x0), none, none]) (by decide +kernel) rfl (fun E => Nat.le_of_ble_eq_true rfl) (fun E => rfl) (fun X hr => ?_)
  refine g_lconst (v := 0) dX8_nameOf_0 (by decide) ?_
  refine g_lst1 dX8_nameOf_1 (by decide) lnl_i ?_
  refine g_iload_n dX8_nameOf_2 rfl ?_
  refine g_bipush (v := 16) dX8_nameOf_3 (by decide) ?_
  refine g_icmp_le (tgt := 31) dX8_nameOf_5 (by decide) (fun hc => ?_) (fun hc => ?_)
  · have hf := ite_t hc hf
    refine g_iload_n dX8_nameOf_31 rfl ?_
    refine g_if_le (tgt := 43) dX8_nameOf_32 (by decide) (fun hc => ?_) (fun hc => ?_)
    · have hf := ite_t hc hf
      refine g_lload_n dX8_nameOf_43 rfl ?_
      exact g_lret_t hr hf dX8_nameOf_44
    · have hf := ite_f hc hf
      refine g_lload_n dX8_nameOf_35 rfl ?_
      refine g_iload_n dX8_nameOf_36 rfl ?_
      refine g_iconst (v := 1) dX8_nameOf_37 (by decide) ?_
      refine g_isub dX8_nameOf_38 ?_
      refine g_cS_JI_J (c_X8_behind rfl) cs_X8_79 ⟨by decide, by decide⟩ (Nat.le_of_ble_eq_true rfl) dX8_nameOf_39 ?_
      refine g_lst1 dX8_nameOf_42 (by decide) lnl_i ?_
      refine g_lload_n dX8_nameOf_43 rfl ?_
      exact g_lret_t hr hf dX8_nameOf_44
  · have hf := ite_f hc hf
    refine g_lload_n dX8_nameOf_8 rfl ?_
    refine g_iload_n dX8_nameOf_9 rfl ?_
    refine g_bipush (v := 17) dX8_nameOf_10 (by decide) ?_
    refine g_idiv dX8_nameOf_12 (by decide) ?_
    refine g_iconst (v := 1) dX8_nameOf_13 (by decide) ?_
    refine g_isub dX8_nameOf_14 ?_
    refine g_cS_JI_J (c_X8_behind rfl) cs_X8_79 ⟨by decide, by decide⟩ (Nat.le_of_ble_eq_true rfl) dX8_nameOf_15 ?_
    refine g_iload_n dX8_nameOf_18 rfl ?_
    refine g_bipush (v := 17) dX8_nameOf_19 (by decide) ?_
    refine g_irem dX8_nameOf_21 (by decide) ?_
    refine g_iconst (v := 1) dX8_nameOf_22 (by decide) ?_
    refine g_isub dX8_nameOf_23 ?_
    refine g_cS_JI_J (c_X8_behind rfl) cs_X8_79 ⟨by decide, by decide⟩ (Nat.le_of_ble_eq_true rfl) dX8_nameOf_24 ?_
    refine g_lst1 dX8_nameOf_27 (by decide) lnl_i ?_
    refine g_goto (tgt := 43) dX8_nameOf_28 (by decide) ?_
    refine g_lload_n dX8_nameOf_43 rfl ?_
    exact g_lret_t hr hf dX8_nameOf_44
-- X8_above
def b_X8_above_113 (k41 : Int32 → Int32 → Int32 → Mem → Option (Int32 × Mem))  (x1 : Int32) (x2 : Int32) (x3 : Int32) (x4 : Int32) (x5 : Int32) (x6 : Int32) (M : Mem) : Option (Int32 × Mem) :=
  k41 x4 x5 (x6 + (1 : Int32)) M
set_option maxHeartbeats 4000000 in
set_option maxRecDepth 100000 in
theorem w_X8_above_113 {X : Cx} {r : Int32} {M1 : Mem}  {k41 : Int32 → Int32 → Int32 → Mem → Option (Int32 × Mem)} {x1 : Int32} {x2 : Int32} {x3 : Int32}   {x4 : Int32} {x5 : Int32} {x6 : Int32} {M : Mem} (hr : X.meth.sig.returnType = (some .int)) (hk41 : ∀ {x4_ : Int32} {x5_ : Int32} {x6_ : Int32} {M_ : Mem}, k41 x4_ x5_ x6_ M_ = some (r, M1) → G X (some (.int r), M1) RX8 cX8_above 8 5 115 41 [some (.ref (X.1.1 63)), some (.int x1), some (.int x2), some (.int x3), some (.int x4_), some (.int x5_), some (.int x6_), none] [] M_) (hf : b_X8_above_113 k41 x1 x2 x3 x4 x5 x6 M = some (r, M1)) : G X (some (.int r), M1) RX8 cX8_above 8 5 115 113 [some (.ref (X.1.1 63)), some (.int x1), some (.int x2), some (.int x3), some (.int x4), some (.int x5), some (.int x6), none] [] M := by
  unfold b_X8_above_113 at hf
  refine g_iinc6 (v := (x6 + (1 : Int32))) dX8_above_113 (by decide) lnl_i rfl ?_
  refine g_goto (tgt := 41) dX8_above_116 (by decide) ?_
  exact hk41 hf
def b_X8_above_108 (k113 : Int32 → Int32 → Int32 → Mem → Option (Int32 × Mem))  (x1 : Int32) (x2 : Int32) (x3 : Int32) (x4 : Int32) (x6 : Int32) (t0 : Int32) (M : Mem) : Option (Int32 × Mem) :=
  k113 (x4 + (1 : Int32)) t0 x6 M
set_option maxHeartbeats 4000000 in
set_option maxRecDepth 100000 in
theorem w_X8_above_108 {X : Cx} {r : Int32} {M1 : Mem}  {k113 : Int32 → Int32 → Int32 → Mem → Option (Int32 × Mem)} {x1 : Int32} {x2 : Int32} {x3 : Int32}   {x4 : Int32} {x6 : Int32} {t0 : Int32} {M : Mem} (hr : X.meth.sig.returnType = (some .int)) (hk113 : ∀ {x4_ : Int32} {x5_ : Int32} {x6_ : Int32} {M_ : Mem}, k113 x4_ x5_ x6_ M_ = some (r, M1) → G X (some (.int r), M1) RX8 cX8_above 8 5 115 113 [some (.ref (X.1.1 63)), some (.int x1), some (.int x2), some (.int x3), some (.int x4_), some (.int x5_), some (.int x6_), none] [] M_) (hf : b_X8_above_108 k113 x1 x2 x3 x4 x6 t0 M = some (r, M1)) : G X (some (.int r), M1) RX8 cX8_above 8 5 115 108 [some (.ref (X.1.1 63)), some (.int x1), some (.int x2), some (.int x3), some (.int x4), none, some (.int x6), none] [.int t0] M := by
  unfold b_X8_above_108 at hf
  refine g_ist5 dX8_above_108 (by decide) lnl_i ?_
  refine g_iinc4 (v := (x4 + (1 : Int32))) dX8_above_110 (by decide) lnl_i rfl ?_
  exact hk113 hf
def b_X8_above_69 (k41 : Int32 → Int32 → Int32 → Mem → Option (Int32 × Mem))  (x1 : Int32) (x2 : Int32) (x3 : Int32) (x4 : Int32) (x5 : Int32) (x6 : Int32) (t0 : Int32) (M : Mem) : Option (Int32 × Mem) :=
  if t0 = 0 then (b_X8_above_113 k41 x1 x2 x3 x4 x5 x6 M)
  else ((f_X8_behindBridge M x1 (f_X8_nameOf x6)).bind fun r3 =>
  ck x2 20 <|
  if (lg_cmp r3 (M.2 66 x2.toNatClampNeg)) = 0 then (if x4 = 0 then (b_X8_above_108 (fun x4_ x5_ x6_ M_ => b_X8_above_113 k41 x1 x2 x3 x4_ x5_ x6_ M_) x1 x2 x3 x4 x6 x6 M)
  else (b_X8_above_108 (fun x4_ x5_ x6_ M_ => b_X8_above_113 k41 x1 x2 x3 x4_ x5_ x6_ M_) x1 x2 x3 x4 x6 x5 M))
  else (b_X8_above_113 k41 x1 x2 x3 x4 x5 x6 M))
set_option maxHeartbeats 4000000 in
set_option maxRecDepth 100000 in
theorem w_X8_above_69 {X : Cx} {r : Int32} {M1 : Mem}  {k41 : Int32 → Int32 → Int32 → Mem → Option (Int32 × Mem)} {x1 : Int32} {x2 : Int32} {x3 : Int32}   {x4 : Int32} {x5 : Int32} {x6 : Int32} {t0 : Int32} {M : Mem} (hr : X.meth.sig.returnType = (some .int)) (hk41 : ∀ {x4_ : Int32} {x5_ : Int32} {x6_ : Int32} {M_ : Mem}, k41 x4_ x5_ x6_ M_ = some (r, M1) → G X (some (.int r), M1) RX8 cX8_above 8 5 115 41 [some (.ref (X.1.1 63)), some (.int x1), some (.int x2), some (.int x3), some (.int x4_), some (.int x5_), some (.int x6_), none] [] M_) (hf : b_X8_above_69 k41 x1 x2 x3 x4 x5 x6 t0 M = some (r, M1)) : G X (some (.int r), M1) RX8 cX8_above 8 5 115 69 [some (.ref (X.1.1 63)), some (.int x1), some (.int x2), some (.int x3), some (.int x4), some (.int x5), some (.int x6), none] [.int t0] M := by
  unfold b_X8_above_69 at hf
  refine g_ist7 dX8_above_69 (by decide) lnl_i ?_
  refine g_iload dX8_above_71 rfl ?_
  refine g_if_eq (tgt := 113) dX8_above_73 (by decide) (fun hc => ?_) (fun hc => ?_)
  · have hf := ite_t hc hf
    exact g_weakr (w_X8_above_113 hr hk41 hf) (lsk (lsk (lsk (lsk (lsk (lsk (lsk (lsd lsz))))))))
  · have hf := ite_f hc hf
    refine g_aload_n dX8_above_76 rfl ?_
    refine g_iload_n dX8_above_77 rfl ?_
    refine g_iload dX8_above_78 rfl ?_
    refine g_cS_I_J (c_X8_nameOf rfl) cs_X8_203 ⟨by decide, by decide⟩ (Nat.le_of_ble_eq_true rfl) dX8_above_80 ?_
    obtain ⟨r3, hq, hf⟩ := bnd hf
    refine g_cV_IJ_J (c_X8_behindBridge hq) cv_X8_158 (by decide) (cel_63 _ _ _) rfl ⟨by decide, by decide⟩ (Nat.le_of_ble_eq_true rfl) dX8_above_83 ?_
    refine g_aload_n dX8_above_86 rfl ?_
    refine g_get (kk := 63) (by decide) (cel_63 _ _ _) rfl inX8 fl_X8_16 (by decide) rfl dX8_above_87 ?_
    refine g_iload_n dX8_above_90 rfl ?_
    obtain ⟨hi, hf⟩ := ck_s hf
    refine g_laload (kk := 66) (by decide) (fun f g => cel_66 _ f g) hi rfl dX8_above_91 ?_
    refine g_lcmp dX8_above_92 ?_
    refine g_if_ne (tgt := 113) dX8_above_93 (by decide) (fun hc => ?_) (fun hc => ?_)
    · have hf := ite_f hc hf
      exact g_weakr (w_X8_above_113 hr hk41 hf) (lsk (lsk (lsk (lsk (lsk (lsk (lsk (lsd lsz))))))))
    · have hf := ite_t hc hf
      refine g_iload dX8_above_96 rfl ?_
      refine g_if_ne (tgt := 106) dX8_above_98 (by decide) (fun hc => ?_) (fun hc => ?_)
      · have hf := ite_f hc hf
        refine g_iload dX8_above_106 rfl ?_
        exact g_weakr (w_X8_above_108 hr (fun hf => w_X8_above_113 hr hk41 hf) hf) (lsk (lsk (lsk (lsk (lsk (lsd (lsk (lsd lsz))))))))
      · have hf := ite_t hc hf
        refine g_iload dX8_above_101 rfl ?_
        refine g_goto (tgt := 108) dX8_above_103 (by decide) ?_
        exact g_weakr (w_X8_above_108 hr (fun hf => w_X8_above_113 hr hk41 hf) hf) (lsk (lsk (lsk (lsk (lsk (lsd (lsk (lsd lsz))))))))
def b_X8_above_41   (x1 : Int32) (x2 : Int32) (x3 : Int32) : Nat → Int32 → Int32 → Int32 → Mem → Option (Int32 × Mem)
  | 0, _, _, _, _ => none
  | n + 1, x4, x5, x6, M =>
    if (289 : Int32) ≤ x6 then (if x3 = 0 then (some (x4, M))
    else (some (x5, M)))
    else (if x6 < (17 : Int32) then (b_X8_above_69 (fun x4_ x5_ x6_ M_ => b_X8_above_41 x1 x2 x3 n x4_ x5_ x6_ M_) x1 x2 x3 x4 x5 x6 (1 : Int32) M)
    else (if (x6 - x6 / (17 : Int32) * (17 : Int32)) ≤ 0 then (b_X8_above_69 (fun x4_ x5_ x6_ M_ => b_X8_above_41 x1 x2 x3 n x4_ x5_ x6_ M_) x1 x2 x3 x4 x5 x6 (0 : Int32) M)
    else (b_X8_above_69 (fun x4_ x5_ x6_ M_ => b_X8_above_41 x1 x2 x3 n x4_ x5_ x6_ M_) x1 x2 x3 x4 x5 x6 (1 : Int32) M)))
set_option maxHeartbeats 4000000 in
set_option maxRecDepth 100000 in
theorem w_X8_above_41 {X : Cx} {r : Int32} {M1 : Mem}   {x1 : Int32} {x2 : Int32} {x3 : Int32}   (hr : X.meth.sig.returnType = (some .int)) : ∀ (n : Nat) {x4 : Int32} {x5 : Int32} {x6 : Int32} {M : Mem}, b_X8_above_41 x1 x2 x3 n x4 x5 x6 M = some (r, M1) → G X (some (.int r), M1) RX8 cX8_above 8 5 115 41 [some (.ref (X.1.1 63)), some (.int x1), some (.int x2), some (.int x3), some (.int x4), some (.int x5), some (.int x6), none] [] M := by
  intro n
  induction n with
  | zero => intro x4 x5 x6 M hf; cases hf
  | succ n ih =>
    intro x4 x5 x6 M hf
    rw [b_X8_above_41.eq_2] at hf
    refine g_iload dX8_above_41 rfl ?_
    refine g_sipush (v := 289) dX8_above_43 (by decide) ?_
    refine g_icmp_ge (tgt := 119) dX8_above_46 (by decide) (fun hc => ?_) (fun hc => ?_)
    · have hf := ite_t hc hf
      refine g_iload_n dX8_above_119 rfl ?_
      refine g_if_ne (tgt := 128) dX8_above_120 (by decide) (fun hc => ?_) (fun hc => ?_)
      · have hf := ite_f hc hf
        refine g_iload dX8_above_128 rfl ?_
        exact g_iret_w hr hf dX8_above_130
      · have hf := ite_t hc hf
        refine g_iload dX8_above_123 rfl ?_
        refine g_goto (tgt := 130) dX8_above_125 (by decide) ?_
        exact g_iret_w hr hf dX8_above_130
    · have hf := ite_f hc hf
      refine g_iload dX8_above_49 rfl ?_
      refine g_bipush (v := 17) dX8_above_51 (by decide) ?_
      refine g_icmp_lt (tgt := 64) dX8_above_53 (by decide) (fun hc => ?_) (fun hc => ?_)
      · have hf := ite_t hc hf
        refine g_iconst (v := 1) dX8_above_64 (by decide) ?_
        refine g_goto (tgt := 69) dX8_above_65 (by decide) ?_
        exact w_X8_above_69 hr (fun hf => ih hf) hf
      · have hf := ite_f hc hf
        refine g_iload dX8_above_56 rfl ?_
        refine g_bipush (v := 17) dX8_above_58 (by decide) ?_
        refine g_irem dX8_above_60 (by decide) ?_
        refine g_if_le (tgt := 68) dX8_above_61 (by decide) (fun hc => ?_) (fun hc => ?_)
        · have hf := ite_t hc hf
          refine g_iconst (v := 0) dX8_above_68 (by decide) ?_
          exact w_X8_above_69 hr (fun hf => ih hf) hf
        · have hf := ite_f hc hf
          refine g_iconst (v := 1) dX8_above_64 (by decide) ?_
          refine g_goto (tgt := 69) dX8_above_65 (by decide) ?_
          exact w_X8_above_69 hr (fun hf => ih hf) hf
def f_X8_above (x1 : Int32) (x2 : Int32) (x3 : Int32) (M : Mem) : Option (Int32 × Mem) :=
  if (f_X8_isBridge M x1) = 0 then ((f_X8_bad (-10 : Int32) M).bind fun r1 =>
  some (r1.1, r1.2))
  else (if (f_X8_isRow x2) = 0 then ((f_X8_bad (-10 : Int32) M).bind fun r2 =>
  some (r2.1, r2.2))
  else (if (f_X8_in x3.toInt64 (0 : Int64) (1 : Int64)) = 0 then ((f_X8_bad (-10 : Int32) M).bind fun r4 =>
  some (r4.1, r4.2))
  else (b_X8_above_41 x1 x2 x3 fu (0 : Int32) (-1 : Int32) (0 : Int32) M)))
set_option maxHeartbeats 4000000 in
set_option maxRecDepth 100000 in
theorem c_X8_above {l : Launch} {x1 : Int32} {x2 : Int32} {x3 : Int32} {M : Mem} {r : Int32} {M1 : Mem} (hf : f_X8_above x1 x2 x3 M = some (r, M1)) : Cn l yX8_above cX8_above 8 (some .int) 5 115 (fun E => [.ref (E.1 63), .int x1, .int x2, .int x3]) M (some (.int r), M1) := by
  unfold f_X8_above at hf
  refine cn_of RX8 (fun E => [some (.ref (E.1 63)), some (.int x1), some (.int x2), some (.int x3), none, none, none, none]) (by decide +kernel) rfl (fun E => Nat.le_of_ble_eq_true rfl) (fun E => rfl) (fun X hr => ?_)
  refine g_aload_n dX8_above_0 rfl ?_
  refine g_iload_n dX8_above_1 rfl ?_
  refine g_cV_I_I (c_X8_isBridge rfl) cv_X8_139 (by decide) (cel_63 _ _ _) rfl ⟨by decide, by decide⟩ (Nat.le_of_ble_eq_true rfl) dX8_above_2 ?_
  refine g_if_eq (tgt := 25) dX8_above_5 (by decide) (fun hc => ?_) (fun hc => ?_)
  · have hf := ite_t hc hf
    refine g_aload_n dX8_above_25 rfl ?_
    refine g_bipush (v := (-10)) dX8_above_26 (by decide) ?_
    obtain ⟨r1, hq, hf⟩ := bnd hf
    refine g_cV_I_I (c_X8_bad (r := r1.1) (M1 := r1.2) hq) cv_X8_116 (by decide) (cel_63 _ _ _) rfl ⟨by decide, by decide⟩ (Nat.le_of_ble_eq_true rfl) dX8_above_28 ?_
    exact g_iret_w hr hf dX8_above_31
  · have hf := ite_f hc hf
    refine g_iload_n dX8_above_8 rfl ?_
    refine g_cS_I_I (c_X8_isRow rfl) cs_X8_148 ⟨by decide, by decide⟩ (Nat.le_of_ble_eq_true rfl) dX8_above_9 ?_
    refine g_if_eq (tgt := 25) dX8_above_12 (by decide) (fun hc => ?_) (fun hc => ?_)
    · have hf := ite_t hc hf
      refine g_aload_n dX8_above_25 rfl ?_
      refine g_bipush (v := (-10)) dX8_above_26 (by decide) ?_
      obtain ⟨r2, hq, hf⟩ := bnd hf
      refine g_cV_I_I (c_X8_bad (r := r2.1) (M1 := r2.2) hq) cv_X8_116 (by decide) (cel_63 _ _ _) rfl ⟨by decide, by decide⟩ (Nat.le_of_ble_eq_true rfl) dX8_above_28 ?_
      exact g_iret_w hr hf dX8_above_31
    · have hf := ite_f hc hf
      refine g_iload_n dX8_above_15 rfl ?_
      refine g_i2l dX8_above_16 ?_
      refine g_lconst (v := 0) dX8_above_17 (by decide) ?_
      refine g_lconst (v := 1) dX8_above_18 (by decide) ?_
      refine g_cS_JJJ_I (c_X8_in rfl) cs_X8_106 ⟨by decide, by decide⟩ (Nat.le_of_ble_eq_true rfl) dX8_above_19 ?_
      refine g_if_ne (tgt := 32) dX8_above_22 (by decide) (fun hc => ?_) (fun hc => ?_)
      · have hf := ite_f hc hf
        refine g_iconst (v := 0) dX8_above_32 (by decide) ?_
        refine g_ist4 dX8_above_33 (by decide) lnl_i ?_
        refine g_iconst (v := (-1)) dX8_above_35 (by decide) ?_
        refine g_ist5 dX8_above_36 (by decide) lnl_i ?_
        refine g_iconst (v := 0) dX8_above_38 (by decide) ?_
        refine g_ist6 dX8_above_39 (by decide) lnl_i ?_
        exact w_X8_above_41 hr fu hf
      · have hf := ite_t hc hf
        refine g_aload_n dX8_above_25 rfl ?_
        refine g_bipush (v := (-10)) dX8_above_26 (by decide) ?_
        obtain ⟨r4, hq, hf⟩ := bnd hf
        refine g_cV_I_I (c_X8_bad (r := r4.1) (M1 := r4.2) hq) cv_X8_116 (by decide) (cel_63 _ _ _) rfl ⟨by decide, by decide⟩ (Nat.le_of_ble_eq_true rfl) dX8_above_28 ?_
        exact g_iret_w hr hf dX8_above_31
-- X8_note
def f_X8_note (x1 : Int32) (x2 : Int32) (x3 : Int32) (M : Mem) : Option (Int32 × Mem) :=
  if (f_X8_isBridge M x1) = 0 then ((f_X8_bad (-2 : Int32) M).bind fun r1 =>
  some (r1.1, r1.2))
  else (if (f_X8_isRow x2) = 0 then ((f_X8_bad (-2 : Int32) M).bind fun r2 =>
  some (r2.1, r2.2))
  else (if (f_X8_isRow x3) = 0 then ((f_X8_bad (-2 : Int32) M).bind fun r9 =>
  some (r9.1, r9.2))
  else (if (M.1 64 2) = (8 : Int32) then ((f_X8_full M).bind fun r8 =>
  some (r8.1, r8.2))
  else (ck ((36 : Int32) + ((2 : Int32) * (M.1 64 2))) 188 <|
  let M3 := mI M 64 (((36 : Int32) + ((2 : Int32) * (M.1 64 2))).toNatClampNeg) x1
  ck (((36 : Int32) + ((2 : Int32) * (M.1 64 2))) + (1 : Int32)) 188 <|
  let M4 := mI M3 64 ((((36 : Int32) + ((2 : Int32) * (M.1 64 2))) + (1 : Int32)).toNatClampNeg) (M3.1 64 1)
  ck x2 20 <|
  ck ((4 : Int32) + ((2 : Int32) * (M.1 64 2))) 20 <|
  let M5 := mL M4 66 (((4 : Int32) + ((2 : Int32) * (M.1 64 2))).toNatClampNeg) (M4.2 66 x2.toNatClampNeg)
  ck x3 20 <|
  ck (((4 : Int32) + ((2 : Int32) * (M.1 64 2))) + (1 : Int32)) 20 <|
  let M6 := mL M5 66 ((((4 : Int32) + ((2 : Int32) * (M.1 64 2))) + (1 : Int32)).toNatClampNeg) (M5.2 66 x3.toNatClampNeg)
  let M7 := mI M6 64 2 ((M6.1 64 2) + (1 : Int32))
  some ((M7.1 64 2), M7)))))
set_option maxHeartbeats 4000000 in
set_option maxRecDepth 100000 in
theorem c_X8_note {l : Launch} {x1 : Int32} {x2 : Int32} {x3 : Int32} {M : Mem} {r : Int32} {M1 : Mem} (hf : f_X8_note x1 x2 x3 M = some (r, M1)) : Cn l yX8_note cX8_note 5 (some .int) 2 46 (fun E => [.ref (E.1 63), .int x1, .int x2, .int x3]) M (some (.int r), M1) := by
  unfold f_X8_note at hf
  refine cn_of RX8 (fun E => [some (.ref (E.1 63)), some (.int x1), some (.int x2), some (.int x3), none]) (by decide +kernel) rfl (fun E => Nat.le_of_ble_eq_true rfl) (fun E => rfl) (fun X hr => ?_)
  refine g_aload_n dX8_note_0 rfl ?_
  refine g_iload_n dX8_note_1 rfl ?_
  refine g_cV_I_I (c_X8_isBridge rfl) cv_X8_139 (by decide) (cel_63 _ _ _) rfl ⟨by decide, by decide⟩ (Nat.le_of_ble_eq_true rfl) dX8_note_2 ?_
  refine g_if_eq (tgt := 22) dX8_note_5 (by decide) (fun hc => ?_) (fun hc => ?_)
  · have hf := ite_t hc hf
    refine g_aload_n dX8_note_22 rfl ?_
    refine g_bipush (v := (-2)) dX8_note_23 (by decide) ?_
    obtain ⟨r1, hq, hf⟩ := bnd hf
    refine g_cV_I_I (c_X8_bad (r := r1.1) (M1 := r1.2) hq) cv_X8_116 (by decide) (cel_63 _ _ _) rfl ⟨by decide, by decide⟩ (Nat.le_of_ble_eq_true rfl) dX8_note_25 ?_
    exact g_iret_w hr hf dX8_note_28
  · have hf := ite_f hc hf
    refine g_iload_n dX8_note_8 rfl ?_
    refine g_cS_I_I (c_X8_isRow rfl) cs_X8_148 ⟨by decide, by decide⟩ (Nat.le_of_ble_eq_true rfl) dX8_note_9 ?_
    refine g_if_eq (tgt := 22) dX8_note_12 (by decide) (fun hc => ?_) (fun hc => ?_)
    · have hf := ite_t hc hf
      refine g_aload_n dX8_note_22 rfl ?_
      refine g_bipush (v := (-2)) dX8_note_23 (by decide) ?_
      obtain ⟨r2, hq, hf⟩ := bnd hf
      refine g_cV_I_I (c_X8_bad (r := r2.1) (M1 := r2.2) hq) cv_X8_116 (by decide) (cel_63 _ _ _) rfl ⟨by decide, by decide⟩ (Nat.le_of_ble_eq_true rfl) dX8_note_25 ?_
      exact g_iret_w hr hf dX8_note_28
    · have hf := ite_f hc hf
      refine g_iload_n dX8_note_15 rfl ?_
      refine g_cS_I_I (c_X8_isRow rfl) cs_X8_148 ⟨by decide, by decide⟩ (Nat.le_of_ble_eq_true rfl) dX8_note_16 ?_
      refine g_if_ne (tgt := 29) dX8_note_19 (by decide) (fun hc => ?_) (fun hc => ?_)
      · have hf := ite_f hc hf
        refine g_aload_n dX8_note_29 rfl ?_
        refine g_get (kk := 63) (by decide) (cel_63 _ _ _) rfl inX8 fl_X8_7 (by decide) rfl dX8_note_30 ?_
        refine g_iconst (v := 2) dX8_note_33 (by decide) ?_
        refine g_iaload (kk := 64) (by decide) (fun f g => cel_64 _ f g) (vp_in_iff.mpr ⟨by decide, by decide⟩) (j := 2) (by decide) dX8_note_34 ?_
        refine g_bipush (v := 8) dX8_note_35 (by decide) ?_
        refine g_icmp_ne (tgt := 45) dX8_note_37 (by decide) (fun hc => ?_) (fun hc => ?_)
        · have hf := ite_f hc hf
          refine g_aload_n dX8_note_45 rfl ?_
          refine g_get (kk := 63) (by decide) (cel_63 _ _ _) rfl inX8 fl_X8_7 (by decide) rfl dX8_note_46 ?_
          refine g_iconst (v := 2) dX8_note_49 (by decide) ?_
          refine g_iaload (kk := 64) (by decide) (fun f g => cel_64 _ f g) (vp_in_iff.mpr ⟨by decide, by decide⟩) (j := 2) (by decide) dX8_note_50 ?_
          refine g_ist4 dX8_note_51 (by decide) lnl_i ?_
          refine g_aload_n dX8_note_53 rfl ?_
          refine g_get (kk := 63) (by decide) (cel_63 _ _ _) rfl inX8 fl_X8_7 (by decide) rfl dX8_note_54 ?_
          refine g_bipush (v := 36) dX8_note_57 (by decide) ?_
          refine g_iconst (v := 2) dX8_note_59 (by decide) ?_
          refine g_iload dX8_note_60 rfl ?_
          refine g_imul dX8_note_62 ?_
          refine g_iadd dX8_note_63 ?_
          refine g_iload_n dX8_note_64 rfl ?_
          obtain ⟨hi, hf⟩ := ck_s hf
          refine g_iastore (kk := 64) (by decide) (fun f g => cel_64 _ f g) hi rfl dX8_note_65 ?_
          refine g_aload_n dX8_note_66 rfl ?_
          refine g_get (kk := 63) (by decide) (cel_63 _ _ _) rfl inX8 fl_X8_7 (by decide) rfl dX8_note_67 ?_
          refine g_bipush (v := 36) dX8_note_70 (by decide) ?_
          refine g_iconst (v := 2) dX8_note_72 (by decide) ?_
          refine g_iload dX8_note_73 rfl ?_
          refine g_imul dX8_note_75 ?_
          refine g_iadd dX8_note_76 ?_
          refine g_iconst (v := 1) dX8_note_77 (by decide) ?_
          refine g_iadd dX8_note_78 ?_
          refine g_aload_n dX8_note_79 rfl ?_
          refine g_get (kk := 63) (by decide) (cel_63 _ _ _) rfl inX8 fl_X8_7 (by decide) rfl dX8_note_80 ?_
          refine g_iconst (v := 1) dX8_note_83 (by decide) ?_
          refine g_iaload (kk := 64) (by decide) (fun f g => cel_64 _ f g) (vp_in_iff.mpr ⟨by decide, by decide⟩) (j := 1) (by decide) dX8_note_84 ?_
          obtain ⟨hi, hf⟩ := ck_s hf
          refine g_iastore (kk := 64) (by decide) (fun f g => cel_64 _ f g) hi rfl dX8_note_85 ?_
          refine g_aload_n dX8_note_86 rfl ?_
          refine g_get (kk := 63) (by decide) (cel_63 _ _ _) rfl inX8 fl_X8_16 (by decide) rfl dX8_note_87 ?_
          refine g_iconst (v := 4) dX8_note_90 (by decide) ?_
          refine g_iconst (v := 2) dX8_note_91 (by decide) ?_
          refine g_iload dX8_note_92 rfl ?_
          refine g_imul dX8_note_94 ?_
          refine g_iadd dX8_note_95 ?_
          refine g_aload_n dX8_note_96 rfl ?_
          refine g_get (kk := 63) (by decide) (cel_63 _ _ _) rfl inX8 fl_X8_16 (by decide) rfl dX8_note_97 ?_
          refine g_iload_n dX8_note_100 rfl ?_
          obtain ⟨hi, hf⟩ := ck_s hf
          refine g_laload (kk := 66) (by decide) (fun f g => cel_66 _ f g) hi rfl dX8_note_101 ?_
          obtain ⟨hi, hf⟩ := ck_s hf
          refine g_lastore (kk := 66) (by decide) (fun f g => cel_66 _ f g) hi rfl dX8_note_102 ?_
          refine g_aload_n dX8_note_103 rfl ?_
          refine g_get (kk := 63) (by decide) (cel_63 _ _ _) rfl inX8 fl_X8_16 (by decide) rfl dX8_note_104 ?_
          refine g_iconst (v := 4) dX8_note_107 (by decide) ?_
          refine g_iconst (v := 2) dX8_note_108 (by decide) ?_
          refine g_iload dX8_note_109 rfl ?_
          refine g_imul dX8_note_111 ?_
          refine g_iadd dX8_note_112 ?_
          refine g_iconst (v := 1) dX8_note_113 (by decide) ?_
          refine g_iadd dX8_note_114 ?_
          refine g_aload_n dX8_note_115 rfl ?_
          refine g_get (kk := 63) (by decide) (cel_63 _ _ _) rfl inX8 fl_X8_16 (by decide) rfl dX8_note_116 ?_
          refine g_iload_n dX8_note_119 rfl ?_
          obtain ⟨hi, hf⟩ := ck_s hf
          refine g_laload (kk := 66) (by decide) (fun f g => cel_66 _ f g) hi rfl dX8_note_120 ?_
          obtain ⟨hi, hf⟩ := ck_s hf
          refine g_lastore (kk := 66) (by decide) (fun f g => cel_66 _ f g) hi rfl dX8_note_121 ?_
          refine g_aload_n dX8_note_122 rfl ?_
          refine g_get (kk := 63) (by decide) (cel_63 _ _ _) rfl inX8 fl_X8_7 (by decide) rfl dX8_note_123 ?_
          refine g_iconst (v := 2) dX8_note_126 (by decide) ?_
          refine g_dup2 dX8_note_127 rfl rfl ?_
          refine g_iaload (kk := 64) (by decide) (fun f g => cel_64 _ f g) (vp_in_iff.mpr ⟨by decide, by decide⟩) (j := 2) (by decide) dX8_note_128 ?_
          refine g_iconst (v := 1) dX8_note_129 (by decide) ?_
          refine g_iadd dX8_note_130 ?_
          refine g_iastore (kk := 64) (by decide) (fun f g => cel_64 _ f g) (vp_in_iff.mpr ⟨by decide, by decide⟩) (j := 2) (by decide) dX8_note_131 ?_
          refine g_aload_n dX8_note_132 rfl ?_
          refine g_get (kk := 63) (by decide) (cel_63 _ _ _) rfl inX8 fl_X8_7 (by decide) rfl dX8_note_133 ?_
          refine g_iconst (v := 2) dX8_note_136 (by decide) ?_
          refine g_iaload (kk := 64) (by decide) (fun f g => cel_64 _ f g) (vp_in_iff.mpr ⟨by decide, by decide⟩) (j := 2) (by decide) dX8_note_137 ?_
          exact g_iret_w hr hf dX8_note_138
        · have hf := ite_t hc hf
          refine g_aload_n dX8_note_40 rfl ?_
          obtain ⟨r8, hq, hf⟩ := bnd hf
          refine g_cV_0_I (c_X8_full (r := r8.1) (M1 := r8.2) hq) cv_X8_128 (by decide) (cel_63 _ _ _) rfl ⟨by decide, by decide⟩ (Nat.le_of_ble_eq_true rfl) dX8_note_41 ?_
          exact g_iret_w hr hf dX8_note_44
      · have hf := ite_t hc hf
        refine g_aload_n dX8_note_22 rfl ?_
        refine g_bipush (v := (-2)) dX8_note_23 (by decide) ?_
        obtain ⟨r9, hq, hf⟩ := bnd hf
        refine g_cV_I_I (c_X8_bad (r := r9.1) (M1 := r9.2) hq) cv_X8_116 (by decide) (cel_63 _ _ _) rfl ⟨by decide, by decide⟩ (Nat.le_of_ble_eq_true rfl) dX8_note_25 ?_
        exact g_iret_w hr hf dX8_note_28
-- X8_forget
def f_X8_forget  (M : Mem) : Option (Int32 × Mem) :=
  let M1 := mI M 64 2 (0 : Int32)
  some ((M.1 64 2), M1)
set_option maxHeartbeats 4000000 in
set_option maxRecDepth 100000 in
theorem c_X8_forget {l : Launch}  {M : Mem} {r : Int32} {M1 : Mem} (hf : f_X8_forget M = some (r, M1)) : Cn l yX8_forget cX8_forget 2 (some .int) 0 0 (fun E => [.ref (E.1 63)]) M (some (.int r), M1) := by
  unfold f_X8_forget at hf
  refine cn_of RX8 (fun E => [some (.ref (E.1 63)), none]) (by decide +kernel) rfl (fun E => Nat.le_of_ble_eq_true rfl) (fun E => rfl) (fun X hr => ?_)
  refine g_aload_n dX8_forget_0 rfl ?_
  refine g_get (kk := 63) (by decide) (cel_63 _ _ _) rfl inX8 fl_X8_7 (by decide) rfl dX8_forget_1 ?_
  refine g_iconst (v := 2) dX8_forget_4 (by decide) ?_
  refine g_iaload (kk := 64) (by decide) (fun f g => cel_64 _ f g) (vp_in_iff.mpr ⟨by decide, by decide⟩) (j := 2) (by decide) dX8_forget_5 ?_
  refine g_ist1 dX8_forget_6 (by decide) lnl_r ?_
  refine g_aload_n dX8_forget_7 rfl ?_
  refine g_get (kk := 63) (by decide) (cel_63 _ _ _) rfl inX8 fl_X8_7 (by decide) rfl dX8_forget_8 ?_
  refine g_iconst (v := 2) dX8_forget_11 (by decide) ?_
  refine g_iconst (v := 0) dX8_forget_12 (by decide) ?_
  refine g_iastore (kk := 64) (by decide) (fun f g => cel_64 _ f g) (vp_in_iff.mpr ⟨by decide, by decide⟩) (j := 2) (by decide) dX8_forget_13 ?_
  refine g_iload_n dX8_forget_14 rfl ?_
  exact g_iret_w hr hf dX8_forget_15
-- X8_doesFit
def b_X8_doesFit_106 (k5 : Int32 → Int32 → Option Int32) (M : Mem) (x1 : Int32) (x2 : Int32) (x4 : Int32) (t0 : Int32) : Option Int32 :=
  k5 t0 (x4 + (1 : Int32))
set_option maxHeartbeats 4000000 in
set_option maxRecDepth 100000 in
theorem w_X8_doesFit_106 {X : Cx} {r : Int32} {M : Mem} {k5 : Int32 → Int32 → Option Int32} {x1 : Int32} {x2 : Int32}   {x4 : Int32} {t0 : Int32} (hr : X.meth.sig.returnType = (some .boolean)) (hk5 : ∀ {x3_ : Int32} {x4_ : Int32}, k5 x3_ x4_ = some r → G X (some (.int r), M) RX8 cX8_doesFit 6 4 92 5 [some (.ref (X.1.1 63)), some (.int x1), some (.int x2), some (.int x3_), some (.int x4_), none] [] M) (hf : b_X8_doesFit_106 k5 M x1 x2 x4 t0 = some r) : G X (some (.int r), M) RX8 cX8_doesFit 6 4 92 106 [some (.ref (X.1.1 63)), some (.int x1), some (.int x2), none, some (.int x4), none] [.int t0] M := by
  unfold b_X8_doesFit_106 at hf
  refine g_ist3 dX8_doesFit_106 (by decide) lnl_i ?_
  refine g_iinc4 (v := (x4 + (1 : Int32))) dX8_doesFit_107 (by decide) lnl_i rfl ?_
  refine g_goto (tgt := 5) dX8_doesFit_110 (by decide) ?_
  exact hk5 hf
def b_X8_doesFit_37 (k5 : Int32 → Int32 → Option Int32) (M : Mem) (x1 : Int32) (x2 : Int32) (x3 : Int32) (x4 : Int32) (t0 : Int32) : Option Int32 :=
  if x3 = 0 then (b_X8_doesFit_106 k5 M x1 x2 x4 (0 : Int32))
  else (if t0 = 0 then (b_X8_doesFit_106 k5 M x1 x2 x4 (1 : Int32))
  else (ck (((36 : Int32) + ((2 : Int32) * x4)) + (1 : Int32)) 188 <|
  ck ((4 : Int32) + ((2 : Int32) * x4)) 20 <|
  (f_X8_becomes (x2 / (16 : Int32)) (x2 - x2 / (16 : Int32) * (16 : Int32)) (M.1 64 (((36 : Int32) + ((2 : Int32) * x4)) + (1 : Int32)).toNatClampNeg) (M.2 66 ((4 : Int32) + ((2 : Int32) * x4)).toNatClampNeg)).bind fun r1 =>
  ck (((4 : Int32) + ((2 : Int32) * x4)) + (1 : Int32)) 20 <|
  if (lg_cmp r1 (M.2 66 (((4 : Int32) + ((2 : Int32) * x4)) + (1 : Int32)).toNatClampNeg)) = 0 then (b_X8_doesFit_106 k5 M x1 x2 x4 (1 : Int32))
  else (b_X8_doesFit_106 k5 M x1 x2 x4 (0 : Int32))))
set_option maxHeartbeats 4000000 in
set_option maxRecDepth 100000 in
theorem w_X8_doesFit_37 {X : Cx} {r : Int32} {M : Mem} {k5 : Int32 → Int32 → Option Int32} {x1 : Int32} {x2 : Int32}   {x3 : Int32} {x4 : Int32} {t0 : Int32} (hr : X.meth.sig.returnType = (some .boolean)) (hk5 : ∀ {x3_ : Int32} {x4_ : Int32}, k5 x3_ x4_ = some r → G X (some (.int r), M) RX8 cX8_doesFit 6 4 92 5 [some (.ref (X.1.1 63)), some (.int x1), some (.int x2), some (.int x3_), some (.int x4_), none] [] M) (hf : b_X8_doesFit_37 k5 M x1 x2 x3 x4 t0 = some r) : G X (some (.int r), M) RX8 cX8_doesFit 6 4 92 37 [some (.ref (X.1.1 63)), some (.int x1), some (.int x2), some (.int x3), some (.int x4), none] [.int t0] M := by
  unfold b_X8_doesFit_37 at hf
  refine g_ist5 dX8_doesFit_37 (by decide) lnl_i ?_
  refine g_iload_n dX8_doesFit_39 rfl ?_
  refine g_if_eq (tgt := 105) dX8_doesFit_40 (by decide) (fun hc => ?_) (fun hc => ?_)
  · have hf := ite_t hc hf
    refine g_iconst (v := 0) dX8_doesFit_105 (by decide) ?_
    exact g_weakr (w_X8_doesFit_106 hr hk5 hf) (lsk (lsk (lsk (lsd (lsk (lsd lsz))))))
  · have hf := ite_f hc hf
    refine g_iload dX8_doesFit_43 rfl ?_
    refine g_if_eq (tgt := 101) dX8_doesFit_45 (by decide) (fun hc => ?_) (fun hc => ?_)
    · have hf := ite_t hc hf
      refine g_iconst (v := 1) dX8_doesFit_101 (by decide) ?_
      refine g_goto (tgt := 106) dX8_doesFit_102 (by decide) ?_
      exact g_weakr (w_X8_doesFit_106 hr hk5 hf) (lsk (lsk (lsk (lsd (lsk (lsd lsz))))))
    · have hf := ite_f hc hf
      refine g_iload_n dX8_doesFit_48 rfl ?_
      refine g_bipush (v := 16) dX8_doesFit_49 (by decide) ?_
      refine g_idiv dX8_doesFit_51 (by decide) ?_
      refine g_iload_n dX8_doesFit_52 rfl ?_
      refine g_bipush (v := 16) dX8_doesFit_53 (by decide) ?_
      refine g_irem dX8_doesFit_55 (by decide) ?_
      refine g_aload_n dX8_doesFit_56 rfl ?_
      refine g_get (kk := 63) (by decide) (cel_63 _ _ _) rfl inX8 fl_X8_7 (by decide) rfl dX8_doesFit_57 ?_
      refine g_bipush (v := 36) dX8_doesFit_60 (by decide) ?_
      refine g_iconst (v := 2) dX8_doesFit_62 (by decide) ?_
      refine g_iload dX8_doesFit_63 rfl ?_
      refine g_imul dX8_doesFit_65 ?_
      refine g_iadd dX8_doesFit_66 ?_
      refine g_iconst (v := 1) dX8_doesFit_67 (by decide) ?_
      refine g_iadd dX8_doesFit_68 ?_
      obtain ⟨hi, hf⟩ := ck_s hf
      refine g_iaload (kk := 64) (by decide) (fun f g => cel_64 _ f g) hi rfl dX8_doesFit_69 ?_
      refine g_aload_n dX8_doesFit_70 rfl ?_
      refine g_get (kk := 63) (by decide) (cel_63 _ _ _) rfl inX8 fl_X8_16 (by decide) rfl dX8_doesFit_71 ?_
      refine g_iconst (v := 4) dX8_doesFit_74 (by decide) ?_
      refine g_iconst (v := 2) dX8_doesFit_75 (by decide) ?_
      refine g_iload dX8_doesFit_76 rfl ?_
      refine g_imul dX8_doesFit_78 ?_
      refine g_iadd dX8_doesFit_79 ?_
      obtain ⟨hi, hf⟩ := ck_s hf
      refine g_laload (kk := 66) (by decide) (fun f g => cel_66 _ f g) hi rfl dX8_doesFit_80 ?_
      obtain ⟨r1, hq, hf⟩ := bnd hf
      refine g_cS_IIIJ_J (c_X8_becomes hq) cs_X8_154 ⟨by decide, by decide⟩ (Nat.le_of_ble_eq_true rfl) dX8_doesFit_81 ?_
      refine g_aload_n dX8_doesFit_84 rfl ?_
      refine g_get (kk := 63) (by decide) (cel_63 _ _ _) rfl inX8 fl_X8_16 (by decide) rfl dX8_doesFit_85 ?_
      refine g_iconst (v := 4) dX8_doesFit_88 (by decide) ?_
      refine g_iconst (v := 2) dX8_doesFit_89 (by decide) ?_
      refine g_iload dX8_doesFit_90 rfl ?_
      refine g_imul dX8_doesFit_92 ?_
      refine g_iadd dX8_doesFit_93 ?_
      refine g_iconst (v := 1) dX8_doesFit_94 (by decide) ?_
      refine g_iadd dX8_doesFit_95 ?_
      obtain ⟨hi, hf⟩ := ck_s hf
      refine g_laload (kk := 66) (by decide) (fun f g => cel_66 _ f g) hi rfl dX8_doesFit_96 ?_
      refine g_lcmp dX8_doesFit_97 ?_
      refine g_if_ne (tgt := 105) dX8_doesFit_98 (by decide) (fun hc => ?_) (fun hc => ?_)
      · have hf := ite_f hc hf
        refine g_iconst (v := 0) dX8_doesFit_105 (by decide) ?_
        exact g_weakr (w_X8_doesFit_106 hr hk5 hf) (lsk (lsk (lsk (lsd (lsk (lsd lsz))))))
      · have hf := ite_t hc hf
        refine g_iconst (v := 1) dX8_doesFit_101 (by decide) ?_
        refine g_goto (tgt := 106) dX8_doesFit_102 (by decide) ?_
        exact g_weakr (w_X8_doesFit_106 hr hk5 hf) (lsk (lsk (lsk (lsd (lsk (lsd lsz))))))
def b_X8_doesFit_5  (M : Mem) (x1 : Int32) (x2 : Int32) : Nat → Int32 → Int32 → Option Int32
  | 0, _, _ => none
  | n + 1, x3, x4 =>
    if (M.1 64 2) ≤ x4 then (ckB x3 (some x3))
    else (ck ((36 : Int32) + ((2 : Int32) * x4)) 188 <|
    if (M.1 64 ((36 : Int32) + ((2 : Int32) * x4)).toNatClampNeg) = x1 then (b_X8_doesFit_37 (fun x3_ x4_ => b_X8_doesFit_5 M x1 x2 n x3_ x4_) M x1 x2 x3 x4 (1 : Int32))
    else (b_X8_doesFit_37 (fun x3_ x4_ => b_X8_doesFit_5 M x1 x2 n x3_ x4_) M x1 x2 x3 x4 (0 : Int32)))
set_option maxHeartbeats 4000000 in
set_option maxRecDepth 100000 in
theorem w_X8_doesFit_5 {X : Cx} {r : Int32} {M : Mem}  {x1 : Int32} {x2 : Int32}   (hr : X.meth.sig.returnType = (some .boolean)) : ∀ (n : Nat) {x3 : Int32} {x4 : Int32}, b_X8_doesFit_5 M x1 x2 n x3 x4 = some r → G X (some (.int r), M) RX8 cX8_doesFit 6 4 92 5 [some (.ref (X.1.1 63)), some (.int x1), some (.int x2), some (.int x3), some (.int x4), none] [] M := by
  intro n
  induction n with
  | zero => intro x3 x4 hf; cases hf
  | succ n ih =>
    intro x3 x4 hf
    rw [b_X8_doesFit_5.eq_2] at hf
    refine g_iload dX8_doesFit_5 rfl ?_
    refine g_aload_n dX8_doesFit_7 rfl ?_
    refine g_get (kk := 63) (by decide) (cel_63 _ _ _) rfl inX8 fl_X8_7 (by decide) rfl dX8_doesFit_8 ?_
    refine g_iconst (v := 2) dX8_doesFit_11 (by decide) ?_
    refine g_iaload (kk := 64) (by decide) (fun f g => cel_64 _ f g) (vp_in_iff.mpr ⟨by decide, by decide⟩) (j := 2) (by decide) dX8_doesFit_12 ?_
    refine g_icmp_ge (tgt := 113) dX8_doesFit_13 (by decide) (fun hc => ?_) (fun hc => ?_)
    · have hf := ite_t hc hf
      refine g_iload_n dX8_doesFit_113 rfl ?_
      obtain ⟨hz, hf⟩ := ckB_s hf
      exact g_zret_p hr hz hf dX8_doesFit_114
    · have hf := ite_f hc hf
      refine g_aload_n dX8_doesFit_16 rfl ?_
      refine g_get (kk := 63) (by decide) (cel_63 _ _ _) rfl inX8 fl_X8_7 (by decide) rfl dX8_doesFit_17 ?_
      refine g_bipush (v := 36) dX8_doesFit_20 (by decide) ?_
      refine g_iconst (v := 2) dX8_doesFit_22 (by decide) ?_
      refine g_iload dX8_doesFit_23 rfl ?_
      refine g_imul dX8_doesFit_25 ?_
      refine g_iadd dX8_doesFit_26 ?_
      obtain ⟨hi, hf⟩ := ck_s hf
      refine g_iaload (kk := 64) (by decide) (fun f g => cel_64 _ f g) hi rfl dX8_doesFit_27 ?_
      refine g_iload_n dX8_doesFit_28 rfl ?_
      refine g_icmp_ne (tgt := 36) dX8_doesFit_29 (by decide) (fun hc => ?_) (fun hc => ?_)
      · have hf := ite_f hc hf
        refine g_iconst (v := 0) dX8_doesFit_36 (by decide) ?_
        exact w_X8_doesFit_37 hr (fun hf => ih hf) hf
      · have hf := ite_t hc hf
        refine g_iconst (v := 1) dX8_doesFit_32 (by decide) ?_
        refine g_goto (tgt := 37) dX8_doesFit_33 (by decide) ?_
        exact w_X8_doesFit_37 hr (fun hf => ih hf) hf
def f_X8_doesFit (M : Mem) (x1 : Int32) (x2 : Int32) : Option Int32 :=
  b_X8_doesFit_5 M x1 x2 fu (1 : Int32) (0 : Int32)
set_option maxHeartbeats 4000000 in
set_option maxRecDepth 100000 in
theorem c_X8_doesFit {l : Launch} {x1 : Int32} {x2 : Int32} {M : Mem} {r : Int32} (hf : f_X8_doesFit M x1 x2 = some r) : Cn l yX8_doesFit cX8_doesFit 6 (some .boolean) 4 92 (fun E => [.ref (E.1 63), .int x1, .int x2]) M (some (.int r), M) := by
  unfold f_X8_doesFit at hf
  refine cn_of RX8 (fun E => [some (.ref (E.1 63)), some (.int x1), some (.int x2), none, none, none]) (by decide +kernel) rfl (fun E => Nat.le_of_ble_eq_true rfl) (fun E => rfl) (fun X hr => ?_)
  refine g_iconst (v := 1) dX8_doesFit_0 (by decide) ?_
  refine g_ist3 dX8_doesFit_1 (by decide) lnl_i ?_
  refine g_iconst (v := 0) dX8_doesFit_2 (by decide) ?_
  refine g_ist4 dX8_doesFit_3 (by decide) lnl_i ?_
  exact w_X8_doesFit_5 hr fu hf
-- X8_fits
def b_X8_fits_66 (k33 : Int32 → Int32 → Int32 → Mem → Option (Int32 × Mem))  (x1 : Int32) (x2 : Int32) (x3 : Int32) (x4 : Int32) (x5 : Int32) (M : Mem) : Option (Int32 × Mem) :=
  k33 x3 x4 (x5 + (1 : Int32)) M
set_option maxHeartbeats 4000000 in
set_option maxRecDepth 100000 in
theorem w_X8_fits_66 {X : Cx} {r : Int32} {M1 : Mem}  {k33 : Int32 → Int32 → Int32 → Mem → Option (Int32 × Mem)} {x1 : Int32} {x2 : Int32}   {x3 : Int32} {x4 : Int32} {x5 : Int32} {M : Mem} (hr : X.meth.sig.returnType = (some .int)) (hk33 : ∀ {x3_ : Int32} {x4_ : Int32} {x5_ : Int32} {M_ : Mem}, k33 x3_ x4_ x5_ M_ = some (r, M1) → G X (some (.int r), M1) RX8 cX8_fits 6 5 117 33 [some (.ref (X.1.1 63)), some (.int x1), some (.int x2), some (.int x3_), some (.int x4_), some (.int x5_)] [] M_) (hf : b_X8_fits_66 k33 x1 x2 x3 x4 x5 M = some (r, M1)) : G X (some (.int r), M1) RX8 cX8_fits 6 5 117 66 [some (.ref (X.1.1 63)), some (.int x1), some (.int x2), some (.int x3), some (.int x4), some (.int x5)] [] M := by
  unfold b_X8_fits_66 at hf
  refine g_iinc5 (v := (x5 + (1 : Int32))) dX8_fits_66 (by decide) lnl_i rfl ?_
  refine g_goto (tgt := 33) dX8_fits_69 (by decide) ?_
  exact hk33 hf
def b_X8_fits_61 (k66 : Int32 → Int32 → Int32 → Mem → Option (Int32 × Mem))  (x1 : Int32) (x2 : Int32) (x3 : Int32) (x5 : Int32) (t0 : Int32) (M : Mem) : Option (Int32 × Mem) :=
  k66 (x3 + (1 : Int32)) t0 x5 M
set_option maxHeartbeats 4000000 in
set_option maxRecDepth 100000 in
theorem w_X8_fits_61 {X : Cx} {r : Int32} {M1 : Mem}  {k66 : Int32 → Int32 → Int32 → Mem → Option (Int32 × Mem)} {x1 : Int32} {x2 : Int32}   {x3 : Int32} {x5 : Int32} {t0 : Int32} {M : Mem} (hr : X.meth.sig.returnType = (some .int)) (hk66 : ∀ {x3_ : Int32} {x4_ : Int32} {x5_ : Int32} {M_ : Mem}, k66 x3_ x4_ x5_ M_ = some (r, M1) → G X (some (.int r), M1) RX8 cX8_fits 6 5 117 66 [some (.ref (X.1.1 63)), some (.int x1), some (.int x2), some (.int x3_), some (.int x4_), some (.int x5_)] [] M_) (hf : b_X8_fits_61 k66 x1 x2 x3 x5 t0 M = some (r, M1)) : G X (some (.int r), M1) RX8 cX8_fits 6 5 117 61 [some (.ref (X.1.1 63)), some (.int x1), some (.int x2), some (.int x3), none, some (.int x5)] [.int t0] M := by
  unfold b_X8_fits_61 at hf
  refine g_ist4 dX8_fits_61 (by decide) lnl_i ?_
  refine g_iinc3 (v := (x3 + (1 : Int32))) dX8_fits_63 (by decide) lnl_i rfl ?_
  exact hk66 hf
def b_X8_fits_33   (x1 : Int32) (x2 : Int32) : Nat → Int32 → Int32 → Int32 → Mem → Option (Int32 × Mem)
  | 0, _, _, _, _ => none
  | n + 1, x3, x4, x5, M =>
    if (96 : Int32) ≤ x5 then (if x2 = 0 then (some (x3, M))
    else (some (x4, M)))
    else ((f_X8_doesFit M x1 x5).bind fun r2 =>
    if r2 = 0 then (b_X8_fits_66 (fun x3_ x4_ x5_ M_ => b_X8_fits_33 x1 x2 n x3_ x4_ x5_ M_) x1 x2 x3 x4 x5 M)
    else (if x3 = 0 then (b_X8_fits_61 (fun x3_ x4_ x5_ M_ => b_X8_fits_66 (fun x3_ x4_ x5_ M_ => b_X8_fits_33 x1 x2 n x3_ x4_ x5_ M_) x1 x2 x3_ x4_ x5_ M_) x1 x2 x3 x5 x5 M)
    else (b_X8_fits_61 (fun x3_ x4_ x5_ M_ => b_X8_fits_66 (fun x3_ x4_ x5_ M_ => b_X8_fits_33 x1 x2 n x3_ x4_ x5_ M_) x1 x2 x3_ x4_ x5_ M_) x1 x2 x3 x5 x4 M)))
set_option maxHeartbeats 4000000 in
set_option maxRecDepth 100000 in
theorem w_X8_fits_33 {X : Cx} {r : Int32} {M1 : Mem}   {x1 : Int32} {x2 : Int32}   (hr : X.meth.sig.returnType = (some .int)) : ∀ (n : Nat) {x3 : Int32} {x4 : Int32} {x5 : Int32} {M : Mem}, b_X8_fits_33 x1 x2 n x3 x4 x5 M = some (r, M1) → G X (some (.int r), M1) RX8 cX8_fits 6 5 117 33 [some (.ref (X.1.1 63)), some (.int x1), some (.int x2), some (.int x3), some (.int x4), some (.int x5)] [] M := by
  intro n
  induction n with
  | zero => intro x3 x4 x5 M hf; cases hf
  | succ n ih =>
    intro x3 x4 x5 M hf
    rw [b_X8_fits_33.eq_2] at hf
    refine g_iload dX8_fits_33 rfl ?_
    refine g_bipush (v := 96) dX8_fits_35 (by decide) ?_
    refine g_icmp_ge (tgt := 72) dX8_fits_37 (by decide) (fun hc => ?_) (fun hc => ?_)
    · have hf := ite_t hc hf
      refine g_iload_n dX8_fits_72 rfl ?_
      refine g_if_ne (tgt := 80) dX8_fits_73 (by decide) (fun hc => ?_) (fun hc => ?_)
      · have hf := ite_f hc hf
        refine g_iload dX8_fits_80 rfl ?_
        exact g_iret_w hr hf dX8_fits_82
      · have hf := ite_t hc hf
        refine g_iload_n dX8_fits_76 rfl ?_
        refine g_goto (tgt := 82) dX8_fits_77 (by decide) ?_
        exact g_iret_w hr hf dX8_fits_82
    · have hf := ite_f hc hf
      refine g_aload_n dX8_fits_40 rfl ?_
      refine g_iload_n dX8_fits_41 rfl ?_
      refine g_iload dX8_fits_42 rfl ?_
      obtain ⟨r2, hq, hf⟩ := bnd hf
      refine g_cV_II_I (c_X8_doesFit hq) cv_X8_207 (by decide) (cel_63 _ _ _) rfl ⟨by decide, by decide⟩ (Nat.le_of_ble_eq_true rfl) dX8_fits_44 ?_
      refine g_if_eq (tgt := 66) dX8_fits_47 (by decide) (fun hc => ?_) (fun hc => ?_)
      · have hf := ite_t hc hf
        exact w_X8_fits_66 hr (fun hf => ih hf) hf
      · have hf := ite_f hc hf
        refine g_iload_n dX8_fits_50 rfl ?_
        refine g_if_ne (tgt := 59) dX8_fits_51 (by decide) (fun hc => ?_) (fun hc => ?_)
        · have hf := ite_f hc hf
          refine g_iload dX8_fits_59 rfl ?_
          exact g_weakr (w_X8_fits_61 hr (fun hf => w_X8_fits_66 hr (fun hf => ih hf) hf) hf) (lsk (lsk (lsk (lsk (lsd (lsk lsz))))))
        · have hf := ite_t hc hf
          refine g_iload dX8_fits_54 rfl ?_
          refine g_goto (tgt := 61) dX8_fits_56 (by decide) ?_
          exact g_weakr (w_X8_fits_61 hr (fun hf => w_X8_fits_66 hr (fun hf => ih hf) hf) hf) (lsk (lsk (lsk (lsk (lsd (lsk lsz))))))
def f_X8_fits (x1 : Int32) (x2 : Int32) (M : Mem) : Option (Int32 × Mem) :=
  if (f_X8_isBridge M x1) = 0 then ((f_X8_bad (-10 : Int32) M).bind fun r1 =>
  some (r1.1, r1.2))
  else (if (f_X8_in x2.toInt64 (0 : Int64) (1 : Int64)) = 0 then ((f_X8_bad (-10 : Int32) M).bind fun r3 =>
  some (r3.1, r3.2))
  else (b_X8_fits_33 x1 x2 fu (0 : Int32) (-1 : Int32) (0 : Int32) M))
set_option maxHeartbeats 4000000 in
set_option maxRecDepth 100000 in
theorem c_X8_fits {l : Launch} {x1 : Int32} {x2 : Int32} {M : Mem} {r : Int32} {M1 : Mem} (hf : f_X8_fits x1 x2 M = some (r, M1)) : Cn l yX8_fits cX8_fits 6 (some .int) 5 117 (fun E => [.ref (E.1 63), .int x1, .int x2]) M (some (.int r), M1) := by
  unfold f_X8_fits at hf
  refine cn_of RX8 (fun E => [some (.ref (E.1 63)), some (.int x1), some (.int x2), none, none, none]) (by decide +kernel) rfl (fun E => Nat.le_of_ble_eq_true rfl) (fun E => rfl) (fun X hr => ?_)
  refine g_aload_n dX8_fits_0 rfl ?_
  refine g_iload_n dX8_fits_1 rfl ?_
  refine g_cV_I_I (c_X8_isBridge rfl) cv_X8_139 (by decide) (cel_63 _ _ _) rfl ⟨by decide, by decide⟩ (Nat.le_of_ble_eq_true rfl) dX8_fits_2 ?_
  refine g_if_eq (tgt := 18) dX8_fits_5 (by decide) (fun hc => ?_) (fun hc => ?_)
  · have hf := ite_t hc hf
    refine g_aload_n dX8_fits_18 rfl ?_
    refine g_bipush (v := (-10)) dX8_fits_19 (by decide) ?_
    obtain ⟨r1, hq, hf⟩ := bnd hf
    refine g_cV_I_I (c_X8_bad (r := r1.1) (M1 := r1.2) hq) cv_X8_116 (by decide) (cel_63 _ _ _) rfl ⟨by decide, by decide⟩ (Nat.le_of_ble_eq_true rfl) dX8_fits_21 ?_
    exact g_iret_w hr hf dX8_fits_24
  · have hf := ite_f hc hf
    refine g_iload_n dX8_fits_8 rfl ?_
    refine g_i2l dX8_fits_9 ?_
    refine g_lconst (v := 0) dX8_fits_10 (by decide) ?_
    refine g_lconst (v := 1) dX8_fits_11 (by decide) ?_
    refine g_cS_JJJ_I (c_X8_in rfl) cs_X8_106 ⟨by decide, by decide⟩ (Nat.le_of_ble_eq_true rfl) dX8_fits_12 ?_
    refine g_if_ne (tgt := 25) dX8_fits_15 (by decide) (fun hc => ?_) (fun hc => ?_)
    · have hf := ite_f hc hf
      refine g_iconst (v := 0) dX8_fits_25 (by decide) ?_
      refine g_ist3 dX8_fits_26 (by decide) lnl_i ?_
      refine g_iconst (v := (-1)) dX8_fits_27 (by decide) ?_
      refine g_ist4 dX8_fits_28 (by decide) lnl_i ?_
      refine g_iconst (v := 0) dX8_fits_30 (by decide) ?_
      refine g_ist5 dX8_fits_31 (by decide) lnl_i ?_
      exact w_X8_fits_33 hr fu hf
    · have hf := ite_t hc hf
      refine g_aload_n dX8_fits_18 rfl ?_
      refine g_bipush (v := (-10)) dX8_fits_19 (by decide) ?_
      obtain ⟨r3, hq, hf⟩ := bnd hf
      refine g_cV_I_I (c_X8_bad (r := r3.1) (M1 := r3.2) hq) cv_X8_116 (by decide) (cel_63 _ _ _) rfl ⟨by decide, by decide⟩ (Nat.le_of_ble_eq_true rfl) dX8_fits_21 ?_
      exact g_iret_w hr hf dX8_fits_24
-- X8_mostAlike
def b_X8_mostAlike_126 (k4 : Int32 → Int32 → Option Int32) (M : Mem) (x1 : Int32) (x3 : Int32) (t0 : Int32) : Option Int32 :=
  k4 t0 (x3 + (1 : Int32))
set_option maxHeartbeats 4000000 in
set_option maxRecDepth 100000 in
theorem w_X8_mostAlike_126 {X : Cx} {r : Int32} {M : Mem} {k4 : Int32 → Int32 → Option Int32} {x1 : Int32}   {x3 : Int32} {t0 : Int32} (hr : X.meth.sig.returnType = (some .int)) (hk4 : ∀ {x2_ : Int32} {x3_ : Int32}, k4 x2_ x3_ = some r → G X (some (.int r), M) RX8 cX8_mostAlike 8 4 92 4 [some (.ref (X.1.1 63)), some (.int x1), some (.int x2_), some (.int x3_), none, none, none, none] [] M) (hf : b_X8_mostAlike_126 k4 M x1 x3 t0 = some r) : G X (some (.int r), M) RX8 cX8_mostAlike 8 4 92 126 [some (.ref (X.1.1 63)), some (.int x1), none, some (.int x3), none, none, none, none] [.int t0] M := by
  unfold b_X8_mostAlike_126 at hf
  refine g_ist2 dX8_mostAlike_126 (by decide) lnl_i ?_
  refine g_iinc3 (v := (x3 + (1 : Int32))) dX8_mostAlike_127 (by decide) lnl_i rfl ?_
  refine g_goto (tgt := 4) dX8_mostAlike_130 (by decide) ?_
  exact hk4 hf
def b_X8_mostAlike_114 (k4 : Int32 → Int32 → Option Int32) (M : Mem) (x1 : Int32) (x2 : Int32) (x3 : Int32) (x4 : Int32) : Option Int32 :=
  if x4 ≤ x2 then (b_X8_mostAlike_126 k4 M x1 x3 x2)
  else (b_X8_mostAlike_126 k4 M x1 x3 x4)
set_option maxHeartbeats 4000000 in
set_option maxRecDepth 100000 in
theorem w_X8_mostAlike_114 {X : Cx} {r : Int32} {M : Mem} {k4 : Int32 → Int32 → Option Int32} {x1 : Int32}   {x2 : Int32} {x3 : Int32} {x4 : Int32} (hr : X.meth.sig.returnType = (some .int)) (hk4 : ∀ {x2_ : Int32} {x3_ : Int32}, k4 x2_ x3_ = some r → G X (some (.int r), M) RX8 cX8_mostAlike 8 4 92 4 [some (.ref (X.1.1 63)), some (.int x1), some (.int x2_), some (.int x3_), none, none, none, none] [] M) (hf : b_X8_mostAlike_114 k4 M x1 x2 x3 x4 = some r) : G X (some (.int r), M) RX8 cX8_mostAlike 8 4 92 114 [some (.ref (X.1.1 63)), some (.int x1), some (.int x2), some (.int x3), some (.int x4), none, none, none] [] M := by
  unfold b_X8_mostAlike_114 at hf
  refine g_iload dX8_mostAlike_114 rfl ?_
  refine g_iload_n dX8_mostAlike_116 rfl ?_
  refine g_icmp_le (tgt := 125) dX8_mostAlike_117 (by decide) (fun hc => ?_) (fun hc => ?_)
  · have hf := ite_t hc hf
    refine g_iload_n dX8_mostAlike_125 rfl ?_
    exact g_weakr (w_X8_mostAlike_126 hr hk4 hf) (lsk (lsk (lsd (lsk (lsd (lsd (lsd (lsd lsz))))))))
  · have hf := ite_f hc hf
    refine g_iload dX8_mostAlike_120 rfl ?_
    refine g_goto (tgt := 126) dX8_mostAlike_122 (by decide) ?_
    exact g_weakr (w_X8_mostAlike_126 hr hk4 hf) (lsk (lsk (lsd (lsk (lsd (lsd (lsd (lsd lsz))))))))
def b_X8_mostAlike_105 (k41 : Int32 → Int32 → Option Int32) (M : Mem) (x1 : Int32) (x2 : Int32) (x3 : Int32) (x5 : Int64) (x7 : Int32) (t0 : Int32) (t1 : Int32) : Option Int32 :=
  k41 (t1 + t0) (x7 + (1 : Int32))
set_option maxHeartbeats 4000000 in
set_option maxRecDepth 100000 in
theorem w_X8_mostAlike_105 {X : Cx} {r : Int32} {M : Mem} {k41 : Int32 → Int32 → Option Int32} {x1 : Int32} {x2 : Int32} {x3 : Int32} {x5 : Int64}   {x7 : Int32} {t0 : Int32} {t1 : Int32} (hr : X.meth.sig.returnType = (some .int)) (hk41 : ∀ {x4_ : Int32} {x7_ : Int32}, k41 x4_ x7_ = some r → G X (some (.int r), M) RX8 cX8_mostAlike 8 4 92 41 [some (.ref (X.1.1 63)), some (.int x1), some (.int x2), some (.int x3), some (.int x4_), some (.long x5), none, some (.int x7_)] [] M) (hf : b_X8_mostAlike_105 k41 M x1 x2 x3 x5 x7 t0 t1 = some r) : G X (some (.int r), M) RX8 cX8_mostAlike 8 4 92 105 [some (.ref (X.1.1 63)), some (.int x1), some (.int x2), some (.int x3), none, some (.long x5), none, some (.int x7)] [.int t0, .int t1] M := by
  unfold b_X8_mostAlike_105 at hf
  refine g_iadd dX8_mostAlike_105 ?_
  refine g_ist4 dX8_mostAlike_106 (by decide) lnl_i ?_
  refine g_iinc7 (v := (x7 + (1 : Int32))) dX8_mostAlike_108 (by decide) lnl_n rfl ?_
  refine g_goto (tgt := 41) dX8_mostAlike_111 (by decide) ?_
  exact hk41 hf
def b_X8_mostAlike_41 (k4 : Int32 → Int32 → Option Int32) (M : Mem) (x1 : Int32) (x2 : Int32) (x3 : Int32) (x5 : Int64) : Nat → Int32 → Int32 → Option Int32
  | 0, _, _ => none
  | n + 1, x4, x7 =>
    if (96 : Int32) ≤ x7 then (b_X8_mostAlike_114 k4 M x1 x2 x3 x4)
    else (ck x3 96 <|
    if (M.1 75 x3.toNatClampNeg) = 0 then (b_X8_mostAlike_114 k4 M x1 x2 x3 x4)
    else (ck x7 96 <|
    if (M.1 75 x7.toNatClampNeg) = 0 then (b_X8_mostAlike_105 (fun x4_ x7_ => b_X8_mostAlike_41 k4 M x1 x2 x3 x5 n x4_ x7_) M x1 x2 x3 x5 x7 (0 : Int32) x4)
    else (ck x1 20 <|
    (f_X8_becomes (x7 / (16 : Int32)) (x7 - x7 / (16 : Int32) * (16 : Int32)) (M.1 64 1) (M.2 66 x1.toNatClampNeg)).bind fun r2 =>
    if (lg_cmp r2 x5) = 0 then (b_X8_mostAlike_105 (fun x4_ x7_ => b_X8_mostAlike_41 k4 M x1 x2 x3 x5 n x4_ x7_) M x1 x2 x3 x5 x7 (1 : Int32) x4)
    else (b_X8_mostAlike_105 (fun x4_ x7_ => b_X8_mostAlike_41 k4 M x1 x2 x3 x5 n x4_ x7_) M x1 x2 x3 x5 x7 (0 : Int32) x4))))
set_option maxHeartbeats 4000000 in
set_option maxRecDepth 100000 in
theorem w_X8_mostAlike_41 {X : Cx} {r : Int32} {M : Mem} {k4 : Int32 → Int32 → Option Int32} {x1 : Int32} {x2 : Int32} {x3 : Int32} {x5 : Int64}   (hr : X.meth.sig.returnType = (some .int)) (hk4 : ∀ {x2_ : Int32} {x3_ : Int32}, k4 x2_ x3_ = some r → G X (some (.int r), M) RX8 cX8_mostAlike 8 4 92 4 [some (.ref (X.1.1 63)), some (.int x1), some (.int x2_), some (.int x3_), none, none, none, none] [] M) : ∀ (n : Nat) {x4 : Int32} {x7 : Int32}, b_X8_mostAlike_41 k4 M x1 x2 x3 x5 n x4 x7 = some r → G X (some (.int r), M) RX8 cX8_mostAlike 8 4 92 41 [some (.ref (X.1.1 63)), some (.int x1), some (.int x2), some (.int x3), some (.int x4), some (.long x5), none, some (.int x7)] [] M := by
  intro n
  induction n with
  | zero => intro x4 x7 hf; cases hf
  | succ n ih =>
    intro x4 x7 hf
    rw [b_X8_mostAlike_41.eq_2] at hf
    refine g_iload dX8_mostAlike_41 rfl ?_
    refine g_bipush (v := 96) dX8_mostAlike_43 (by decide) ?_
    refine g_icmp_ge (tgt := 114) dX8_mostAlike_45 (by decide) (fun hc => ?_) (fun hc => ?_)
    · have hf := ite_t hc hf
      exact g_weakr (w_X8_mostAlike_114 hr hk4 hf) (lsk (lsk (lsk (lsk (lsk (lsd (lsd (lsd lsz))))))))
    · have hf := ite_f hc hf
      refine g_aload_n dX8_mostAlike_48 rfl ?_
      refine g_get (kk := 63) (by decide) (cel_63 _ _ _) rfl inX8 fl_X8_49 (by decide) rfl dX8_mostAlike_49 ?_
      refine g_iload_n dX8_mostAlike_52 rfl ?_
      obtain ⟨hi, hf⟩ := ck_s hf
      refine g_zaload (kk := 75) (by decide) (fun f g => cel_75 _ f g) hi rfl dX8_mostAlike_53 ?_
      refine g_if_eq (tgt := 114) dX8_mostAlike_54 (by decide) (fun hc => ?_) (fun hc => ?_)
      · have hf := ite_t hc hf
        exact g_weakr (w_X8_mostAlike_114 hr hk4 hf) (lsk (lsk (lsk (lsk (lsk (lsd (lsd (lsd lsz))))))))
      · have hf := ite_f hc hf
        refine g_iload dX8_mostAlike_57 rfl ?_
        refine g_aload_n dX8_mostAlike_59 rfl ?_
        refine g_get (kk := 63) (by decide) (cel_63 _ _ _) rfl inX8 fl_X8_49 (by decide) rfl dX8_mostAlike_60 ?_
        refine g_iload dX8_mostAlike_63 rfl ?_
        obtain ⟨hi, hf⟩ := ck_s hf
        refine g_zaload (kk := 75) (by decide) (fun f g => cel_75 _ f g) hi rfl dX8_mostAlike_65 ?_
        refine g_if_eq (tgt := 104) dX8_mostAlike_66 (by decide) (fun hc => ?_) (fun hc => ?_)
        · have hf := ite_t hc hf
          refine g_iconst (v := 0) dX8_mostAlike_104 (by decide) ?_
          exact g_weakr (w_X8_mostAlike_105 hr (fun hf => ih hf) hf) (lsk (lsk (lsk (lsk (lsd (lsk (lsd (lsk lsz))))))))
        · have hf := ite_f hc hf
          refine g_iload dX8_mostAlike_69 rfl ?_
          refine g_bipush (v := 16) dX8_mostAlike_71 (by decide) ?_
          refine g_idiv dX8_mostAlike_73 (by decide) ?_
          refine g_iload dX8_mostAlike_74 rfl ?_
          refine g_bipush (v := 16) dX8_mostAlike_76 (by decide) ?_
          refine g_irem dX8_mostAlike_78 (by decide) ?_
          refine g_aload_n dX8_mostAlike_79 rfl ?_
          refine g_get (kk := 63) (by decide) (cel_63 _ _ _) rfl inX8 fl_X8_7 (by decide) rfl dX8_mostAlike_80 ?_
          refine g_iconst (v := 1) dX8_mostAlike_83 (by decide) ?_
          refine g_iaload (kk := 64) (by decide) (fun f g => cel_64 _ f g) (vp_in_iff.mpr ⟨by decide, by decide⟩) (j := 1) (by decide) dX8_mostAlike_84 ?_
          refine g_aload_n dX8_mostAlike_85 rfl ?_
          refine g_get (kk := 63) (by decide) (cel_63 _ _ _) rfl inX8 fl_X8_16 (by decide) rfl dX8_mostAlike_86 ?_
          refine g_iload_n dX8_mostAlike_89 rfl ?_
          obtain ⟨hi, hf⟩ := ck_s hf
          refine g_laload (kk := 66) (by decide) (fun f g => cel_66 _ f g) hi rfl dX8_mostAlike_90 ?_
          obtain ⟨r2, hq, hf⟩ := bnd hf
          refine g_cS_IIIJ_J (c_X8_becomes hq) cs_X8_154 ⟨by decide, by decide⟩ (Nat.le_of_ble_eq_true rfl) dX8_mostAlike_91 ?_
          refine g_lload dX8_mostAlike_94 rfl ?_
          refine g_lcmp dX8_mostAlike_96 ?_
          refine g_if_ne (tgt := 104) dX8_mostAlike_97 (by decide) (fun hc => ?_) (fun hc => ?_)
          · have hf := ite_f hc hf
            refine g_iconst (v := 0) dX8_mostAlike_104 (by decide) ?_
            exact g_weakr (w_X8_mostAlike_105 hr (fun hf => ih hf) hf) (lsk (lsk (lsk (lsk (lsd (lsk (lsd (lsk lsz))))))))
          · have hf := ite_t hc hf
            refine g_iconst (v := 1) dX8_mostAlike_100 (by decide) ?_
            refine g_goto (tgt := 105) dX8_mostAlike_101 (by decide) ?_
            exact g_weakr (w_X8_mostAlike_105 hr (fun hf => ih hf) hf) (lsk (lsk (lsk (lsk (lsd (lsk (lsd (lsk lsz))))))))
def b_X8_mostAlike_4  (M : Mem) (x1 : Int32) : Nat → Int32 → Int32 → Option Int32
  | 0, _, _ => none
  | n + 1, x2, x3 =>
    if (96 : Int32) ≤ x3 then (some x2)
    else (ck x1 20 <|
    (f_X8_becomes (x3 / (16 : Int32)) (x3 - x3 / (16 : Int32) * (16 : Int32)) (M.1 64 1) (M.2 66 x1.toNatClampNeg)).bind fun r1 =>
    b_X8_mostAlike_41 (fun x2_ x3_ => b_X8_mostAlike_4 M x1 n x2_ x3_) M x1 x2 x3 r1 fu (0 : Int32) (0 : Int32))
set_option maxHeartbeats 4000000 in
set_option maxRecDepth 100000 in
theorem w_X8_mostAlike_4 {X : Cx} {r : Int32} {M : Mem}  {x1 : Int32}   (hr : X.meth.sig.returnType = (some .int)) : ∀ (n : Nat) {x2 : Int32} {x3 : Int32}, b_X8_mostAlike_4 M x1 n x2 x3 = some r → G X (some (.int r), M) RX8 cX8_mostAlike 8 4 92 4 [some (.ref (X.1.1 63)), some (.int x1), some (.int x2), some (.int x3), none, none, none, none] [] M := by
  intro n
  induction n with
  | zero => intro x2 x3 hf; cases hf
  | succ n ih =>
    intro x2 x3 hf
    rw [b_X8_mostAlike_4.eq_2] at hf
    refine g_iload_n dX8_mostAlike_4 rfl ?_
    refine g_bipush (v := 96) dX8_mostAlike_5 (by decide) ?_
    refine g_icmp_ge (tgt := 133) dX8_mostAlike_7 (by decide) (fun hc => ?_) (fun hc => ?_)
    · have hf := ite_t hc hf
      refine g_iload_n dX8_mostAlike_133 rfl ?_
      exact g_iret_p hr hf dX8_mostAlike_134
    · have hf := ite_f hc hf
      refine g_iconst (v := 0) dX8_mostAlike_10 (by decide) ?_
      refine g_ist4 dX8_mostAlike_11 (by decide) lnl_i ?_
      refine g_iload_n dX8_mostAlike_13 rfl ?_
      refine g_bipush (v := 16) dX8_mostAlike_14 (by decide) ?_
      refine g_idiv dX8_mostAlike_16 (by decide) ?_
      refine g_iload_n dX8_mostAlike_17 rfl ?_
      refine g_bipush (v := 16) dX8_mostAlike_18 (by decide) ?_
      refine g_irem dX8_mostAlike_20 (by decide) ?_
      refine g_aload_n dX8_mostAlike_21 rfl ?_
      refine g_get (kk := 63) (by decide) (cel_63 _ _ _) rfl inX8 fl_X8_7 (by decide) rfl dX8_mostAlike_22 ?_
      refine g_iconst (v := 1) dX8_mostAlike_25 (by decide) ?_
      refine g_iaload (kk := 64) (by decide) (fun f g => cel_64 _ f g) (vp_in_iff.mpr ⟨by decide, by decide⟩) (j := 1) (by decide) dX8_mostAlike_26 ?_
      refine g_aload_n dX8_mostAlike_27 rfl ?_
      refine g_get (kk := 63) (by decide) (cel_63 _ _ _) rfl inX8 fl_X8_16 (by decide) rfl dX8_mostAlike_28 ?_
      refine g_iload_n dX8_mostAlike_31 rfl ?_
      obtain ⟨hi, hf⟩ := ck_s hf
      refine g_laload (kk := 66) (by decide) (fun f g => cel_66 _ f g) hi rfl dX8_mostAlike_32 ?_
      obtain ⟨r1, hq, hf⟩ := bnd hf
      refine g_cS_IIIJ_J (c_X8_becomes hq) cs_X8_154 ⟨by decide, by decide⟩ (Nat.le_of_ble_eq_true rfl) dX8_mostAlike_33 ?_
      refine g_lst5 dX8_mostAlike_36 (by decide) lnl_i ?_
      refine g_iconst (v := 0) dX8_mostAlike_38 (by decide) ?_
      refine g_ist7 dX8_mostAlike_39 (by decide) lnl_n ?_
      exact w_X8_mostAlike_41 hr (fun hf => ih hf) fu hf
def f_X8_mostAlike (M : Mem) (x1 : Int32) : Option Int32 :=
  b_X8_mostAlike_4 M x1 fu (0 : Int32) (0 : Int32)
set_option maxHeartbeats 4000000 in
set_option maxRecDepth 100000 in
theorem c_X8_mostAlike {l : Launch} {x1 : Int32} {M : Mem} {r : Int32} (hf : f_X8_mostAlike M x1 = some r) : Cn l yX8_mostAlike cX8_mostAlike 8 (some .int) 4 92 (fun E => [.ref (E.1 63), .int x1]) M (some (.int r), M) := by
  unfold f_X8_mostAlike at hf
  refine cn_of RX8 (fun E => [some (.ref (E.1 63)), some (.int x1), none, none, none, none, none, none]) (by decide +kernel) rfl (fun E => Nat.le_of_ble_eq_true rfl) (fun E => rfl) (fun X hr => ?_)
  refine g_iconst (v := 0) dX8_mostAlike_0 (by decide) ?_
  refine g_ist2 dX8_mostAlike_1 (by decide) lnl_i ?_
  refine g_iconst (v := 0) dX8_mostAlike_2 (by decide) ?_
  refine g_ist3 dX8_mostAlike_3 (by decide) lnl_i ?_
  exact w_X8_mostAlike_4 hr fu hf
-- X8_tries
def b_X8_tries_79 (k80 : Int32 → Int32 → Int32 → Int32 → Mem → Option (Int32 × Mem))  (x2 : Int32) (x3 : Int32) (x4 : Int32) (x5 : Int32) (M : Mem) : Option (Int32 × Mem) :=
  k80 x3 x4 x5 x2 M
set_option maxHeartbeats 4000000 in
set_option maxRecDepth 100000 in
theorem w_X8_tries_79 {X : Cx} {r : Int32} {M1 : Mem}  {k80 : Int32 → Int32 → Int32 → Int32 → Mem → Option (Int32 × Mem)}    {x2 : Int32} {x3 : Int32} {x4 : Int32} {x5 : Int32} {M : Mem} (hr : X.meth.sig.returnType = (some .int)) (hk80 : ∀ {x3_ : Int32} {x4_ : Int32} {x5_ : Int32} {t0_ : Int32} {M_ : Mem}, k80 x3_ x4_ x5_ t0_ M_ = some (r, M1) → G X (some (.int r), M1) RX8 cX8_tries 6 5 119 80 [some (.ref (X.1.1 63)), none, none, some (.int x3_), some (.int x4_), some (.int x5_)] [.int t0_] M_) (hf : b_X8_tries_79 k80 x2 x3 x4 x5 M = some (r, M1)) : G X (some (.int r), M1) RX8 cX8_tries 6 5 119 79 [some (.ref (X.1.1 63)), none, some (.int x2), some (.int x3), some (.int x4), some (.int x5)] [] M := by
  unfold b_X8_tries_79 at hf
  refine g_iload_n dX8_tries_79 rfl ?_
  exact g_weakr (hk80 hf) (lsk (lsd (lsd (lsk (lsk (lsk lsz))))))
def b_X8_tries_97 (k98 : Int32 → Int32 → Int32 → Mem → Option (Int32 × Mem))  (x2 : Int32) (x3 : Int32) (x4 : Int32) (M : Mem) : Option (Int32 × Mem) :=
  k98 x2 x4 x3 M
set_option maxHeartbeats 4000000 in
set_option maxRecDepth 100000 in
theorem w_X8_tries_97 {X : Cx} {r : Int32} {M1 : Mem}  {k98 : Int32 → Int32 → Int32 → Mem → Option (Int32 × Mem)}    {x2 : Int32} {x3 : Int32} {x4 : Int32} {M : Mem} (hr : X.meth.sig.returnType = (some .int)) (hk98 : ∀ {x2_ : Int32} {x4_ : Int32} {t0_ : Int32} {M_ : Mem}, k98 x2_ x4_ t0_ M_ = some (r, M1) → G X (some (.int r), M1) RX8 cX8_tries 6 5 119 98 [some (.ref (X.1.1 63)), none, some (.int x2_), none, some (.int x4_), none] [.int t0_] M_) (hf : b_X8_tries_97 k98 x2 x3 x4 M = some (r, M1)) : G X (some (.int r), M1) RX8 cX8_tries 6 5 119 97 [some (.ref (X.1.1 63)), none, some (.int x2), some (.int x3), some (.int x4), none] [] M := by
  unfold b_X8_tries_97 at hf
  refine g_iload_n dX8_tries_97 rfl ?_
  exact g_weakr (hk98 hf) (lsk (lsd (lsk (lsd (lsk (lsd lsz))))))
def b_X8_tries_98 (k49 : Int32 → Int32 → Int32 → Mem → Option (Int32 × Mem))  (x2 : Int32) (x4 : Int32) (t0 : Int32) (M : Mem) : Option (Int32 × Mem) :=
  k49 x2 t0 (x4 + (1 : Int32)) M
set_option maxHeartbeats 4000000 in
set_option maxRecDepth 100000 in
theorem w_X8_tries_98 {X : Cx} {r : Int32} {M1 : Mem}  {k49 : Int32 → Int32 → Int32 → Mem → Option (Int32 × Mem)}    {x2 : Int32} {x4 : Int32} {t0 : Int32} {M : Mem} (hr : X.meth.sig.returnType = (some .int)) (hk49 : ∀ {x2_ : Int32} {x3_ : Int32} {x4_ : Int32} {M_ : Mem}, k49 x2_ x3_ x4_ M_ = some (r, M1) → G X (some (.int r), M1) RX8 cX8_tries 6 5 119 49 [some (.ref (X.1.1 63)), none, some (.int x2_), some (.int x3_), some (.int x4_), none] [] M_) (hf : b_X8_tries_98 k49 x2 x4 t0 M = some (r, M1)) : G X (some (.int r), M1) RX8 cX8_tries 6 5 119 98 [some (.ref (X.1.1 63)), none, some (.int x2), none, some (.int x4), none] [.int t0] M := by
  unfold b_X8_tries_98 at hf
  refine g_ist3 dX8_tries_98 (by decide) lnl_i ?_
  refine g_iinc4 (v := (x4 + (1 : Int32))) dX8_tries_99 (by decide) lnl_i rfl ?_
  refine g_goto (tgt := 49) dX8_tries_102 (by decide) ?_
  exact hk49 hf
def b_X8_tries_80 (k49 : Int32 → Int32 → Int32 → Mem → Option (Int32 × Mem))  (x3 : Int32) (x4 : Int32) (x5 : Int32) (t0 : Int32) (M : Mem) : Option (Int32 × Mem) :=
  if x5 ≤ 0 then (b_X8_tries_97 (fun x2_ x4_ t0_ M_ => b_X8_tries_98 k49 x2_ x4_ t0_ M_) t0 x3 x4 M)
  else (if x3 ≤ x5 then (b_X8_tries_97 (fun x2_ x4_ t0_ M_ => b_X8_tries_98 k49 x2_ x4_ t0_ M_) t0 x3 x4 M)
  else (b_X8_tries_98 k49 t0 x4 x5 M))
set_option maxHeartbeats 4000000 in
set_option maxRecDepth 100000 in
theorem w_X8_tries_80 {X : Cx} {r : Int32} {M1 : Mem}  {k49 : Int32 → Int32 → Int32 → Mem → Option (Int32 × Mem)}    {x3 : Int32} {x4 : Int32} {x5 : Int32} {t0 : Int32} {M : Mem} (hr : X.meth.sig.returnType = (some .int)) (hk49 : ∀ {x2_ : Int32} {x3_ : Int32} {x4_ : Int32} {M_ : Mem}, k49 x2_ x3_ x4_ M_ = some (r, M1) → G X (some (.int r), M1) RX8 cX8_tries 6 5 119 49 [some (.ref (X.1.1 63)), none, some (.int x2_), some (.int x3_), some (.int x4_), none] [] M_) (hf : b_X8_tries_80 k49 x3 x4 x5 t0 M = some (r, M1)) : G X (some (.int r), M1) RX8 cX8_tries 6 5 119 80 [some (.ref (X.1.1 63)), none, none, some (.int x3), some (.int x4), some (.int x5)] [.int t0] M := by
  unfold b_X8_tries_80 at hf
  refine g_ist2 dX8_tries_80 (by decide) lnl_n ?_
  refine g_iload dX8_tries_81 rfl ?_
  refine g_if_le (tgt := 97) dX8_tries_83 (by decide) (fun hc => ?_) (fun hc => ?_)
  · have hf := ite_t hc hf
    exact g_weakr (w_X8_tries_97 hr (fun hf => w_X8_tries_98 hr hk49 hf) hf) (lsk (lsd (lsk (lsk (lsk (lsd lsz))))))
  · have hf := ite_f hc hf
    refine g_iload dX8_tries_86 rfl ?_
    refine g_iload_n dX8_tries_88 rfl ?_
    refine g_icmp_ge (tgt := 97) dX8_tries_89 (by decide) (fun hc => ?_) (fun hc => ?_)
    · have hf := ite_t hc hf
      exact g_weakr (w_X8_tries_97 hr (fun hf => w_X8_tries_98 hr hk49 hf) hf) (lsk (lsd (lsk (lsk (lsk (lsd lsz))))))
    · have hf := ite_f hc hf
      refine g_iload dX8_tries_92 rfl ?_
      refine g_goto (tgt := 98) dX8_tries_94 (by decide) ?_
      exact g_weakr (w_X8_tries_98 hr hk49 hf) (lsk (lsd (lsk (lsd (lsk (lsd lsz))))))
def b_X8_tries_49    : Nat → Int32 → Int32 → Int32 → Mem → Option (Int32 × Mem)
  | 0, _, _, _, _ => none
  | n + 1, x2, x3, x4, M =>
    if (4 : Int32) ≤ x4 then (some (x2, M))
    else ((f_X8_mostAlike M x4).bind fun r1 =>
    if r1 ≤ 0 then (b_X8_tries_79 (fun x3_ x4_ x5_ t0_ M_ => b_X8_tries_80 (fun x2_ x3_ x4_ M_ => b_X8_tries_49 n x2_ x3_ x4_ M_) x3_ x4_ x5_ t0_ M_) x2 x3 x4 r1 M)
    else (if x3 ≤ r1 then (b_X8_tries_79 (fun x3_ x4_ x5_ t0_ M_ => b_X8_tries_80 (fun x2_ x3_ x4_ M_ => b_X8_tries_49 n x2_ x3_ x4_ M_) x3_ x4_ x5_ t0_ M_) x2 x3 x4 r1 M)
    else (b_X8_tries_80 (fun x2_ x3_ x4_ M_ => b_X8_tries_49 n x2_ x3_ x4_ M_) x3 x4 r1 x4 M)))
set_option maxHeartbeats 4000000 in
set_option maxRecDepth 100000 in
theorem w_X8_tries_49 {X : Cx} {r : Int32} {M1 : Mem}      (hr : X.meth.sig.returnType = (some .int)) : ∀ (n : Nat) {x2 : Int32} {x3 : Int32} {x4 : Int32} {M : Mem}, b_X8_tries_49  n x2 x3 x4 M = some (r, M1) → G X (some (.int r), M1) RX8 cX8_tries 6 5 119 49 [some (.ref (X.1.1 63)), none, some (.int x2), some (.int x3), some (.int x4), none] [] M := by
  intro n
  induction n with
  | zero => intro x2 x3 x4 M hf; cases hf
  | succ n ih =>
    intro x2 x3 x4 M hf
    rw [b_X8_tries_49.eq_2] at hf
    refine g_iload dX8_tries_49 rfl ?_
    refine g_iconst (v := 4) dX8_tries_51 (by decide) ?_
    refine g_icmp_ge (tgt := 105) dX8_tries_52 (by decide) (fun hc => ?_) (fun hc => ?_)
    · have hf := ite_t hc hf
      refine g_iload_n dX8_tries_105 rfl ?_
      exact g_iret_w hr hf dX8_tries_106
    · have hf := ite_f hc hf
      refine g_aload_n dX8_tries_55 rfl ?_
      refine g_iload dX8_tries_56 rfl ?_
      obtain ⟨r1, hq, hf⟩ := bnd hf
      refine g_cV_I_I (c_X8_mostAlike hq) cv_X8_212 (by decide) (cel_63 _ _ _) rfl ⟨by decide, by decide⟩ (Nat.le_of_ble_eq_true rfl) dX8_tries_58 ?_
      refine g_ist5 dX8_tries_61 (by decide) lnl_i ?_
      refine g_iload dX8_tries_63 rfl ?_
      refine g_if_le (tgt := 79) dX8_tries_65 (by decide) (fun hc => ?_) (fun hc => ?_)
      · have hf := ite_t hc hf
        exact w_X8_tries_79 hr (fun hf => w_X8_tries_80 hr (fun hf => ih hf) hf) hf
      · have hf := ite_f hc hf
        refine g_iload dX8_tries_68 rfl ?_
        refine g_iload_n dX8_tries_70 rfl ?_
        refine g_icmp_ge (tgt := 79) dX8_tries_71 (by decide) (fun hc => ?_) (fun hc => ?_)
        · have hf := ite_t hc hf
          exact w_X8_tries_79 hr (fun hf => w_X8_tries_80 hr (fun hf => ih hf) hf) hf
        · have hf := ite_f hc hf
          refine g_iload dX8_tries_74 rfl ?_
          refine g_goto (tgt := 80) dX8_tries_76 (by decide) ?_
          exact g_weakr (w_X8_tries_80 hr (fun hf => ih hf) hf) (lsk (lsd (lsd (lsk (lsk (lsk lsz))))))
def b_X8_tries_41    (M : Mem) : Option (Int32 × Mem) :=
  b_X8_tries_49 fu (-1 : Int32) (1000000 : Int32) (0 : Int32) M
set_option maxHeartbeats 4000000 in
set_option maxRecDepth 100000 in
theorem w_X8_tries_41 {X : Cx} {r : Int32} {M1 : Mem}       {M : Mem} (hr : X.meth.sig.returnType = (some .int)) (hf : b_X8_tries_41 M = some (r, M1)) : G X (some (.int r), M1) RX8 cX8_tries 6 5 119 41 [some (.ref (X.1.1 63)), none, none, none, none, none] [] M := by
  unfold b_X8_tries_41 at hf
  refine g_iconst (v := (-1)) dX8_tries_41 (by decide) ?_
  refine g_ist2 dX8_tries_42 (by decide) lnl_n ?_
  refine g_ldc ct_X8_211 dX8_tries_43 ?_
  refine g_ist3 dX8_tries_45 (by decide) lnl_i ?_
  refine g_iconst (v := 0) dX8_tries_46 (by decide) ?_
  refine g_ist4 dX8_tries_47 (by decide) lnl_i ?_
  exact w_X8_tries_49 hr fu hf
def b_X8_tries_17   (x1 : Int32) : Nat → Int32 → Mem → Option (Int32 × Mem)
  | 0, _, _ => none
  | n + 1, x2, M =>
    if (96 : Int32) ≤ x2 then (b_X8_tries_41 M)
    else ((f_X8_doesFit M x1 x2).bind fun r2 =>
    ck x2 96 <|
    let M3 := mI M 75 (x2.toNatClampNeg) (vp_nar .boolean r2)
    b_X8_tries_17 x1 n (x2 + (1 : Int32)) M3)
set_option maxHeartbeats 4000000 in
set_option maxRecDepth 100000 in
theorem w_X8_tries_17 {X : Cx} {r : Int32} {M1 : Mem}   {x1 : Int32}   (hr : X.meth.sig.returnType = (some .int)) : ∀ (n : Nat) {x2 : Int32} {M : Mem}, b_X8_tries_17 x1 n x2 M = some (r, M1) → G X (some (.int r), M1) RX8 cX8_tries 6 5 119 17 [some (.ref (X.1.1 63)), some (.int x1), some (.int x2), none, none, none] [] M := by
  intro n
  induction n with
  | zero => intro x2 M hf; cases hf
  | succ n ih =>
    intro x2 M hf
    rw [b_X8_tries_17.eq_2] at hf
    refine g_iload_n dX8_tries_17 rfl ?_
    refine g_bipush (v := 96) dX8_tries_18 (by decide) ?_
    refine g_icmp_ge (tgt := 41) dX8_tries_20 (by decide) (fun hc => ?_) (fun hc => ?_)
    · have hf := ite_t hc hf
      exact g_weakr (w_X8_tries_41 hr hf) (lsk (lsd (lsd (lsd (lsd (lsd lsz))))))
    · have hf := ite_f hc hf
      refine g_aload_n dX8_tries_23 rfl ?_
      refine g_get (kk := 63) (by decide) (cel_63 _ _ _) rfl inX8 fl_X8_49 (by decide) rfl dX8_tries_24 ?_
      refine g_iload_n dX8_tries_27 rfl ?_
      refine g_aload_n dX8_tries_28 rfl ?_
      refine g_iload_n dX8_tries_29 rfl ?_
      refine g_iload_n dX8_tries_30 rfl ?_
      obtain ⟨r2, hq, hf⟩ := bnd hf
      refine g_cV_II_I (c_X8_doesFit hq) cv_X8_207 (by decide) (cel_63 _ _ _) rfl ⟨by decide, by decide⟩ (Nat.le_of_ble_eq_true rfl) dX8_tries_31 ?_
      obtain ⟨hi, hf⟩ := ck_s hf
      refine g_zastore (kk := 75) (by decide) (fun f g => cel_75 _ f g) hi rfl dX8_tries_34 ?_
      refine g_iinc2 (v := (x2 + (1 : Int32))) dX8_tries_35 (by decide) lnl_i rfl ?_
      refine g_goto (tgt := 17) dX8_tries_38 (by decide) ?_
      exact ih hf
def f_X8_tries (x1 : Int32) (M : Mem) : Option (Int32 × Mem) :=
  if (f_X8_isBridge M x1) = 0 then ((f_X8_bad (-2 : Int32) M).bind fun r4 =>
  some (r4.1, r4.2))
  else (b_X8_tries_17 x1 fu (0 : Int32) M)
set_option maxHeartbeats 4000000 in
set_option maxRecDepth 100000 in
theorem c_X8_tries {l : Launch} {x1 : Int32} {M : Mem} {r : Int32} {M1 : Mem} (hf : f_X8_tries x1 M = some (r, M1)) : Cn l yX8_tries cX8_tries 6 (some .int) 5 119 (fun E => [.ref (E.1 63), .int x1]) M (some (.int r), M1) := by
  unfold f_X8_tries at hf
  refine cn_of RX8 (fun E => [some (.ref (E.1 63)), some (.int x1), none, none, none, none]) (by decide +kernel) rfl (fun E => Nat.le_of_ble_eq_true rfl) (fun E => rfl) (fun X hr => ?_)
  refine g_aload_n dX8_tries_0 rfl ?_
  refine g_iload_n dX8_tries_1 rfl ?_
  refine g_cV_I_I (c_X8_isBridge rfl) cv_X8_139 (by decide) (cel_63 _ _ _) rfl ⟨by decide, by decide⟩ (Nat.le_of_ble_eq_true rfl) dX8_tries_2 ?_
  refine g_if_ne (tgt := 15) dX8_tries_5 (by decide) (fun hc => ?_) (fun hc => ?_)
  · have hf := ite_f hc hf
    refine g_iconst (v := 0) dX8_tries_15 (by decide) ?_
    refine g_ist2 dX8_tries_16 (by decide) lnl_i ?_
    exact w_X8_tries_17 hr fu hf
  · have hf := ite_t hc hf
    refine g_aload_n dX8_tries_8 rfl ?_
    refine g_bipush (v := (-2)) dX8_tries_9 (by decide) ?_
    obtain ⟨r4, hq, hf⟩ := bnd hf
    refine g_cV_I_I (c_X8_bad (r := r4.1) (M1 := r4.2) hq) cv_X8_116 (by decide) (cel_63 _ _ _) rfl ⟨by decide, by decide⟩ (Nat.le_of_ble_eq_true rfl) dX8_tries_11 ?_
    exact g_iret_w hr hf dX8_tries_14
-- X8_renamed
def b_X8_renamed_32   (x1 : Int32) (x2 : Int32) : Nat → Int64 → Int32 → Mem → Option (Int32 × Mem)
  | 0, _, _, _ => none
  | n + 1, x3, x5, M =>
    if (60 : Int32) ≤ x5 then (some ((-1 : Int32), M))
    else ((f_X8_get M x2 (2 : Int32)).bind fun r2 =>
    (f_X8_get M x2 (3 : Int32)).bind fun r3 =>
    (f_X8_becomes r2 r3 (((M.1 64 1) + x5) - ((M.1 64 1) + x5) / (12 : Int32) * (12 : Int32)) x3).bind fun r4 =>
    ck x1 20 <|
    if (lg_cmp r4 (M.2 66 x1.toNatClampNeg)) = 0 then (some ((x5 + (1 : Int32)), M))
    else (b_X8_renamed_32 x1 x2 n r4 (x5 + (1 : Int32)) M))
set_option maxHeartbeats 4000000 in
set_option maxRecDepth 100000 in
theorem w_X8_renamed_32 {X : Cx} {r : Int32} {M1 : Mem}   {x1 : Int32} {x2 : Int32}   (hr : X.meth.sig.returnType = (some .int)) : ∀ (n : Nat) {x3 : Int64} {x5 : Int32} {M : Mem}, b_X8_renamed_32 x1 x2 n x3 x5 M = some (r, M1) → G X (some (.int r), M1) RX8 cX8_renamed 6 4 92 32 [some (.ref (X.1.1 63)), some (.int x1), some (.int x2), some (.long x3), none, some (.int x5)] [] M := by
  intro n
  induction n with
  | zero => intro x3 x5 M hf; cases hf
  | succ n ih =>
    intro x3 x5 M hf
    rw [b_X8_renamed_32.eq_2] at hf
    refine g_iload dX8_renamed_32 rfl ?_
    refine g_bipush (v := 60) dX8_renamed_34 (by decide) ?_
    refine g_icmp_ge (tgt := 90) dX8_renamed_36 (by decide) (fun hc => ?_) (fun hc => ?_)
    · have hf := ite_t hc hf
      refine g_iconst (v := (-1)) dX8_renamed_90 (by decide) ?_
      exact g_iret_w hr hf dX8_renamed_91
    · have hf := ite_f hc hf
      refine g_aload_n dX8_renamed_39 rfl ?_
      refine g_iload_n dX8_renamed_40 rfl ?_
      refine g_iconst (v := 2) dX8_renamed_41 (by decide) ?_
      obtain ⟨r2, hq, hf⟩ := bnd hf
      refine g_cV_II_I (c_X8_get hq) cv_X8_135 (by decide) (cel_63 _ _ _) rfl ⟨by decide, by decide⟩ (Nat.le_of_ble_eq_true rfl) dX8_renamed_42 ?_
      refine g_aload_n dX8_renamed_45 rfl ?_
      refine g_iload_n dX8_renamed_46 rfl ?_
      refine g_iconst (v := 3) dX8_renamed_47 (by decide) ?_
      obtain ⟨r3, hq, hf⟩ := bnd hf
      refine g_cV_II_I (c_X8_get hq) cv_X8_135 (by decide) (cel_63 _ _ _) rfl ⟨by decide, by decide⟩ (Nat.le_of_ble_eq_true rfl) dX8_renamed_48 ?_
      refine g_aload_n dX8_renamed_51 rfl ?_
      refine g_get (kk := 63) (by decide) (cel_63 _ _ _) rfl inX8 fl_X8_7 (by decide) rfl dX8_renamed_52 ?_
      refine g_iconst (v := 1) dX8_renamed_55 (by decide) ?_
      refine g_iaload (kk := 64) (by decide) (fun f g => cel_64 _ f g) (vp_in_iff.mpr ⟨by decide, by decide⟩) (j := 1) (by decide) dX8_renamed_56 ?_
      refine g_iload dX8_renamed_57 rfl ?_
      refine g_iadd dX8_renamed_59 ?_
      refine g_bipush (v := 12) dX8_renamed_60 (by decide) ?_
      refine g_irem dX8_renamed_62 (by decide) ?_
      refine g_lload_n dX8_renamed_63 rfl ?_
      obtain ⟨r4, hq, hf⟩ := bnd hf
      refine g_cS_IIIJ_J (c_X8_becomes hq) cs_X8_154 ⟨by decide, by decide⟩ (Nat.le_of_ble_eq_true rfl) dX8_renamed_64 ?_
      refine g_lst3 dX8_renamed_67 (by decide) lnl_i ?_
      refine g_lload_n dX8_renamed_68 rfl ?_
      refine g_aload_n dX8_renamed_69 rfl ?_
      refine g_get (kk := 63) (by decide) (cel_63 _ _ _) rfl inX8 fl_X8_16 (by decide) rfl dX8_renamed_70 ?_
      refine g_iload_n dX8_renamed_73 rfl ?_
      obtain ⟨hi, hf⟩ := ck_s hf
      refine g_laload (kk := 66) (by decide) (fun f g => cel_66 _ f g) hi rfl dX8_renamed_74 ?_
      refine g_lcmp dX8_renamed_75 ?_
      refine g_if_ne (tgt := 84) dX8_renamed_76 (by decide) (fun hc => ?_) (fun hc => ?_)
      · have hf := ite_f hc hf
        refine g_iinc5 (v := (x5 + (1 : Int32))) dX8_renamed_84 (by decide) lnl_n rfl ?_
        refine g_goto (tgt := 32) dX8_renamed_87 (by decide) ?_
        exact ih hf
      · have hf := ite_t hc hf
        refine g_iload dX8_renamed_79 rfl ?_
        refine g_iconst (v := 1) dX8_renamed_81 (by decide) ?_
        refine g_iadd dX8_renamed_82 ?_
        exact g_iret_w hr hf dX8_renamed_83
def f_X8_renamed (x1 : Int32) (x2 : Int32) (M : Mem) : Option (Int32 × Mem) :=
  if (f_X8_isRow x1) = 0 then ((f_X8_bad (-2 : Int32) M).bind fun r1 =>
  some (r1.1, r1.2))
  else (if (f_X8_isBridge M x2) = 0 then ((f_X8_bad (-2 : Int32) M).bind fun r5 =>
  some (r5.1, r5.2))
  else (ck x1 20 <|
  b_X8_renamed_32 x1 x2 fu (M.2 66 x1.toNatClampNeg) (0 : Int32) M))
set_option maxHeartbeats 4000000 in
set_option maxRecDepth 100000 in
theorem c_X8_renamed {l : Launch} {x1 : Int32} {x2 : Int32} {M : Mem} {r : Int32} {M1 : Mem} (hf : f_X8_renamed x1 x2 M = some (r, M1)) : Cn l yX8_renamed cX8_renamed 6 (some .int) 4 92 (fun E => [.ref (E.1 63), .int x1, .int x2]) M (some (.int r), M1) := by
  unfold f_X8_renamed at hf
  refine cn_of RX8 (fun E => [some (.ref (E.1 63)), some (.int x1), some (.int x2), none, none, none]) (by decide +kernel) rfl (fun E => Nat.le_of_ble_eq_true rfl) (fun E => rfl) (fun X hr => ?_)
  refine g_iload_n dX8_renamed_0 rfl ?_
  refine g_cS_I_I (c_X8_isRow rfl) cs_X8_148 ⟨by decide, by decide⟩ (Nat.le_of_ble_eq_true rfl) dX8_renamed_1 ?_
  refine g_if_eq (tgt := 15) dX8_renamed_4 (by decide) (fun hc => ?_) (fun hc => ?_)
  · have hf := ite_t hc hf
    refine g_aload_n dX8_renamed_15 rfl ?_
    refine g_bipush (v := (-2)) dX8_renamed_16 (by decide) ?_
    obtain ⟨r1, hq, hf⟩ := bnd hf
    refine g_cV_I_I (c_X8_bad (r := r1.1) (M1 := r1.2) hq) cv_X8_116 (by decide) (cel_63 _ _ _) rfl ⟨by decide, by decide⟩ (Nat.le_of_ble_eq_true rfl) dX8_renamed_18 ?_
    exact g_iret_w hr hf dX8_renamed_21
  · have hf := ite_f hc hf
    refine g_aload_n dX8_renamed_7 rfl ?_
    refine g_iload_n dX8_renamed_8 rfl ?_
    refine g_cV_I_I (c_X8_isBridge rfl) cv_X8_139 (by decide) (cel_63 _ _ _) rfl ⟨by decide, by decide⟩ (Nat.le_of_ble_eq_true rfl) dX8_renamed_9 ?_
    refine g_if_ne (tgt := 22) dX8_renamed_12 (by decide) (fun hc => ?_) (fun hc => ?_)
    · have hf := ite_f hc hf
      refine g_aload_n dX8_renamed_22 rfl ?_
      refine g_get (kk := 63) (by decide) (cel_63 _ _ _) rfl inX8 fl_X8_16 (by decide) rfl dX8_renamed_23 ?_
      refine g_iload_n dX8_renamed_26 rfl ?_
      obtain ⟨hi, hf⟩ := ck_s hf
      refine g_laload (kk := 66) (by decide) (fun f g => cel_66 _ f g) hi rfl dX8_renamed_27 ?_
      refine g_lst3 dX8_renamed_28 (by decide) lnl_i ?_
      refine g_iconst (v := 0) dX8_renamed_29 (by decide) ?_
      refine g_ist5 dX8_renamed_30 (by decide) lnl_n ?_
      exact w_X8_renamed_32 hr fu hf
    · have hf := ite_t hc hf
      refine g_aload_n dX8_renamed_15 rfl ?_
      refine g_bipush (v := (-2)) dX8_renamed_16 (by decide) ?_
      obtain ⟨r5, hq, hf⟩ := bnd hf
      refine g_cV_I_I (c_X8_bad (r := r5.1) (M1 := r5.2) hq) cv_X8_116 (by decide) (cel_63 _ _ _) rfl ⟨by decide, by decide⟩ (Nat.le_of_ble_eq_true rfl) dX8_renamed_18 ?_
      exact g_iret_w hr hf dX8_renamed_21
-- X8_fraction
def b_X8_fraction_31   (x1 : Int64) (x3 : Int64) (x5 : Int64) (M : Mem) : Option Mem :=
  ckM x5 (let M1 := mL M 63 6 (x1 / x5)
  ckM x5 (let M2 := mL M1 63 7 (x3 / x5)
  some M2))
set_option maxHeartbeats 4000000 in
set_option maxRecDepth 100000 in
theorem w_X8_fraction_31 {X : Cx} {M1 : Mem}      {x1 : Int64} {x3 : Int64} {x5 : Int64} {M : Mem} (hr : X.meth.sig.returnType = none) (hf : b_X8_fraction_31 x1 x3 x5 M = some M1) : G X (none, M1) RX8 cX8_fraction 11 0 0 31 [some (.ref (X.1.1 63)), some (.long x1), none, some (.long x3), none, some (.long x5), none, none, none, none, none] [] M := by
  unfold b_X8_fraction_31 at hf
  refine g_aload_n dX8_fraction_31 rfl ?_
  refine g_lload_n dX8_fraction_32 rfl ?_
  refine g_lload dX8_fraction_33 rfl ?_
  obtain ⟨hn, hf⟩ := ckM_s hf
  refine g_ldiv dX8_fraction_35 hn ?_
  refine g_putL (kk := 63) (by decide) (cel_63 _ _ _) (pL_63_6 _ _ _ _) rfl inX8 tyX8_ok nmX8 fl_X8_215 (by decide) (Nat.le_of_ble_eq_true rfl) rfl (by decide +kernel) dX8_fraction_36 ?_
  refine g_aload_n dX8_fraction_39 rfl ?_
  refine g_lload_n dX8_fraction_40 rfl ?_
  refine g_lload dX8_fraction_41 rfl ?_
  obtain ⟨hn, hf⟩ := ckM_s hf
  refine g_ldiv dX8_fraction_43 hn ?_
  refine g_putL (kk := 63) (by decide) (cel_63 _ _ _) (pL_63_7 _ _ _ _) rfl inX8 tyX8_ok nmX8 fl_X8_30 (by decide) (Nat.le_of_ble_eq_true rfl) rfl (by decide +kernel) dX8_fraction_44 ?_
  exact g_vret_w hr hf dX8_fraction_47
def b_X8_fraction_6   (x1 : Int64) (x3 : Int64) : Nat → Int64 → Int64 → Mem → Option Mem
  | 0, _, _, _ => none
  | n + 1, x5, x7, M =>
    if (lg_cmp x7 (0 : Int64)) = 0 then (b_X8_fraction_31 x1 x3 x5 M)
    else (ckM x7 (b_X8_fraction_6 x1 x3 n x7 (x5 - x5 / x7 * x7) M))
set_option maxHeartbeats 4000000 in
set_option maxRecDepth 100000 in
theorem w_X8_fraction_6 {X : Cx} {M1 : Mem}   {x1 : Int64} {x3 : Int64}   (hr : X.meth.sig.returnType = none) : ∀ (n : Nat) {x5 : Int64} {x7 : Int64} {M : Mem}, b_X8_fraction_6 x1 x3 n x5 x7 M = some M1 → G X (none, M1) RX8 cX8_fraction 11 0 0 6 [some (.ref (X.1.1 63)), some (.long x1), none, some (.long x3), none, some (.long x5), none, some (.long x7), none, none, none] [] M := by
  intro n
  induction n with
  | zero => intro x5 x7 M hf; cases hf
  | succ n ih =>
    intro x5 x7 M hf
    rw [b_X8_fraction_6.eq_2] at hf
    refine g_lload dX8_fraction_6 rfl ?_
    refine g_lconst (v := 0) dX8_fraction_8 (by decide) ?_
    refine g_lcmp dX8_fraction_9 ?_
    refine g_if_eq (tgt := 31) dX8_fraction_10 (by decide) (fun hc => ?_) (fun hc => ?_)
    · have hf := ite_t hc hf
      exact g_weakr (w_X8_fraction_31 hr hf) (lsk (lsk (lsd (lsk (lsd (lsk (lsd (lsd (lsd (lsd (lsd lsz)))))))))))
    · have hf := ite_f hc hf
      refine g_lload dX8_fraction_13 rfl ?_
      refine g_lload dX8_fraction_15 rfl ?_
      obtain ⟨hn, hf⟩ := ckM_s hf
      refine g_lrem dX8_fraction_17 hn ?_
      refine g_lst9 dX8_fraction_18 (by decide) lnl_n ?_
      refine g_lload dX8_fraction_20 rfl ?_
      refine g_lst5 dX8_fraction_22 (by decide) lnl_n ?_
      refine g_lload dX8_fraction_24 rfl ?_
      refine g_lst7 dX8_fraction_26 (by decide) lnl_n ?_
      refine g_goto (tgt := 6) dX8_fraction_28 (by decide) ?_
      exact g_weakr (ih hf) (lsk (lsk (lsd (lsk (lsd (lsk (lsd (lsk (lsd (lsd (lsd lsz)))))))))))
def f_X8_fraction (x1 : Int64) (x3 : Int64) (M : Mem) : Option Mem :=
  b_X8_fraction_6 x1 x3 fu x1 x3 M
set_option maxHeartbeats 4000000 in
set_option maxRecDepth 100000 in
theorem c_X8_fraction {l : Launch} {x1 : Int64} {x3 : Int64} {M : Mem} {M1 : Mem} (hf : f_X8_fraction x1 x3 M = some M1) : Cn l yX8_fraction cX8_fraction 11 none 0 0 (fun E => [.ref (E.1 63), .long x1, .long x3]) M (none, M1) := by
  unfold f_X8_fraction at hf
  refine cn_of RX8 (fun E => [some (.ref (E.1 63)), some (.long x1), none, some (.long x3), none, none, none, none, none, none, none]) (by decide +kernel) rfl (fun E => Nat.le_of_ble_eq_true rfl) (fun E => rfl) (fun X hr => ?_)
  refine g_lload_n dX8_fraction_0 rfl ?_
  refine g_lst5 dX8_fraction_1 (by decide) lnl_n ?_
  refine g_lload_n dX8_fraction_3 rfl ?_
  refine g_lst7 dX8_fraction_4 (by decide) lnl_n ?_
  exact w_X8_fraction_6 hr fu hf
-- X8_stammer
def b_X8_stammer_180   (x4 : Int32) (x5 : Int32) (x6 : Int64) (M : Mem) : Option (Int32 × Mem) :=
  if (f_X8_in (x4 - x5).toInt64 (0 : Int64) x5.toInt64) = 0 then ((f_X8_fraction (0 : Int64) x6 M).bind fun r5 =>
  some ((1 : Int32), r5))
  else (ck (x4 - x5) 14 <|
  (f_X8_fraction (M.2 76 (x4 - x5).toNatClampNeg) x6 M).bind fun r6 =>
  some ((1 : Int32), r6))
set_option maxHeartbeats 4000000 in
set_option maxRecDepth 100000 in
theorem w_X8_stammer_180 {X : Cx} {r : Int32} {M1 : Mem}      {x4 : Int32} {x5 : Int32} {x6 : Int64} {M : Mem} (hr : X.meth.sig.returnType = (some .int)) (hf : b_X8_stammer_180 x4 x5 x6 M = some (r, M1)) : G X (some (.int r), M1) RX8 cX8_stammer 10 5 115 180 [some (.ref (X.1.1 63)), none, none, none, some (.int x4), some (.int x5), some (.long x6), none, none, none] [] M := by
  unfold b_X8_stammer_180 at hf
  refine g_aload_n dX8_stammer_180 rfl ?_
  refine g_iload dX8_stammer_181 rfl ?_
  refine g_iload dX8_stammer_183 rfl ?_
  refine g_isub dX8_stammer_185 ?_
  refine g_i2l dX8_stammer_186 ?_
  refine g_lconst (v := 0) dX8_stammer_187 (by decide) ?_
  refine g_iload dX8_stammer_188 rfl ?_
  refine g_i2l dX8_stammer_190 ?_
  refine g_cS_JJJ_I (c_X8_in rfl) cs_X8_106 ⟨by decide, by decide⟩ (Nat.le_of_ble_eq_true rfl) dX8_stammer_191 ?_
  refine g_if_eq (tgt := 210) dX8_stammer_194 (by decide) (fun hc => ?_) (fun hc => ?_)
  · have hf := ite_t hc hf
    refine g_lconst (v := 0) dX8_stammer_210 (by decide) ?_
    refine g_lload dX8_stammer_211 rfl ?_
    obtain ⟨r5, hq, hf⟩ := bnd hf
    refine g_cV_JJ_V (c_X8_fraction hq) cv_X8_222 (by decide) (cel_63 _ _ _) rfl ⟨by decide, by decide⟩ (Nat.le_of_ble_eq_true rfl) dX8_stammer_213 ?_
    refine g_iconst (v := 1) dX8_stammer_216 (by decide) ?_
    exact g_iret_w hr hf dX8_stammer_217
  · have hf := ite_f hc hf
    refine g_aload_n dX8_stammer_197 rfl ?_
    refine g_get (kk := 63) (by decide) (cel_63 _ _ _) rfl inX8 fl_X8_52 (by decide) rfl dX8_stammer_198 ?_
    refine g_iload dX8_stammer_201 rfl ?_
    refine g_iload dX8_stammer_203 rfl ?_
    refine g_isub dX8_stammer_205 ?_
    obtain ⟨hi, hf⟩ := ck_s hf
    refine g_laload (kk := 76) (by decide) (fun f g => cel_76 _ f g) hi rfl dX8_stammer_206 ?_
    refine g_goto (tgt := 211) dX8_stammer_207 (by decide) ?_
    refine g_lload dX8_stammer_211 rfl ?_
    obtain ⟨r6, hq, hf⟩ := bnd hf
    refine g_cV_JJ_V (c_X8_fraction hq) cv_X8_222 (by decide) (cel_63 _ _ _) rfl ⟨by decide, by decide⟩ (Nat.le_of_ble_eq_true rfl) dX8_stammer_213 ?_
    refine g_iconst (v := 1) dX8_stammer_216 (by decide) ?_
    exact g_iret_w hr hf dX8_stammer_217
def b_X8_stammer_166 (k102 : Int64 → Int32 → Mem → Option (Int32 × Mem))  (x3 : Int32) (x4 : Int32) (x5 : Int32) (x6 : Int64) (x8 : Int32) (M : Mem) : Option (Int32 × Mem) :=
  k102 (x6 * (10 : Int64)) (x8 + (1 : Int32)) M
set_option maxHeartbeats 4000000 in
set_option maxRecDepth 100000 in
theorem w_X8_stammer_166 {X : Cx} {r : Int32} {M1 : Mem}  {k102 : Int64 → Int32 → Mem → Option (Int32 × Mem)} {x3 : Int32} {x4 : Int32} {x5 : Int32}   {x6 : Int64} {x8 : Int32} {M : Mem} (hr : X.meth.sig.returnType = (some .int)) (hk102 : ∀ {x6_ : Int64} {x8_ : Int32} {M_ : Mem}, k102 x6_ x8_ M_ = some (r, M1) → G X (some (.int r), M1) RX8 cX8_stammer 10 5 115 102 [some (.ref (X.1.1 63)), none, none, some (.int x3), some (.int x4), some (.int x5), some (.long x6_), none, some (.int x8_), none] [] M_) (hf : b_X8_stammer_166 k102 x3 x4 x5 x6 x8 M = some (r, M1)) : G X (some (.int r), M1) RX8 cX8_stammer 10 5 115 166 [some (.ref (X.1.1 63)), none, none, some (.int x3), some (.int x4), some (.int x5), some (.long x6), none, some (.int x8), none] [] M := by
  unfold b_X8_stammer_166 at hf
  refine g_lload dX8_stammer_166 rfl ?_
  refine g_ldc2 cl_X8_218 dX8_stammer_168 ?_
  refine g_lmul dX8_stammer_171 ?_
  refine g_lst6 dX8_stammer_172 (by decide) lnl_i ?_
  refine g_iinc8 (v := (x8 + (1 : Int32))) dX8_stammer_174 (by decide) lnl_n rfl ?_
  refine g_goto (tgt := 102) dX8_stammer_177 (by decide) ?_
  exact hk102 hf
def b_X8_stammer_158 (k113 : Int32 → Mem → Option (Int32 × Mem))  (x3 : Int32) (x4 : Int32) (x5 : Int32) (x6 : Int64) (x8 : Int32) (x9 : Int32) (t0 : Int64) (t1 : Int64) (t2 : Int32) (M : Mem) : Option (Int32 × Mem) :=
  ck t2 14 <|
  let M7 := mL M 76 (t2.toNatClampNeg) (t1 + t0)
  k113 (x9 + (-1 : Int32)) M7
set_option maxHeartbeats 4000000 in
set_option maxRecDepth 100000 in
theorem w_X8_stammer_158 {X : Cx} {r : Int32} {M1 : Mem}  {k113 : Int32 → Mem → Option (Int32 × Mem)} {x3 : Int32} {x4 : Int32} {x5 : Int32} {x6 : Int64} {x8 : Int32}   {x9 : Int32} {t0 : Int64} {t1 : Int64} {t2 : Int32} {M : Mem} (hr : X.meth.sig.returnType = (some .int)) (hk113 : ∀ {x9_ : Int32} {M_ : Mem}, k113 x9_ M_ = some (r, M1) → G X (some (.int r), M1) RX8 cX8_stammer 10 5 115 113 [some (.ref (X.1.1 63)), none, none, some (.int x3), some (.int x4), some (.int x5), some (.long x6), none, some (.int x8), some (.int x9_)] [] M_) (hf : b_X8_stammer_158 k113 x3 x4 x5 x6 x8 x9 t0 t1 t2 M = some (r, M1)) : G X (some (.int r), M1) RX8 cX8_stammer 10 5 115 158 [some (.ref (X.1.1 63)), none, none, some (.int x3), some (.int x4), some (.int x5), some (.long x6), none, some (.int x8), some (.int x9)] [.long t0, .long t1, .int t2, .ref (X.1.1 76)] M := by
  unfold b_X8_stammer_158 at hf
  refine g_ladd dX8_stammer_158 ?_
  obtain ⟨hi, hf⟩ := ck_s hf
  refine g_lastore (kk := 76) (by decide) (fun f g => cel_76 _ f g) hi rfl dX8_stammer_159 ?_
  refine g_iinc9 (v := (x9 + (-1 : Int32))) dX8_stammer_160 (by decide) lnl_i rfl ?_
  refine g_goto (tgt := 113) dX8_stammer_163 (by decide) ?_
  exact hk113 hf
def b_X8_stammer_113 (k102 : Int64 → Int32 → Mem → Option (Int32 × Mem))  (x3 : Int32) (x4 : Int32) (x5 : Int32) (x6 : Int64) (x8 : Int32) : Nat → Int32 → Mem → Option (Int32 × Mem)
  | 0, _, _ => none
  | n + 1, x9, M =>
    if x9 < 0 then (b_X8_stammer_166 k102 x3 x4 x5 x6 x8 M)
    else (ck x9 14 <|
    if x9 ≤ 0 then (b_X8_stammer_158 (fun x9_ M_ => b_X8_stammer_113 k102 x3 x4 x5 x6 x8 n x9_ M_) x3 x4 x5 x6 x8 x9 (0 : Int64) (((10 : Int32) - x3).toInt64 * (M.2 76 x9.toNatClampNeg)) x9 M)
    else (ck (x9 - (1 : Int32)) 14 <|
    b_X8_stammer_158 (fun x9_ M_ => b_X8_stammer_113 k102 x3 x4 x5 x6 x8 n x9_ M_) x3 x4 x5 x6 x8 x9 (x3.toInt64 * (M.2 76 (x9 - (1 : Int32)).toNatClampNeg)) (((10 : Int32) - x3).toInt64 * (M.2 76 x9.toNatClampNeg)) x9 M))
set_option maxHeartbeats 4000000 in
set_option maxRecDepth 100000 in
theorem w_X8_stammer_113 {X : Cx} {r : Int32} {M1 : Mem}  {k102 : Int64 → Int32 → Mem → Option (Int32 × Mem)} {x3 : Int32} {x4 : Int32} {x5 : Int32} {x6 : Int64} {x8 : Int32}   (hr : X.meth.sig.returnType = (some .int)) (hk102 : ∀ {x6_ : Int64} {x8_ : Int32} {M_ : Mem}, k102 x6_ x8_ M_ = some (r, M1) → G X (some (.int r), M1) RX8 cX8_stammer 10 5 115 102 [some (.ref (X.1.1 63)), none, none, some (.int x3), some (.int x4), some (.int x5), some (.long x6_), none, some (.int x8_), none] [] M_) : ∀ (n : Nat) {x9 : Int32} {M : Mem}, b_X8_stammer_113 k102 x3 x4 x5 x6 x8 n x9 M = some (r, M1) → G X (some (.int r), M1) RX8 cX8_stammer 10 5 115 113 [some (.ref (X.1.1 63)), none, none, some (.int x3), some (.int x4), some (.int x5), some (.long x6), none, some (.int x8), some (.int x9)] [] M := by
  intro n
  induction n with
  | zero => intro x9 M hf; cases hf
  | succ n ih =>
    intro x9 M hf
    rw [b_X8_stammer_113.eq_2] at hf
    refine g_iload dX8_stammer_113 rfl ?_
    refine g_if_lt (tgt := 166) dX8_stammer_115 (by decide) (fun hc => ?_) (fun hc => ?_)
    · have hf := ite_t hc hf
      exact g_weakr (w_X8_stammer_166 hr hk102 hf) (lsk (lsd (lsd (lsk (lsk (lsk (lsk (lsd (lsk (lsd lsz))))))))))
    · have hf := ite_f hc hf
      refine g_aload_n dX8_stammer_118 rfl ?_
      refine g_get (kk := 63) (by decide) (cel_63 _ _ _) rfl inX8 fl_X8_52 (by decide) rfl dX8_stammer_119 ?_
      refine g_iload dX8_stammer_122 rfl ?_
      refine g_bipush (v := 10) dX8_stammer_124 (by decide) ?_
      refine g_iload_n dX8_stammer_126 rfl ?_
      refine g_isub dX8_stammer_127 ?_
      refine g_i2l dX8_stammer_128 ?_
      refine g_aload_n dX8_stammer_129 rfl ?_
      refine g_get (kk := 63) (by decide) (cel_63 _ _ _) rfl inX8 fl_X8_52 (by decide) rfl dX8_stammer_130 ?_
      refine g_iload dX8_stammer_133 rfl ?_
      obtain ⟨hi, hf⟩ := ck_s hf
      refine g_laload (kk := 76) (by decide) (fun f g => cel_76 _ f g) hi rfl dX8_stammer_135 ?_
      refine g_lmul dX8_stammer_136 ?_
      refine g_iload dX8_stammer_137 rfl ?_
      refine g_if_le (tgt := 157) dX8_stammer_139 (by decide) (fun hc => ?_) (fun hc => ?_)
      · have hf := ite_t hc hf
        refine g_lconst (v := 0) dX8_stammer_157 (by decide) ?_
        exact w_X8_stammer_158 hr (fun hf => ih hf) hf
      · have hf := ite_f hc hf
        refine g_iload_n dX8_stammer_142 rfl ?_
        refine g_i2l dX8_stammer_143 ?_
        refine g_aload_n dX8_stammer_144 rfl ?_
        refine g_get (kk := 63) (by decide) (cel_63 _ _ _) rfl inX8 fl_X8_52 (by decide) rfl dX8_stammer_145 ?_
        refine g_iload dX8_stammer_148 rfl ?_
        refine g_iconst (v := 1) dX8_stammer_150 (by decide) ?_
        refine g_isub dX8_stammer_151 ?_
        obtain ⟨hi, hf⟩ := ck_s hf
        refine g_laload (kk := 76) (by decide) (fun f g => cel_76 _ f g) hi rfl dX8_stammer_152 ?_
        refine g_lmul dX8_stammer_153 ?_
        refine g_goto (tgt := 158) dX8_stammer_154 (by decide) ?_
        exact w_X8_stammer_158 hr (fun hf => ih hf) hf
def b_X8_stammer_102   (x3 : Int32) (x4 : Int32) (x5 : Int32) : Nat → Int64 → Int32 → Mem → Option (Int32 × Mem)
  | 0, _, _, _ => none
  | n + 1, x6, x8, M =>
    if x5 ≤ x8 then (b_X8_stammer_180 x4 x5 x6 M)
    else (b_X8_stammer_113 (fun x6_ x8_ M_ => b_X8_stammer_102 x3 x4 x5 n x6_ x8_ M_) x3 x4 x5 x6 x8 fu (13 : Int32) M)
set_option maxHeartbeats 4000000 in
set_option maxRecDepth 100000 in
theorem w_X8_stammer_102 {X : Cx} {r : Int32} {M1 : Mem}   {x3 : Int32} {x4 : Int32} {x5 : Int32}   (hr : X.meth.sig.returnType = (some .int)) : ∀ (n : Nat) {x6 : Int64} {x8 : Int32} {M : Mem}, b_X8_stammer_102 x3 x4 x5 n x6 x8 M = some (r, M1) → G X (some (.int r), M1) RX8 cX8_stammer 10 5 115 102 [some (.ref (X.1.1 63)), none, none, some (.int x3), some (.int x4), some (.int x5), some (.long x6), none, some (.int x8), none] [] M := by
  intro n
  induction n with
  | zero => intro x6 x8 M hf; cases hf
  | succ n ih =>
    intro x6 x8 M hf
    rw [b_X8_stammer_102.eq_2] at hf
    refine g_iload dX8_stammer_102 rfl ?_
    refine g_iload dX8_stammer_104 rfl ?_
    refine g_icmp_ge (tgt := 180) dX8_stammer_106 (by decide) (fun hc => ?_) (fun hc => ?_)
    · have hf := ite_t hc hf
      exact g_weakr (w_X8_stammer_180 hr hf) (lsk (lsd (lsd (lsd (lsk (lsk (lsk (lsd (lsd (lsd lsz))))))))))
    · have hf := ite_f hc hf
      refine g_bipush (v := 13) dX8_stammer_109 (by decide) ?_
      refine g_ist9 dX8_stammer_111 (by decide) lnl_i ?_
      exact w_X8_stammer_113 hr (fun hf => ih hf) fu hf
def b_X8_stammer_99   (x3 : Int32) (x4 : Int32) (x5 : Int32) (x6 : Int64) (M : Mem) : Option (Int32 × Mem) :=
  b_X8_stammer_102 x3 x4 x5 fu x6 (0 : Int32) M
set_option maxHeartbeats 4000000 in
set_option maxRecDepth 100000 in
theorem w_X8_stammer_99 {X : Cx} {r : Int32} {M1 : Mem}      {x3 : Int32} {x4 : Int32} {x5 : Int32} {x6 : Int64} {M : Mem} (hr : X.meth.sig.returnType = (some .int)) (hf : b_X8_stammer_99 x3 x4 x5 x6 M = some (r, M1)) : G X (some (.int r), M1) RX8 cX8_stammer 10 5 115 99 [some (.ref (X.1.1 63)), none, none, some (.int x3), some (.int x4), some (.int x5), some (.long x6), none, none, none] [] M := by
  unfold b_X8_stammer_99 at hf
  refine g_iconst (v := 0) dX8_stammer_99 (by decide) ?_
  refine g_ist8 dX8_stammer_100 (by decide) lnl_n ?_
  exact w_X8_stammer_102 hr fu hf
def b_X8_stammer_92 (k69 : Int32 → Mem → Option (Int32 × Mem))  (x3 : Int32) (x4 : Int32) (x5 : Int32) (x6 : Int64) (x8 : Int32) (t0 : Int64) (t1 : Int32) (M : Mem) : Option (Int32 × Mem) :=
  ck t1 14 <|
  let M8 := mL M 76 (t1.toNatClampNeg) t0
  k69 (x8 + (1 : Int32)) M8
set_option maxHeartbeats 4000000 in
set_option maxRecDepth 100000 in
theorem w_X8_stammer_92 {X : Cx} {r : Int32} {M1 : Mem}  {k69 : Int32 → Mem → Option (Int32 × Mem)} {x3 : Int32} {x4 : Int32} {x5 : Int32} {x6 : Int64}   {x8 : Int32} {t0 : Int64} {t1 : Int32} {M : Mem} (hr : X.meth.sig.returnType = (some .int)) (hk69 : ∀ {x8_ : Int32} {M_ : Mem}, k69 x8_ M_ = some (r, M1) → G X (some (.int r), M1) RX8 cX8_stammer 10 5 115 69 [some (.ref (X.1.1 63)), none, none, some (.int x3), some (.int x4), some (.int x5), some (.long x6), none, some (.int x8_), none] [] M_) (hf : b_X8_stammer_92 k69 x3 x4 x5 x6 x8 t0 t1 M = some (r, M1)) : G X (some (.int r), M1) RX8 cX8_stammer 10 5 115 92 [some (.ref (X.1.1 63)), none, none, some (.int x3), some (.int x4), some (.int x5), some (.long x6), none, some (.int x8), none] [.long t0, .int t1, .ref (X.1.1 76)] M := by
  unfold b_X8_stammer_92 at hf
  obtain ⟨hi, hf⟩ := ck_s hf
  refine g_lastore (kk := 76) (by decide) (fun f g => cel_76 _ f g) hi rfl dX8_stammer_92 ?_
  refine g_iinc8 (v := (x8 + (1 : Int32))) dX8_stammer_93 (by decide) lnl_n rfl ?_
  refine g_goto (tgt := 69) dX8_stammer_96 (by decide) ?_
  exact hk69 hf
def b_X8_stammer_69   (x3 : Int32) (x4 : Int32) (x5 : Int32) (x6 : Int64) : Nat → Int32 → Mem → Option (Int32 × Mem)
  | 0, _, _ => none
  | n + 1, x8, M =>
    if (14 : Int32) ≤ x8 then (b_X8_stammer_99 x3 x4 x5 x6 M)
    else (if x8 = 0 then (b_X8_stammer_92 (fun x8_ M_ => b_X8_stammer_69 x3 x4 x5 x6 n x8_ M_) x3 x4 x5 x6 x8 (1 : Int64) x8 M)
    else (b_X8_stammer_92 (fun x8_ M_ => b_X8_stammer_69 x3 x4 x5 x6 n x8_ M_) x3 x4 x5 x6 x8 (0 : Int64) x8 M))
set_option maxHeartbeats 4000000 in
set_option maxRecDepth 100000 in
theorem w_X8_stammer_69 {X : Cx} {r : Int32} {M1 : Mem}   {x3 : Int32} {x4 : Int32} {x5 : Int32} {x6 : Int64}   (hr : X.meth.sig.returnType = (some .int)) : ∀ (n : Nat) {x8 : Int32} {M : Mem}, b_X8_stammer_69 x3 x4 x5 x6 n x8 M = some (r, M1) → G X (some (.int r), M1) RX8 cX8_stammer 10 5 115 69 [some (.ref (X.1.1 63)), none, none, some (.int x3), some (.int x4), some (.int x5), some (.long x6), none, some (.int x8), none] [] M := by
  intro n
  induction n with
  | zero => intro x8 M hf; cases hf
  | succ n ih =>
    intro x8 M hf
    rw [b_X8_stammer_69.eq_2] at hf
    refine g_iload dX8_stammer_69 rfl ?_
    refine g_bipush (v := 14) dX8_stammer_71 (by decide) ?_
    refine g_icmp_ge (tgt := 99) dX8_stammer_73 (by decide) (fun hc => ?_) (fun hc => ?_)
    · have hf := ite_t hc hf
      exact g_weakr (w_X8_stammer_99 hr hf) (lsk (lsd (lsd (lsk (lsk (lsk (lsk (lsd (lsd (lsd lsz))))))))))
    · have hf := ite_f hc hf
      refine g_aload_n dX8_stammer_76 rfl ?_
      refine g_get (kk := 63) (by decide) (cel_63 _ _ _) rfl inX8 fl_X8_52 (by decide) rfl dX8_stammer_77 ?_
      refine g_iload dX8_stammer_80 rfl ?_
      refine g_iload dX8_stammer_82 rfl ?_
      refine g_if_ne (tgt := 91) dX8_stammer_84 (by decide) (fun hc => ?_) (fun hc => ?_)
      · have hf := ite_f hc hf
        refine g_lconst (v := 0) dX8_stammer_91 (by decide) ?_
        exact w_X8_stammer_92 hr (fun hf => ih hf) hf
      · have hf := ite_t hc hf
        refine g_lconst (v := 1) dX8_stammer_87 (by decide) ?_
        refine g_goto (tgt := 92) dX8_stammer_88 (by decide) ?_
        exact w_X8_stammer_92 hr (fun hf => ih hf) hf
def f_X8_stammer (x1 : Int32) (x2 : Int32) (x3 : Int32) (x4 : Int32) (M : Mem) : Option (Int32 × Mem) :=
  if (f_X8_isRow x1) = 0 then ((f_X8_bad (-2 : Int32) M).bind fun r1 =>
  some (r1.1, r1.2))
  else (if (f_X8_isBridge M x2) = 0 then ((f_X8_bad (-2 : Int32) M).bind fun r2 =>
  some (r2.1, r2.2))
  else (if (f_X8_in x3.toInt64 (0 : Int64) (10 : Int64)) = 0 then ((f_X8_bad (-2 : Int32) M).bind fun r3 =>
  some (r3.1, r3.2))
  else (if (f_X8_in x4.toInt64 (0 : Int64) (24 : Int64)) = 0 then ((f_X8_bad (-2 : Int32) M).bind fun r9 =>
  some (r9.1, r9.2))
  else (ck x1 20 <|
  (f_X8_behindBridge M x2 (M.2 66 x1.toNatClampNeg)).bind fun r4 =>
  b_X8_stammer_69 x3 x4 (f_X8_many r4) (1 : Int64) fu (0 : Int32) M))))
set_option maxHeartbeats 4000000 in
set_option maxRecDepth 100000 in
theorem c_X8_stammer {l : Launch} {x1 : Int32} {x2 : Int32} {x3 : Int32} {x4 : Int32} {M : Mem} {r : Int32} {M1 : Mem} (hf : f_X8_stammer x1 x2 x3 x4 M = some (r, M1)) : Cn l yX8_stammer cX8_stammer 10 (some .int) 5 115 (fun E => [.ref (E.1 63), .int x1, .int x2, .int x3, .int x4]) M (some (.int r), M1) := by
  unfold f_X8_stammer at hf
  refine cn_of RX8 (fun E => [some (.ref (E.1 63)), some (.int x1), some (.int x2), some (.int x3), some (.int x4), none, none, none, none, none]) (by decide +kernel) rfl (fun E => Nat.le_of_ble_eq_true rfl) (fun E => rfl) (fun X hr => ?_)
  refine g_iload_n dX8_stammer_0 rfl ?_
  refine g_cS_I_I (c_X8_isRow rfl) cs_X8_148 ⟨by decide, by decide⟩ (Nat.le_of_ble_eq_true rfl) dX8_stammer_1 ?_
  refine g_if_eq (tgt := 40) dX8_stammer_4 (by decide) (fun hc => ?_) (fun hc => ?_)
  · have hf := ite_t hc hf
    refine g_aload_n dX8_stammer_40 rfl ?_
    refine g_bipush (v := (-2)) dX8_stammer_41 (by decide) ?_
    obtain ⟨r1, hq, hf⟩ := bnd hf
    refine g_cV_I_I (c_X8_bad (r := r1.1) (M1 := r1.2) hq) cv_X8_116 (by decide) (cel_63 _ _ _) rfl ⟨by decide, by decide⟩ (Nat.le_of_ble_eq_true rfl) dX8_stammer_43 ?_
    exact g_iret_w hr hf dX8_stammer_46
  · have hf := ite_f hc hf
    refine g_aload_n dX8_stammer_7 rfl ?_
    refine g_iload_n dX8_stammer_8 rfl ?_
    refine g_cV_I_I (c_X8_isBridge rfl) cv_X8_139 (by decide) (cel_63 _ _ _) rfl ⟨by decide, by decide⟩ (Nat.le_of_ble_eq_true rfl) dX8_stammer_9 ?_
    refine g_if_eq (tgt := 40) dX8_stammer_12 (by decide) (fun hc => ?_) (fun hc => ?_)
    · have hf := ite_t hc hf
      refine g_aload_n dX8_stammer_40 rfl ?_
      refine g_bipush (v := (-2)) dX8_stammer_41 (by decide) ?_
      obtain ⟨r2, hq, hf⟩ := bnd hf
      refine g_cV_I_I (c_X8_bad (r := r2.1) (M1 := r2.2) hq) cv_X8_116 (by decide) (cel_63 _ _ _) rfl ⟨by decide, by decide⟩ (Nat.le_of_ble_eq_true rfl) dX8_stammer_43 ?_
      exact g_iret_w hr hf dX8_stammer_46
    · have hf := ite_f hc hf
      refine g_iload_n dX8_stammer_15 rfl ?_
      refine g_i2l dX8_stammer_16 ?_
      refine g_lconst (v := 0) dX8_stammer_17 (by decide) ?_
      refine g_ldc2 cl_X8_218 dX8_stammer_18 ?_
      refine g_cS_JJJ_I (c_X8_in rfl) cs_X8_106 ⟨by decide, by decide⟩ (Nat.le_of_ble_eq_true rfl) dX8_stammer_21 ?_
      refine g_if_eq (tgt := 40) dX8_stammer_24 (by decide) (fun hc => ?_) (fun hc => ?_)
      · have hf := ite_t hc hf
        refine g_aload_n dX8_stammer_40 rfl ?_
        refine g_bipush (v := (-2)) dX8_stammer_41 (by decide) ?_
        obtain ⟨r3, hq, hf⟩ := bnd hf
        refine g_cV_I_I (c_X8_bad (r := r3.1) (M1 := r3.2) hq) cv_X8_116 (by decide) (cel_63 _ _ _) rfl ⟨by decide, by decide⟩ (Nat.le_of_ble_eq_true rfl) dX8_stammer_43 ?_
        exact g_iret_w hr hf dX8_stammer_46
      · have hf := ite_f hc hf
        refine g_iload dX8_stammer_27 rfl ?_
        refine g_i2l dX8_stammer_29 ?_
        refine g_lconst (v := 0) dX8_stammer_30 (by decide) ?_
        refine g_ldc2 cl_X8_220 dX8_stammer_31 ?_
        refine g_cS_JJJ_I (c_X8_in rfl) cs_X8_106 ⟨by decide, by decide⟩ (Nat.le_of_ble_eq_true rfl) dX8_stammer_34 ?_
        refine g_if_ne (tgt := 47) dX8_stammer_37 (by decide) (fun hc => ?_) (fun hc => ?_)
        · have hf := ite_f hc hf
          refine g_aload_n dX8_stammer_47 rfl ?_
          refine g_iload_n dX8_stammer_48 rfl ?_
          refine g_aload_n dX8_stammer_49 rfl ?_
          refine g_get (kk := 63) (by decide) (cel_63 _ _ _) rfl inX8 fl_X8_16 (by decide) rfl dX8_stammer_50 ?_
          refine g_iload_n dX8_stammer_53 rfl ?_
          obtain ⟨hi, hf⟩ := ck_s hf
          refine g_laload (kk := 66) (by decide) (fun f g => cel_66 _ f g) hi rfl dX8_stammer_54 ?_
          obtain ⟨r4, hq, hf⟩ := bnd hf
          refine g_cV_IJ_J (c_X8_behindBridge hq) cv_X8_158 (by decide) (cel_63 _ _ _) rfl ⟨by decide, by decide⟩ (Nat.le_of_ble_eq_true rfl) dX8_stammer_55 ?_
          refine g_cS_J_I (c_X8_many rfl) cs_X8_71 ⟨by decide, by decide⟩ (Nat.le_of_ble_eq_true rfl) dX8_stammer_58 ?_
          refine g_ist5 dX8_stammer_61 (by decide) lnl_i ?_
          refine g_lconst (v := 1) dX8_stammer_63 (by decide) ?_
          refine g_lst6 dX8_stammer_64 (by decide) lnl_i ?_
          refine g_iconst (v := 0) dX8_stammer_66 (by decide) ?_
          refine g_ist8 dX8_stammer_67 (by decide) lnl_n ?_
          exact g_weakr (w_X8_stammer_69 hr fu hf) (lsk (lsd (lsd (lsk (lsk (lsk (lsk (lsd (lsk (lsd lsz))))))))))
        · have hf := ite_t hc hf
          refine g_aload_n dX8_stammer_40 rfl ?_
          refine g_bipush (v := (-2)) dX8_stammer_41 (by decide) ?_
          obtain ⟨r9, hq, hf⟩ := bnd hf
          refine g_cV_I_I (c_X8_bad (r := r9.1) (M1 := r9.2) hq) cv_X8_116 (by decide) (cel_63 _ _ _) rfl ⟨by decide, by decide⟩ (Nat.le_of_ble_eq_true rfl) dX8_stammer_43 ?_
          exact g_iret_w hr hf dX8_stammer_46
-- X8_areBoats
def f_X8_areBoats (x0 : Int32) (x1 : Int32) : Int32 :=
  if (f_X8_in x0.toInt64 (0 : Int64) (999999 : Int64)) = 0 then ((0 : Int32))
  else (if (f_X8_in x1.toInt64 (0 : Int64) (60 : Int64)) = 0 then ((0 : Int32))
  else ((1 : Int32)))
set_option maxHeartbeats 4000000 in
set_option maxRecDepth 100000 in
theorem c_X8_areBoats {l : Launch} {x0 : Int32} {x1 : Int32} {M : Mem} {r : Int32} (hf : f_X8_areBoats x0 x1 = r) : Cn l yX8_areBoats cX8_areBoats 2 (some .boolean) 1 25 (fun E => [.int x0, .int x1]) M (some (.int r), M) := by
  unfold f_X8_areBoats at hf
  refine cn_of RX8 (fun E => [some (.int x0), some (.int x1)]) (by decide +kernel) rfl (fun E => Nat.le_of_ble_eq_true rfl) (fun E => rfl) (fun X hr => ?_)
  refine g_iload_n dX8_areBoats_0 rfl ?_
  refine g_i2l dX8_areBoats_1 ?_
  refine g_lconst (v := 0) dX8_areBoats_2 (by decide) ?_
  refine g_ldc2 cl_X8_240 dX8_areBoats_3 ?_
  refine g_cS_JJJ_I (c_X8_in rfl) cs_X8_106 ⟨by decide, by decide⟩ (Nat.le_of_ble_eq_true rfl) dX8_areBoats_6 ?_
  refine g_if_eq (tgt := 28) dX8_areBoats_9 (by decide) (fun hc => ?_) (fun hc => ?_)
  · have hf := ite_t hc hf
    refine g_iconst (v := 0) dX8_areBoats_28 (by decide) ?_
    exact g_zret_t hr (Or.inl rfl) hf dX8_areBoats_29
  · have hf := ite_f hc hf
    refine g_iload_n dX8_areBoats_12 rfl ?_
    refine g_i2l dX8_areBoats_13 ?_
    refine g_lconst (v := 0) dX8_areBoats_14 (by decide) ?_
    refine g_ldc2 cl_X8_242 dX8_areBoats_15 ?_
    refine g_cS_JJJ_I (c_X8_in rfl) cs_X8_106 ⟨by decide, by decide⟩ (Nat.le_of_ble_eq_true rfl) dX8_areBoats_18 ?_
    refine g_if_eq (tgt := 28) dX8_areBoats_21 (by decide) (fun hc => ?_) (fun hc => ?_)
    · have hf := ite_t hc hf
      refine g_iconst (v := 0) dX8_areBoats_28 (by decide) ?_
      exact g_zret_t hr (Or.inl rfl) hf dX8_areBoats_29
    · have hf := ite_f hc hf
      refine g_iconst (v := 1) dX8_areBoats_24 (by decide) ?_
      refine g_goto (tgt := 29) dX8_areBoats_25 (by decide) ?_
      exact g_zret_t hr (Or.inr rfl) hf dX8_areBoats_29
theorem z_X8_areBoats  {x0 : Int32} {x1 : Int32} : f_X8_areBoats x0 x1 = 0 ∨ f_X8_areBoats x0 x1 = 1 := by
  unfold f_X8_areBoats
  first | exact z_X8_in | exact z_X8_in | (repeat' split) <;> first | exact Or.inl rfl | exact Or.inr rfl | exact z_X8_in | exact z_X8_in
-- X8_exchanged
def f_X8_exchanged (x0 : Int32) (x1 : Int32) (x2 : Int32) : Int32 :=
  if x0 = x1 then x2
  else (if x0 = x2 then x1
  else x0)
set_option maxHeartbeats 4000000 in
set_option maxRecDepth 100000 in
theorem c_X8_exchanged {l : Launch} {x0 : Int32} {x1 : Int32} {x2 : Int32} {M : Mem} {r : Int32} (hf : f_X8_exchanged x0 x1 x2 = r) : Cn l yX8_exchanged cX8_exchanged 3 (some .int) 0 0 (fun E => [.int x0, .int x1, .int x2]) M (some (.int r), M) := by
  unfold f_X8_exchanged at hf
  refine cn_of RX8 (fun E => [some (.int x0), some (.int x1), some (.int x2)]) (by decide +kernel) rfl (fun E => Nat.le_of_ble_eq_true rfl) (fun E => rfl) (fun X hr => ?_)
  refine g_iload_n dX8_exchanged_0 rfl ?_
  refine g_iload_n dX8_exchanged_1 rfl ?_
  refine g_icmp_ne (tgt := 9) dX8_exchanged_2 (by decide) (fun hc => ?_) (fun hc => ?_)
  · have hf := ite_f hc hf
    refine g_iload_n dX8_exchanged_9 rfl ?_
    refine g_iload_n dX8_exchanged_10 rfl ?_
    refine g_icmp_ne (tgt := 18) dX8_exchanged_11 (by decide) (fun hc => ?_) (fun hc => ?_)
    · have hf := ite_f hc hf
      refine g_iload_n dX8_exchanged_18 rfl ?_
      exact g_iret_t hr hf dX8_exchanged_19
    · have hf := ite_t hc hf
      refine g_iload_n dX8_exchanged_14 rfl ?_
      refine g_goto (tgt := 19) dX8_exchanged_15 (by decide) ?_
      exact g_iret_t hr hf dX8_exchanged_19
  · have hf := ite_t hc hf
    refine g_iload_n dX8_exchanged_5 rfl ?_
    refine g_goto (tgt := 19) dX8_exchanged_6 (by decide) ?_
    exact g_iret_t hr hf dX8_exchanged_19
-- X8_boatsBy
def b_X8_boatsBy_117 (k10 : Int64 → Int32 → Int32 → Option Int32) (M : Mem) (x1 : Int32) (x3 : Int32) (x4 : Int32) (x5 : Int32) (x6 : Int64) (x9 : Int32) (t0 : Int32) (t1 : Int32) : Option Int32 :=
  k10 x6 (t1 + t0) (x9 + (1 : Int32))
set_option maxHeartbeats 4000000 in
set_option maxRecDepth 100000 in
theorem w_X8_boatsBy_117 {X : Cx} {r : Int32} {M : Mem} {k10 : Int64 → Int32 → Int32 → Option Int32} {x1 : Int32} {x3 : Int32} {x4 : Int32} {x5 : Int32}   {x6 : Int64} {x9 : Int32} {t0 : Int32} {t1 : Int32} (hr : X.meth.sig.returnType = (some .int)) (hk10 : ∀ {x6_ : Int64} {x8_ : Int32} {x9_ : Int32}, k10 x6_ x8_ x9_ = some r → G X (some (.int r), M) RX8 cX8_boatsBy 15 5 115 10 [some (.ref (X.1.1 63)), some (.int x1), none, some (.int x3), some (.int x4), some (.int x5), some (.long x6_), none, some (.int x8_), some (.int x9_), none, none, none, none, none] [] M) (hf : b_X8_boatsBy_117 k10 M x1 x3 x4 x5 x6 x9 t0 t1 = some r) : G X (some (.int r), M) RX8 cX8_boatsBy 15 5 115 117 [some (.ref (X.1.1 63)), some (.int x1), none, some (.int x3), some (.int x4), some (.int x5), some (.long x6), none, none, some (.int x9), none, none, none, none, none] [.int t0, .int t1] M := by
  unfold b_X8_boatsBy_117 at hf
  refine g_iadd dX8_boatsBy_117 ?_
  refine g_ist8 dX8_boatsBy_118 (by decide) lnl_n ?_
  refine g_iinc9 (v := (x9 + (1 : Int32))) dX8_boatsBy_120 (by decide) lnl_i rfl ?_
  refine g_goto (tgt := 10) dX8_boatsBy_123 (by decide) ?_
  exact hk10 hf
def b_X8_boatsBy_105 (k10 : Int64 → Int32 → Int32 → Option Int32) (M : Mem) (x1 : Int32) (x3 : Int32) (x4 : Int32) (x5 : Int32) (x6 : Int64) (x8 : Int32) (x9 : Int32) (x13 : Int32) : Option Int32 :=
  if x13 = 0 then (b_X8_boatsBy_117 k10 M x1 x3 x4 x5 x6 x9 (0 : Int32) x8)
  else (b_X8_boatsBy_117 k10 M x1 x3 x4 x5 x6 x9 (1 : Int32) x8)
set_option maxHeartbeats 4000000 in
set_option maxRecDepth 100000 in
theorem w_X8_boatsBy_105 {X : Cx} {r : Int32} {M : Mem} {k10 : Int64 → Int32 → Int32 → Option Int32} {x1 : Int32} {x3 : Int32} {x4 : Int32} {x5 : Int32}   {x6 : Int64} {x8 : Int32} {x9 : Int32} {x13 : Int32} (hr : X.meth.sig.returnType = (some .int)) (hk10 : ∀ {x6_ : Int64} {x8_ : Int32} {x9_ : Int32}, k10 x6_ x8_ x9_ = some r → G X (some (.int r), M) RX8 cX8_boatsBy 15 5 115 10 [some (.ref (X.1.1 63)), some (.int x1), none, some (.int x3), some (.int x4), some (.int x5), some (.long x6_), none, some (.int x8_), some (.int x9_), none, none, none, none, none] [] M) (hf : b_X8_boatsBy_105 k10 M x1 x3 x4 x5 x6 x8 x9 x13 = some r) : G X (some (.int r), M) RX8 cX8_boatsBy 15 5 115 105 [some (.ref (X.1.1 63)), some (.int x1), none, some (.int x3), some (.int x4), some (.int x5), some (.long x6), none, some (.int x8), some (.int x9), none, none, none, some (.int x13), none] [] M := by
  unfold b_X8_boatsBy_105 at hf
  refine g_iload dX8_boatsBy_105 rfl ?_
  refine g_iload dX8_boatsBy_107 rfl ?_
  refine g_if_eq (tgt := 116) dX8_boatsBy_109 (by decide) (fun hc => ?_) (fun hc => ?_)
  · have hf := ite_t hc hf
    refine g_iconst (v := 0) dX8_boatsBy_116 (by decide) ?_
    exact g_weakr (w_X8_boatsBy_117 hr hk10 hf) (lsk (lsk (lsd (lsk (lsk (lsk (lsk (lsd (lsd (lsk (lsd (lsd (lsd (lsd (lsd lsz)))))))))))))))
  · have hf := ite_f hc hf
    refine g_iconst (v := 1) dX8_boatsBy_112 (by decide) ?_
    refine g_goto (tgt := 117) dX8_boatsBy_113 (by decide) ?_
    exact g_weakr (w_X8_boatsBy_117 hr hk10 hf) (lsk (lsk (lsd (lsk (lsk (lsk (lsk (lsd (lsd (lsk (lsd (lsd (lsd (lsd (lsd lsz)))))))))))))))
def b_X8_boatsBy_59 (k10 : Int64 → Int32 → Int32 → Option Int32) (M : Mem) (x1 : Int32) (x3 : Int32) (x4 : Int32) (x5 : Int32) (x6 : Int64) (x8 : Int32) (x9 : Int32) (x10 : Int32) : Nat → Int64 → Int32 → Int32 → Option Int32
  | 0, _, _, _ => none
  | n + 1, x11, x13, x14 =>
    if (f_X8_bridges M) ≤ x14 then (b_X8_boatsBy_105 k10 M x1 x3 x4 x5 x6 x8 x9 x13)
    else (if x13 = 0 then (b_X8_boatsBy_105 k10 M x1 x3 x4 x5 x6 x8 x9 x13)
    else ((f_X8_behindBridge M (f_X8_exchanged x14 x4 x5) x11).bind fun r1 =>
    (f_X8_canSay x10 r1).bind fun r2 =>
    b_X8_boatsBy_59 k10 M x1 x3 x4 x5 x6 x8 x9 x10 n r1 r2 (x14 + (1 : Int32))))
set_option maxHeartbeats 4000000 in
set_option maxRecDepth 100000 in
theorem w_X8_boatsBy_59 {X : Cx} {r : Int32} {M : Mem} {k10 : Int64 → Int32 → Int32 → Option Int32} {x1 : Int32} {x3 : Int32} {x4 : Int32} {x5 : Int32} {x6 : Int64} {x8 : Int32} {x9 : Int32} {x10 : Int32}   (hr : X.meth.sig.returnType = (some .int)) (hk10 : ∀ {x6_ : Int64} {x8_ : Int32} {x9_ : Int32}, k10 x6_ x8_ x9_ = some r → G X (some (.int r), M) RX8 cX8_boatsBy 15 5 115 10 [some (.ref (X.1.1 63)), some (.int x1), none, some (.int x3), some (.int x4), some (.int x5), some (.long x6_), none, some (.int x8_), some (.int x9_), none, none, none, none, none] [] M) : ∀ (n : Nat) {x11 : Int64} {x13 : Int32} {x14 : Int32}, b_X8_boatsBy_59 k10 M x1 x3 x4 x5 x6 x8 x9 x10 n x11 x13 x14 = some r → G X (some (.int r), M) RX8 cX8_boatsBy 15 5 115 59 [some (.ref (X.1.1 63)), some (.int x1), none, some (.int x3), some (.int x4), some (.int x5), some (.long x6), none, some (.int x8), some (.int x9), some (.int x10), some (.long x11), none, some (.int x13), some (.int x14)] [] M := by
  intro n
  induction n with
  | zero => intro x11 x13 x14 hf; cases hf
  | succ n ih =>
    intro x11 x13 x14 hf
    rw [b_X8_boatsBy_59.eq_2] at hf
    refine g_iload dX8_boatsBy_59 rfl ?_
    refine g_aload_n dX8_boatsBy_61 rfl ?_
    refine g_cV_0_I (c_X8_bridges rfl) cv_X8_102 (by decide) (cel_63 _ _ _) rfl ⟨by decide, by decide⟩ (Nat.le_of_ble_eq_true rfl) dX8_boatsBy_62 ?_
    refine g_icmp_ge (tgt := 105) dX8_boatsBy_65 (by decide) (fun hc => ?_) (fun hc => ?_)
    · have hf := ite_t hc hf
      exact g_weakr (w_X8_boatsBy_105 hr hk10 hf) (lsk (lsk (lsd (lsk (lsk (lsk (lsk (lsd (lsk (lsk (lsd (lsd (lsd (lsk (lsd lsz)))))))))))))))
    · have hf := ite_f hc hf
      refine g_iload dX8_boatsBy_68 rfl ?_
      refine g_if_eq (tgt := 105) dX8_boatsBy_70 (by decide) (fun hc => ?_) (fun hc => ?_)
      · have hf := ite_t hc hf
        exact g_weakr (w_X8_boatsBy_105 hr hk10 hf) (lsk (lsk (lsd (lsk (lsk (lsk (lsk (lsd (lsk (lsk (lsd (lsd (lsd (lsk (lsd lsz)))))))))))))))
      · have hf := ite_f hc hf
        refine g_aload_n dX8_boatsBy_73 rfl ?_
        refine g_iload dX8_boatsBy_74 rfl ?_
        refine g_iload dX8_boatsBy_76 rfl ?_
        refine g_iload dX8_boatsBy_78 rfl ?_
        refine g_cS_III_I (c_X8_exchanged rfl) cs_X8_236 ⟨by decide, by decide⟩ (Nat.le_of_ble_eq_true rfl) dX8_boatsBy_80 ?_
        refine g_lload dX8_boatsBy_83 rfl ?_
        obtain ⟨r1, hq, hf⟩ := bnd hf
        refine g_cV_IJ_J (c_X8_behindBridge hq) cv_X8_158 (by decide) (cel_63 _ _ _) rfl ⟨by decide, by decide⟩ (Nat.le_of_ble_eq_true rfl) dX8_boatsBy_85 ?_
        refine g_lst11 dX8_boatsBy_88 (by decide) lnl_i ?_
        refine g_iload dX8_boatsBy_90 rfl ?_
        refine g_lload dX8_boatsBy_92 rfl ?_
        obtain ⟨r2, hq, hf⟩ := bnd hf
        refine g_cS_IJ_I (c_X8_canSay hq) cs_X8_164 ⟨by decide, by decide⟩ (Nat.le_of_ble_eq_true rfl) dX8_boatsBy_94 ?_
        refine g_ist13 dX8_boatsBy_97 (by decide) lnl_n ?_
        refine g_iinc14 (v := (x14 + (1 : Int32))) dX8_boatsBy_99 (by decide) lnl_i rfl ?_
        refine g_goto (tgt := 59) dX8_boatsBy_102 (by decide) ?_
        exact ih hf
def b_X8_boatsBy_10  (M : Mem) (x1 : Int32) (x3 : Int32) (x4 : Int32) (x5 : Int32) : Nat → Int64 → Int32 → Int32 → Option Int32
  | 0, _, _, _ => none
  | n + 1, x6, x8, x9 =>
    if x3 ≤ x9 then (some x8)
    else (ck x1 20 <|
    b_X8_boatsBy_59 (fun x6_ x8_ x9_ => b_X8_boatsBy_10 M x1 x3 x4 x5 n x6_ x8_ x9_) M x1 x3 x4 x5 (((x6 * (1103515245 : Int64)) + (12345 : Int64)) - ((x6 * (1103515245 : Int64)) + (12345 : Int64)) / (2147483648 : Int64) * (2147483648 : Int64)) x8 x9 (((((x6 * (1103515245 : Int64)) + (12345 : Int64)) - ((x6 * (1103515245 : Int64)) + (12345 : Int64)) / (2147483648 : Int64) * (2147483648 : Int64)) / (32768 : Int64)) - ((((x6 * (1103515245 : Int64)) + (12345 : Int64)) - ((x6 * (1103515245 : Int64)) + (12345 : Int64)) / (2147483648 : Int64) * (2147483648 : Int64)) / (32768 : Int64)) / (65536 : Int64) * (65536 : Int64)).toInt32 fu (M.2 66 x1.toNatClampNeg) (1 : Int32) (0 : Int32))
set_option maxHeartbeats 4000000 in
set_option maxRecDepth 100000 in
theorem w_X8_boatsBy_10 {X : Cx} {r : Int32} {M : Mem}  {x1 : Int32} {x3 : Int32} {x4 : Int32} {x5 : Int32}   (hr : X.meth.sig.returnType = (some .int)) : ∀ (n : Nat) {x6 : Int64} {x8 : Int32} {x9 : Int32}, b_X8_boatsBy_10 M x1 x3 x4 x5 n x6 x8 x9 = some r → G X (some (.int r), M) RX8 cX8_boatsBy 15 5 115 10 [some (.ref (X.1.1 63)), some (.int x1), none, some (.int x3), some (.int x4), some (.int x5), some (.long x6), none, some (.int x8), some (.int x9), none, none, none, none, none] [] M := by
  intro n
  induction n with
  | zero => intro x6 x8 x9 hf; cases hf
  | succ n ih =>
    intro x6 x8 x9 hf
    rw [b_X8_boatsBy_10.eq_2] at hf
    refine g_iload dX8_boatsBy_10 rfl ?_
    refine g_iload_n dX8_boatsBy_12 rfl ?_
    refine g_icmp_ge (tgt := 126) dX8_boatsBy_13 (by decide) (fun hc => ?_) (fun hc => ?_)
    · have hf := ite_t hc hf
      refine g_iload dX8_boatsBy_126 rfl ?_
      exact g_iret_p hr hf dX8_boatsBy_128
    · have hf := ite_f hc hf
      refine g_lload dX8_boatsBy_16 rfl ?_
      refine g_ldc2 cl_X8_226 dX8_boatsBy_18 ?_
      refine g_lmul dX8_boatsBy_21 ?_
      refine g_ldc2 cl_X8_228 dX8_boatsBy_22 ?_
      refine g_ladd dX8_boatsBy_25 ?_
      refine g_ldc2 cl_X8_230 dX8_boatsBy_26 ?_
      refine g_lrem dX8_boatsBy_29 (by decide) ?_
      refine g_lst6 dX8_boatsBy_30 (by decide) lnl_i ?_
      refine g_lload dX8_boatsBy_32 rfl ?_
      refine g_ldc2 cl_X8_232 dX8_boatsBy_34 ?_
      refine g_ldiv dX8_boatsBy_37 (by decide) ?_
      refine g_ldc2 cl_X8_234 dX8_boatsBy_38 ?_
      refine g_lrem dX8_boatsBy_41 (by decide) ?_
      refine g_l2i dX8_boatsBy_42 ?_
      refine g_ist10 dX8_boatsBy_43 (by decide) lnl_i ?_
      refine g_aload_n dX8_boatsBy_45 rfl ?_
      refine g_get (kk := 63) (by decide) (cel_63 _ _ _) rfl inX8 fl_X8_16 (by decide) rfl dX8_boatsBy_46 ?_
      refine g_iload_n dX8_boatsBy_49 rfl ?_
      obtain ⟨hi, hf⟩ := ck_s hf
      refine g_laload (kk := 66) (by decide) (fun f g => cel_66 _ f g) hi rfl dX8_boatsBy_50 ?_
      refine g_lst11 dX8_boatsBy_51 (by decide) lnl_i ?_
      refine g_iconst (v := 1) dX8_boatsBy_53 (by decide) ?_
      refine g_ist13 dX8_boatsBy_54 (by decide) lnl_n ?_
      refine g_iconst (v := 0) dX8_boatsBy_56 (by decide) ?_
      refine g_ist14 dX8_boatsBy_57 (by decide) lnl_i ?_
      exact w_X8_boatsBy_59 hr (fun hf => ih hf) fu hf
def f_X8_boatsBy (M : Mem) (x1 : Int32) (x2 : Int32) (x3 : Int32) (x4 : Int32) (x5 : Int32) : Option Int32 :=
  b_X8_boatsBy_10 M x1 x3 x4 x5 fu x2.toInt64 (0 : Int32) (0 : Int32)
set_option maxHeartbeats 4000000 in
set_option maxRecDepth 100000 in
theorem c_X8_boatsBy {l : Launch} {x1 : Int32} {x2 : Int32} {x3 : Int32} {x4 : Int32} {x5 : Int32} {M : Mem} {r : Int32} (hf : f_X8_boatsBy M x1 x2 x3 x4 x5 = some r) : Cn l yX8_boatsBy cX8_boatsBy 15 (some .int) 5 115 (fun E => [.ref (E.1 63), .int x1, .int x2, .int x3, .int x4, .int x5]) M (some (.int r), M) := by
  unfold f_X8_boatsBy at hf
  refine cn_of RX8 (fun E => [some (.ref (E.1 63)), some (.int x1), some (.int x2), some (.int x3), some (.int x4), some (.int x5), none, none, none, none, none, none, none, none, none]) (by decide +kernel) rfl (fun E => Nat.le_of_ble_eq_true rfl) (fun E => rfl) (fun X hr => ?_)
  refine g_iload_n dX8_boatsBy_0 rfl ?_
  refine g_i2l dX8_boatsBy_1 ?_
  refine g_lst6 dX8_boatsBy_2 (by decide) lnl_i ?_
  refine g_iconst (v := 0) dX8_boatsBy_4 (by decide) ?_
  refine g_ist8 dX8_boatsBy_5 (by decide) lnl_n ?_
  refine g_iconst (v := 0) dX8_boatsBy_7 (by decide) ?_
  refine g_ist9 dX8_boatsBy_8 (by decide) lnl_i ?_
  exact g_weakr (w_X8_boatsBy_10 hr fu hf) (lsk (lsk (lsd (lsk (lsk (lsk (lsk (lsd (lsk (lsk (lsd (lsd (lsd (lsd (lsd lsz)))))))))))))))
-- X8_boats
def f_X8_boats (x1 : Int32) (x2 : Int32) (x3 : Int32) (M : Mem) : Option (Int32 × Mem) :=
  if (f_X8_isRow x1) = 0 then ((f_X8_bad (-2 : Int32) M).bind fun r1 =>
  some (r1.1, r1.2))
  else (if (f_X8_areBoats x2 x3) = 0 then ((f_X8_bad (-2 : Int32) M).bind fun r2 =>
  some (r2.1, r2.2))
  else ((f_X8_boatsBy M x1 x2 x3 (-1 : Int32) (-1 : Int32)).bind fun r3 =>
  some (r3, M)))
set_option maxHeartbeats 4000000 in
set_option maxRecDepth 100000 in
theorem c_X8_boats {l : Launch} {x1 : Int32} {x2 : Int32} {x3 : Int32} {M : Mem} {r : Int32} {M1 : Mem} (hf : f_X8_boats x1 x2 x3 M = some (r, M1)) : Cn l yX8_boats cX8_boats 4 (some .int) 6 149 (fun E => [.ref (E.1 63), .int x1, .int x2, .int x3]) M (some (.int r), M1) := by
  unfold f_X8_boats at hf
  refine cn_of RX8 (fun E => [some (.ref (E.1 63)), some (.int x1), some (.int x2), some (.int x3)]) (by decide +kernel) rfl (fun E => Nat.le_of_ble_eq_true rfl) (fun E => rfl) (fun X hr => ?_)
  refine g_iload_n dX8_boats_0 rfl ?_
  refine g_cS_I_I (c_X8_isRow rfl) cs_X8_148 ⟨by decide, by decide⟩ (Nat.le_of_ble_eq_true rfl) dX8_boats_1 ?_
  refine g_if_eq (tgt := 27) dX8_boats_4 (by decide) (fun hc => ?_) (fun hc => ?_)
  · have hf := ite_t hc hf
    refine g_aload_n dX8_boats_27 rfl ?_
    refine g_bipush (v := (-2)) dX8_boats_28 (by decide) ?_
    obtain ⟨r1, hq, hf⟩ := bnd hf
    refine g_cV_I_I (c_X8_bad (r := r1.1) (M1 := r1.2) hq) cv_X8_116 (by decide) (cel_63 _ _ _) rfl ⟨by decide, by decide⟩ (Nat.le_of_ble_eq_true rfl) dX8_boats_30 ?_
    exact g_iret_w hr hf dX8_boats_33
  · have hf := ite_f hc hf
    refine g_iload_n dX8_boats_7 rfl ?_
    refine g_iload_n dX8_boats_8 rfl ?_
    refine g_cS_II_I (c_X8_areBoats rfl) cs_X8_244 ⟨by decide, by decide⟩ (Nat.le_of_ble_eq_true rfl) dX8_boats_9 ?_
    refine g_if_eq (tgt := 27) dX8_boats_12 (by decide) (fun hc => ?_) (fun hc => ?_)
    · have hf := ite_t hc hf
      refine g_aload_n dX8_boats_27 rfl ?_
      refine g_bipush (v := (-2)) dX8_boats_28 (by decide) ?_
      obtain ⟨r2, hq, hf⟩ := bnd hf
      refine g_cV_I_I (c_X8_bad (r := r2.1) (M1 := r2.2) hq) cv_X8_116 (by decide) (cel_63 _ _ _) rfl ⟨by decide, by decide⟩ (Nat.le_of_ble_eq_true rfl) dX8_boats_30 ?_
      exact g_iret_w hr hf dX8_boats_33
    · have hf := ite_f hc hf
      refine g_aload_n dX8_boats_15 rfl ?_
      refine g_iload_n dX8_boats_16 rfl ?_
      refine g_iload_n dX8_boats_17 rfl ?_
      refine g_iload_n dX8_boats_18 rfl ?_
      refine g_iconst (v := (-1)) dX8_boats_19 (by decide) ?_
      refine g_iconst (v := (-1)) dX8_boats_20 (by decide) ?_
      obtain ⟨r3, hq, hf⟩ := bnd hf
      refine g_cV_IIIII_I (c_X8_boatsBy hq) cv_X8_247 (by decide) (cel_63 _ _ _) rfl ⟨by decide, by decide⟩ (Nat.le_of_ble_eq_true rfl) dX8_boats_21 ?_
      refine g_goto (tgt := 33) dX8_boats_24 (by decide) ?_
      exact g_iret_w hr hf dX8_boats_33
-- X8_flood
def f_X8_flood (x1 : Int32) (x2 : Int32) (x3 : Int32) (x4 : Int32) (x5 : Int32) (M : Mem) : Option (Int32 × Mem) :=
  if (f_X8_isRow x1) = 0 then ((f_X8_bad (-100 : Int32) M).bind fun r1 =>
  some (r1.1, r1.2))
  else (if (f_X8_areBoats x2 x3) = 0 then ((f_X8_bad (-100 : Int32) M).bind fun r2 =>
  some (r2.1, r2.2))
  else (if (f_X8_isBridge M x4) = 0 then ((f_X8_bad (-100 : Int32) M).bind fun r3 =>
  some (r3.1, r3.2))
  else (if (f_X8_isBridge M x5) = 0 then ((f_X8_bad (-100 : Int32) M).bind fun r6 =>
  some (r6.1, r6.2))
  else ((f_X8_boatsBy M x1 x2 x3 x4 x5).bind fun r4 =>
  (f_X8_boatsBy M x1 x2 x3 (-1 : Int32) (-1 : Int32)).bind fun r5 =>
  some ((r4 - r5), M)))))
set_option maxHeartbeats 4000000 in
set_option maxRecDepth 100000 in
theorem c_X8_flood {l : Launch} {x1 : Int32} {x2 : Int32} {x3 : Int32} {x4 : Int32} {x5 : Int32} {M : Mem} {r : Int32} {M1 : Mem} (hf : f_X8_flood x1 x2 x3 x4 x5 M = some (r, M1)) : Cn l yX8_flood cX8_flood 6 (some .int) 6 149 (fun E => [.ref (E.1 63), .int x1, .int x2, .int x3, .int x4, .int x5]) M (some (.int r), M1) := by
  unfold f_X8_flood at hf
  refine cn_of RX8 (fun E => [some (.ref (E.1 63)), some (.int x1), some (.int x2), some (.int x3), some (.int x4), some (.int x5)]) (by decide +kernel) rfl (fun E => Nat.le_of_ble_eq_true rfl) (fun E => rfl) (fun X hr => ?_)
  refine g_iload_n dX8_flood_0 rfl ?_
  refine g_cS_I_I (c_X8_isRow rfl) cs_X8_148 ⟨by decide, by decide⟩ (Nat.le_of_ble_eq_true rfl) dX8_flood_1 ?_
  refine g_if_eq (tgt := 33) dX8_flood_4 (by decide) (fun hc => ?_) (fun hc => ?_)
  · have hf := ite_t hc hf
    refine g_aload_n dX8_flood_33 rfl ?_
    refine g_bipush (v := (-100)) dX8_flood_34 (by decide) ?_
    obtain ⟨r1, hq, hf⟩ := bnd hf
    refine g_cV_I_I (c_X8_bad (r := r1.1) (M1 := r1.2) hq) cv_X8_116 (by decide) (cel_63 _ _ _) rfl ⟨by decide, by decide⟩ (Nat.le_of_ble_eq_true rfl) dX8_flood_36 ?_
    exact g_iret_w hr hf dX8_flood_39
  · have hf := ite_f hc hf
    refine g_iload_n dX8_flood_7 rfl ?_
    refine g_iload_n dX8_flood_8 rfl ?_
    refine g_cS_II_I (c_X8_areBoats rfl) cs_X8_244 ⟨by decide, by decide⟩ (Nat.le_of_ble_eq_true rfl) dX8_flood_9 ?_
    refine g_if_eq (tgt := 33) dX8_flood_12 (by decide) (fun hc => ?_) (fun hc => ?_)
    · have hf := ite_t hc hf
      refine g_aload_n dX8_flood_33 rfl ?_
      refine g_bipush (v := (-100)) dX8_flood_34 (by decide) ?_
      obtain ⟨r2, hq, hf⟩ := bnd hf
      refine g_cV_I_I (c_X8_bad (r := r2.1) (M1 := r2.2) hq) cv_X8_116 (by decide) (cel_63 _ _ _) rfl ⟨by decide, by decide⟩ (Nat.le_of_ble_eq_true rfl) dX8_flood_36 ?_
      exact g_iret_w hr hf dX8_flood_39
    · have hf := ite_f hc hf
      refine g_aload_n dX8_flood_15 rfl ?_
      refine g_iload dX8_flood_16 rfl ?_
      refine g_cV_I_I (c_X8_isBridge rfl) cv_X8_139 (by decide) (cel_63 _ _ _) rfl ⟨by decide, by decide⟩ (Nat.le_of_ble_eq_true rfl) dX8_flood_18 ?_
      refine g_if_eq (tgt := 33) dX8_flood_21 (by decide) (fun hc => ?_) (fun hc => ?_)
      · have hf := ite_t hc hf
        refine g_aload_n dX8_flood_33 rfl ?_
        refine g_bipush (v := (-100)) dX8_flood_34 (by decide) ?_
        obtain ⟨r3, hq, hf⟩ := bnd hf
        refine g_cV_I_I (c_X8_bad (r := r3.1) (M1 := r3.2) hq) cv_X8_116 (by decide) (cel_63 _ _ _) rfl ⟨by decide, by decide⟩ (Nat.le_of_ble_eq_true rfl) dX8_flood_36 ?_
        exact g_iret_w hr hf dX8_flood_39
      · have hf := ite_f hc hf
        refine g_aload_n dX8_flood_24 rfl ?_
        refine g_iload dX8_flood_25 rfl ?_
        refine g_cV_I_I (c_X8_isBridge rfl) cv_X8_139 (by decide) (cel_63 _ _ _) rfl ⟨by decide, by decide⟩ (Nat.le_of_ble_eq_true rfl) dX8_flood_27 ?_
        refine g_if_ne (tgt := 40) dX8_flood_30 (by decide) (fun hc => ?_) (fun hc => ?_)
        · have hf := ite_f hc hf
          refine g_aload_n dX8_flood_40 rfl ?_
          refine g_iload_n dX8_flood_41 rfl ?_
          refine g_iload_n dX8_flood_42 rfl ?_
          refine g_iload_n dX8_flood_43 rfl ?_
          refine g_iload dX8_flood_44 rfl ?_
          refine g_iload dX8_flood_46 rfl ?_
          obtain ⟨r4, hq, hf⟩ := bnd hf
          refine g_cV_IIIII_I (c_X8_boatsBy hq) cv_X8_247 (by decide) (cel_63 _ _ _) rfl ⟨by decide, by decide⟩ (Nat.le_of_ble_eq_true rfl) dX8_flood_48 ?_
          refine g_aload_n dX8_flood_51 rfl ?_
          refine g_iload_n dX8_flood_52 rfl ?_
          refine g_iload_n dX8_flood_53 rfl ?_
          refine g_iload_n dX8_flood_54 rfl ?_
          refine g_iconst (v := (-1)) dX8_flood_55 (by decide) ?_
          refine g_iconst (v := (-1)) dX8_flood_56 (by decide) ?_
          obtain ⟨r5, hq, hf⟩ := bnd hf
          refine g_cV_IIIII_I (c_X8_boatsBy hq) cv_X8_247 (by decide) (cel_63 _ _ _) rfl ⟨by decide, by decide⟩ (Nat.le_of_ble_eq_true rfl) dX8_flood_57 ?_
          refine g_isub dX8_flood_60 ?_
          exact g_iret_w hr hf dX8_flood_61
        · have hf := ite_t hc hf
          refine g_aload_n dX8_flood_33 rfl ?_
          refine g_bipush (v := (-100)) dX8_flood_34 (by decide) ?_
          obtain ⟨r6, hq, hf⟩ := bnd hf
          refine g_cV_I_I (c_X8_bad (r := r6.1) (M1 := r6.2) hq) cv_X8_116 (by decide) (cel_63 _ _ _) rfl ⟨by decide, by decide⟩ (Nat.le_of_ble_eq_true rfl) dX8_flood_36 ?_
          exact g_iret_w hr hf dX8_flood_39
-- X8_part
def f_X8_part (x1 : Int32) (M : Mem) : Option (Int64 × Mem) :=
  if x1 = 0 then (some ((M.2 63 6), M))
  else (if x1 = (1 : Int32) then (some ((M.2 63 7), M))
  else ((f_X8_bad (-2 : Int32) M).bind fun r1 =>
  some (r1.1.toInt64, r1.2)))
set_option maxHeartbeats 4000000 in
set_option maxRecDepth 100000 in
theorem c_X8_part {l : Launch} {x1 : Int32} {M : Mem} {r : Int64} {M1 : Mem} (hf : f_X8_part x1 M = some (r, M1)) : Cn l yX8_part cX8_part 2 (some .long) 1 21 (fun E => [.ref (E.1 63), .int x1]) M (some (.long r), M1) := by
  unfold f_X8_part at hf
  refine cn_of RX8 (fun E => [some (.ref (E.1 63)), some (.int x1)]) (by decide +kernel) rfl (fun E => Nat.le_of_ble_eq_true rfl) (fun E => rfl) (fun X hr => ?_)
  refine g_iload_n dX8_part_0 rfl ?_
  refine g_if_ne (tgt := 11) dX8_part_1 (by decide) (fun hc => ?_) (fun hc => ?_)
  · have hf := ite_f hc hf
    refine g_iload_n dX8_part_11 rfl ?_
    refine g_iconst (v := 1) dX8_part_12 (by decide) ?_
    refine g_icmp_ne (tgt := 23) dX8_part_13 (by decide) (fun hc => ?_) (fun hc => ?_)
    · have hf := ite_f hc hf
      refine g_aload_n dX8_part_23 rfl ?_
      refine g_bipush (v := (-2)) dX8_part_24 (by decide) ?_
      obtain ⟨r1, hq, hf⟩ := bnd hf
      refine g_cV_I_I (c_X8_bad (r := r1.1) (M1 := r1.2) hq) cv_X8_116 (by decide) (cel_63 _ _ _) rfl ⟨by decide, by decide⟩ (Nat.le_of_ble_eq_true rfl) dX8_part_26 ?_
      refine g_i2l dX8_part_29 ?_
      exact g_lret_w hr hf dX8_part_30
    · have hf := ite_t hc hf
      refine g_aload_n dX8_part_16 rfl ?_
      refine g_get (kk := 63) (by decide) (cel_63 _ _ _) rfl inX8 fl_X8_30 (by decide) rfl dX8_part_17 ?_
      refine g_goto (tgt := 30) dX8_part_20 (by decide) ?_
      exact g_lret_w hr hf dX8_part_30
  · have hf := ite_t hc hf
    refine g_aload_n dX8_part_4 rfl ?_
    refine g_get (kk := 63) (by decide) (cel_63 _ _ _) rfl inX8 fl_X8_215 (by decide) rfl dX8_part_5 ?_
    refine g_goto (tgt := 30) dX8_part_8 (by decide) ?_
    exact g_lret_w hr hf dX8_part_30
-- X8_image
def b_X8_image_52   (x1 : Int32) : Nat → Int32 → Mem → Option (Int32 × Mem)
  | 0, _, _ => none
  | n + 1, x2, M =>
    if (20 : Int32) ≤ x2 then (ck x1 2 <|
    let M1 := mI M 68 (x1.toNatClampNeg) (vp_nar .boolean (1 : Int32))
    some ((1 : Int32), M1))
    else (ck x2 20 <|
    ck (((20 : Int32) * x1) + x2) 40 <|
    let M2 := mL M 67 ((((20 : Int32) * x1) + x2).toNatClampNeg) (M.2 66 x2.toNatClampNeg)
    b_X8_image_52 x1 n (x2 + (1 : Int32)) M2)
set_option maxHeartbeats 4000000 in
set_option maxRecDepth 100000 in
theorem w_X8_image_52 {X : Cx} {r : Int32} {M1 : Mem}   {x1 : Int32}   (hr : X.meth.sig.returnType = (some .int)) : ∀ (n : Nat) {x2 : Int32} {M : Mem}, b_X8_image_52 x1 n x2 M = some (r, M1) → G X (some (.int r), M1) RX8 cX8_image 3 1 25 52 [some (.ref (X.1.1 63)), some (.int x1), some (.int x2)] [] M := by
  intro n
  induction n with
  | zero => intro x2 M hf; cases hf
  | succ n ih =>
    intro x2 M hf
    rw [b_X8_image_52.eq_2] at hf
    refine g_iload_n dX8_image_52 rfl ?_
    refine g_bipush (v := 20) dX8_image_53 (by decide) ?_
    refine g_icmp_ge (tgt := 81) dX8_image_55 (by decide) (fun hc => ?_) (fun hc => ?_)
    · have hf := ite_t hc hf
      refine g_aload_n dX8_image_81 rfl ?_
      refine g_get (kk := 63) (by decide) (cel_63 _ _ _) rfl inX8 fl_X8_23 (by decide) rfl dX8_image_82 ?_
      refine g_iload_n dX8_image_85 rfl ?_
      refine g_iconst (v := 1) dX8_image_86 (by decide) ?_
      obtain ⟨hi, hf⟩ := ck_s hf
      refine g_zastore (kk := 68) (by decide) (fun f g => cel_68 _ f g) hi rfl dX8_image_87 ?_
      refine g_iconst (v := 1) dX8_image_88 (by decide) ?_
      exact g_iret_w hr hf dX8_image_89
    · have hf := ite_f hc hf
      refine g_aload_n dX8_image_58 rfl ?_
      refine g_get (kk := 63) (by decide) (cel_63 _ _ _) rfl inX8 fl_X8_20 (by decide) rfl dX8_image_59 ?_
      refine g_bipush (v := 20) dX8_image_62 (by decide) ?_
      refine g_iload_n dX8_image_64 rfl ?_
      refine g_imul dX8_image_65 ?_
      refine g_iload_n dX8_image_66 rfl ?_
      refine g_iadd dX8_image_67 ?_
      refine g_aload_n dX8_image_68 rfl ?_
      refine g_get (kk := 63) (by decide) (cel_63 _ _ _) rfl inX8 fl_X8_16 (by decide) rfl dX8_image_69 ?_
      refine g_iload_n dX8_image_72 rfl ?_
      obtain ⟨hi, hf⟩ := ck_s hf
      refine g_laload (kk := 66) (by decide) (fun f g => cel_66 _ f g) hi rfl dX8_image_73 ?_
      obtain ⟨hi, hf⟩ := ck_s hf
      refine g_lastore (kk := 67) (by decide) (fun f g => cel_67 _ f g) hi rfl dX8_image_74 ?_
      refine g_iinc2 (v := (x2 + (1 : Int32))) dX8_image_75 (by decide) lnl_i rfl ?_
      refine g_goto (tgt := 52) dX8_image_78 (by decide) ?_
      exact ih hf
def b_X8_image_50   (x1 : Int32) (M : Mem) : Option (Int32 × Mem) :=
  b_X8_image_52 x1 fu (0 : Int32) M
set_option maxHeartbeats 4000000 in
set_option maxRecDepth 100000 in
theorem w_X8_image_50 {X : Cx} {r : Int32} {M1 : Mem}      {x1 : Int32} {M : Mem} (hr : X.meth.sig.returnType = (some .int)) (hf : b_X8_image_50 x1 M = some (r, M1)) : G X (some (.int r), M1) RX8 cX8_image 3 1 25 50 [some (.ref (X.1.1 63)), some (.int x1), none] [] M := by
  unfold b_X8_image_50 at hf
  refine g_iconst (v := 0) dX8_image_50 (by decide) ?_
  refine g_ist2 dX8_image_51 (by decide) lnl_i ?_
  exact w_X8_image_52 hr fu hf
def b_X8_image_19   (x1 : Int32) : Nat → Int32 → Mem → Option (Int32 × Mem)
  | 0, _, _ => none
  | n + 1, x2, M =>
    if (188 : Int32) ≤ x2 then (b_X8_image_50 x1 M)
    else (ck x2 188 <|
    ck (((188 : Int32) * x1) + x2) 376 <|
    let M3 := mI M 65 ((((188 : Int32) * x1) + x2).toNatClampNeg) (M.1 64 x2.toNatClampNeg)
    b_X8_image_19 x1 n (x2 + (1 : Int32)) M3)
set_option maxHeartbeats 4000000 in
set_option maxRecDepth 100000 in
theorem w_X8_image_19 {X : Cx} {r : Int32} {M1 : Mem}   {x1 : Int32}   (hr : X.meth.sig.returnType = (some .int)) : ∀ (n : Nat) {x2 : Int32} {M : Mem}, b_X8_image_19 x1 n x2 M = some (r, M1) → G X (some (.int r), M1) RX8 cX8_image 3 1 25 19 [some (.ref (X.1.1 63)), some (.int x1), some (.int x2)] [] M := by
  intro n
  induction n with
  | zero => intro x2 M hf; cases hf
  | succ n ih =>
    intro x2 M hf
    rw [b_X8_image_19.eq_2] at hf
    refine g_iload_n dX8_image_19 rfl ?_
    refine g_sipush (v := 188) dX8_image_20 (by decide) ?_
    refine g_icmp_ge (tgt := 50) dX8_image_23 (by decide) (fun hc => ?_) (fun hc => ?_)
    · have hf := ite_t hc hf
      exact g_weakr (w_X8_image_50 hr hf) (lsk (lsk (lsd lsz)))
    · have hf := ite_f hc hf
      refine g_aload_n dX8_image_26 rfl ?_
      refine g_get (kk := 63) (by decide) (cel_63 _ _ _) rfl inX8 fl_X8_13 (by decide) rfl dX8_image_27 ?_
      refine g_sipush (v := 188) dX8_image_30 (by decide) ?_
      refine g_iload_n dX8_image_33 rfl ?_
      refine g_imul dX8_image_34 ?_
      refine g_iload_n dX8_image_35 rfl ?_
      refine g_iadd dX8_image_36 ?_
      refine g_aload_n dX8_image_37 rfl ?_
      refine g_get (kk := 63) (by decide) (cel_63 _ _ _) rfl inX8 fl_X8_7 (by decide) rfl dX8_image_38 ?_
      refine g_iload_n dX8_image_41 rfl ?_
      obtain ⟨hi, hf⟩ := ck_s hf
      refine g_iaload (kk := 64) (by decide) (fun f g => cel_64 _ f g) hi rfl dX8_image_42 ?_
      obtain ⟨hi, hf⟩ := ck_s hf
      refine g_iastore (kk := 65) (by decide) (fun f g => cel_65 _ f g) hi rfl dX8_image_43 ?_
      refine g_iinc2 (v := (x2 + (1 : Int32))) dX8_image_44 (by decide) lnl_i rfl ?_
      refine g_goto (tgt := 19) dX8_image_47 (by decide) ?_
      exact ih hf
def f_X8_image (x1 : Int32) (M : Mem) : Option (Int32 × Mem) :=
  if (f_X8_in x1.toInt64 (0 : Int64) (1 : Int64)) = 0 then ((f_X8_bad (-2 : Int32) M).bind fun r4 =>
  some (r4.1, r4.2))
  else (b_X8_image_19 x1 fu (0 : Int32) M)
set_option maxHeartbeats 4000000 in
set_option maxRecDepth 100000 in
theorem c_X8_image {l : Launch} {x1 : Int32} {M : Mem} {r : Int32} {M1 : Mem} (hf : f_X8_image x1 M = some (r, M1)) : Cn l yX8_image cX8_image 3 (some .int) 1 25 (fun E => [.ref (E.1 63), .int x1]) M (some (.int r), M1) := by
  unfold f_X8_image at hf
  refine cn_of RX8 (fun E => [some (.ref (E.1 63)), some (.int x1), none]) (by decide +kernel) rfl (fun E => Nat.le_of_ble_eq_true rfl) (fun E => rfl) (fun X hr => ?_)
  refine g_iload_n dX8_image_0 rfl ?_
  refine g_i2l dX8_image_1 ?_
  refine g_lconst (v := 0) dX8_image_2 (by decide) ?_
  refine g_lconst (v := 1) dX8_image_3 (by decide) ?_
  refine g_cS_JJJ_I (c_X8_in rfl) cs_X8_106 ⟨by decide, by decide⟩ (Nat.le_of_ble_eq_true rfl) dX8_image_4 ?_
  refine g_if_ne (tgt := 17) dX8_image_7 (by decide) (fun hc => ?_) (fun hc => ?_)
  · have hf := ite_f hc hf
    refine g_iconst (v := 0) dX8_image_17 (by decide) ?_
    refine g_ist2 dX8_image_18 (by decide) lnl_i ?_
    exact w_X8_image_19 hr fu hf
  · have hf := ite_t hc hf
    refine g_aload_n dX8_image_10 rfl ?_
    refine g_bipush (v := (-2)) dX8_image_11 (by decide) ?_
    obtain ⟨r4, hq, hf⟩ := bnd hf
    refine g_cV_I_I (c_X8_bad (r := r4.1) (M1 := r4.2) hq) cv_X8_116 (by decide) (cel_63 _ _ _) rfl ⟨by decide, by decide⟩ (Nat.le_of_ble_eq_true rfl) dX8_image_13 ?_
    exact g_iret_w hr hf dX8_image_16
-- X8_from
def b_X8_from_66   (x1 : Int32) : Nat → Int32 → Mem → Option (Int32 × Mem)
  | 0, _, _ => none
  | n + 1, x2, M =>
    if (20 : Int32) ≤ x2 then (some ((1 : Int32), M))
    else (ck (((20 : Int32) * x1) + x2) 40 <|
    ck x2 20 <|
    let M1 := mL M 66 (x2.toNatClampNeg) (M.2 67 (((20 : Int32) * x1) + x2).toNatClampNeg)
    b_X8_from_66 x1 n (x2 + (1 : Int32)) M1)
set_option maxHeartbeats 4000000 in
set_option maxRecDepth 100000 in
theorem w_X8_from_66 {X : Cx} {r : Int32} {M1 : Mem}   {x1 : Int32}   (hr : X.meth.sig.returnType = (some .int)) : ∀ (n : Nat) {x2 : Int32} {M : Mem}, b_X8_from_66 x1 n x2 M = some (r, M1) → G X (some (.int r), M1) RX8 cX8_from 3 1 25 66 [some (.ref (X.1.1 63)), some (.int x1), some (.int x2)] [] M := by
  intro n
  induction n with
  | zero => intro x2 M hf; cases hf
  | succ n ih =>
    intro x2 M hf
    rw [b_X8_from_66.eq_2] at hf
    refine g_iload_n dX8_from_66 rfl ?_
    refine g_bipush (v := 20) dX8_from_67 (by decide) ?_
    refine g_icmp_ge (tgt := 95) dX8_from_69 (by decide) (fun hc => ?_) (fun hc => ?_)
    · have hf := ite_t hc hf
      refine g_iconst (v := 1) dX8_from_95 (by decide) ?_
      exact g_iret_w hr hf dX8_from_96
    · have hf := ite_f hc hf
      refine g_aload_n dX8_from_72 rfl ?_
      refine g_get (kk := 63) (by decide) (cel_63 _ _ _) rfl inX8 fl_X8_16 (by decide) rfl dX8_from_73 ?_
      refine g_iload_n dX8_from_76 rfl ?_
      refine g_aload_n dX8_from_77 rfl ?_
      refine g_get (kk := 63) (by decide) (cel_63 _ _ _) rfl inX8 fl_X8_20 (by decide) rfl dX8_from_78 ?_
      refine g_bipush (v := 20) dX8_from_81 (by decide) ?_
      refine g_iload_n dX8_from_83 rfl ?_
      refine g_imul dX8_from_84 ?_
      refine g_iload_n dX8_from_85 rfl ?_
      refine g_iadd dX8_from_86 ?_
      obtain ⟨hi, hf⟩ := ck_s hf
      refine g_laload (kk := 67) (by decide) (fun f g => cel_67 _ f g) hi rfl dX8_from_87 ?_
      obtain ⟨hi, hf⟩ := ck_s hf
      refine g_lastore (kk := 66) (by decide) (fun f g => cel_66 _ f g) hi rfl dX8_from_88 ?_
      refine g_iinc2 (v := (x2 + (1 : Int32))) dX8_from_89 (by decide) lnl_i rfl ?_
      refine g_goto (tgt := 66) dX8_from_92 (by decide) ?_
      exact ih hf
def b_X8_from_64   (x1 : Int32) (M : Mem) : Option (Int32 × Mem) :=
  b_X8_from_66 x1 fu (0 : Int32) M
set_option maxHeartbeats 4000000 in
set_option maxRecDepth 100000 in
theorem w_X8_from_64 {X : Cx} {r : Int32} {M1 : Mem}      {x1 : Int32} {M : Mem} (hr : X.meth.sig.returnType = (some .int)) (hf : b_X8_from_64 x1 M = some (r, M1)) : G X (some (.int r), M1) RX8 cX8_from 3 1 25 64 [some (.ref (X.1.1 63)), some (.int x1), none] [] M := by
  unfold b_X8_from_64 at hf
  refine g_iconst (v := 0) dX8_from_64 (by decide) ?_
  refine g_ist2 dX8_from_65 (by decide) lnl_i ?_
  exact w_X8_from_66 hr fu hf
def b_X8_from_33   (x1 : Int32) : Nat → Int32 → Mem → Option (Int32 × Mem)
  | 0, _, _ => none
  | n + 1, x2, M =>
    if (188 : Int32) ≤ x2 then (b_X8_from_64 x1 M)
    else (ck (((188 : Int32) * x1) + x2) 376 <|
    ck x2 188 <|
    let M2 := mI M 64 (x2.toNatClampNeg) (M.1 65 (((188 : Int32) * x1) + x2).toNatClampNeg)
    b_X8_from_33 x1 n (x2 + (1 : Int32)) M2)
set_option maxHeartbeats 4000000 in
set_option maxRecDepth 100000 in
theorem w_X8_from_33 {X : Cx} {r : Int32} {M1 : Mem}   {x1 : Int32}   (hr : X.meth.sig.returnType = (some .int)) : ∀ (n : Nat) {x2 : Int32} {M : Mem}, b_X8_from_33 x1 n x2 M = some (r, M1) → G X (some (.int r), M1) RX8 cX8_from 3 1 25 33 [some (.ref (X.1.1 63)), some (.int x1), some (.int x2)] [] M := by
  intro n
  induction n with
  | zero => intro x2 M hf; cases hf
  | succ n ih =>
    intro x2 M hf
    rw [b_X8_from_33.eq_2] at hf
    refine g_iload_n dX8_from_33 rfl ?_
    refine g_sipush (v := 188) dX8_from_34 (by decide) ?_
    refine g_icmp_ge (tgt := 64) dX8_from_37 (by decide) (fun hc => ?_) (fun hc => ?_)
    · have hf := ite_t hc hf
      exact g_weakr (w_X8_from_64 hr hf) (lsk (lsk (lsd lsz)))
    · have hf := ite_f hc hf
      refine g_aload_n dX8_from_40 rfl ?_
      refine g_get (kk := 63) (by decide) (cel_63 _ _ _) rfl inX8 fl_X8_7 (by decide) rfl dX8_from_41 ?_
      refine g_iload_n dX8_from_44 rfl ?_
      refine g_aload_n dX8_from_45 rfl ?_
      refine g_get (kk := 63) (by decide) (cel_63 _ _ _) rfl inX8 fl_X8_13 (by decide) rfl dX8_from_46 ?_
      refine g_sipush (v := 188) dX8_from_49 (by decide) ?_
      refine g_iload_n dX8_from_52 rfl ?_
      refine g_imul dX8_from_53 ?_
      refine g_iload_n dX8_from_54 rfl ?_
      refine g_iadd dX8_from_55 ?_
      obtain ⟨hi, hf⟩ := ck_s hf
      refine g_iaload (kk := 65) (by decide) (fun f g => cel_65 _ f g) hi rfl dX8_from_56 ?_
      obtain ⟨hi, hf⟩ := ck_s hf
      refine g_iastore (kk := 64) (by decide) (fun f g => cel_64 _ f g) hi rfl dX8_from_57 ?_
      refine g_iinc2 (v := (x2 + (1 : Int32))) dX8_from_58 (by decide) lnl_i rfl ?_
      refine g_goto (tgt := 33) dX8_from_61 (by decide) ?_
      exact ih hf
def f_X8_from (x1 : Int32) (M : Mem) : Option (Int32 × Mem) :=
  if (f_X8_in x1.toInt64 (0 : Int64) (1 : Int64)) = 0 then ((f_X8_bad (-2 : Int32) M).bind fun r4 =>
  some (r4.1, r4.2))
  else (ck x1 2 <|
  if (M.1 68 x1.toNatClampNeg) = 0 then ((f_X8_no M).bind fun r3 =>
  some (r3.1, r3.2))
  else (b_X8_from_33 x1 fu (0 : Int32) M))
set_option maxHeartbeats 4000000 in
set_option maxRecDepth 100000 in
theorem c_X8_from {l : Launch} {x1 : Int32} {M : Mem} {r : Int32} {M1 : Mem} (hf : f_X8_from x1 M = some (r, M1)) : Cn l yX8_from cX8_from 3 (some .int) 1 25 (fun E => [.ref (E.1 63), .int x1]) M (some (.int r), M1) := by
  unfold f_X8_from at hf
  refine cn_of RX8 (fun E => [some (.ref (E.1 63)), some (.int x1), none]) (by decide +kernel) rfl (fun E => Nat.le_of_ble_eq_true rfl) (fun E => rfl) (fun X hr => ?_)
  refine g_iload_n dX8_from_0 rfl ?_
  refine g_i2l dX8_from_1 ?_
  refine g_lconst (v := 0) dX8_from_2 (by decide) ?_
  refine g_lconst (v := 1) dX8_from_3 (by decide) ?_
  refine g_cS_JJJ_I (c_X8_in rfl) cs_X8_106 ⟨by decide, by decide⟩ (Nat.le_of_ble_eq_true rfl) dX8_from_4 ?_
  refine g_if_ne (tgt := 17) dX8_from_7 (by decide) (fun hc => ?_) (fun hc => ?_)
  · have hf := ite_f hc hf
    refine g_aload_n dX8_from_17 rfl ?_
    refine g_get (kk := 63) (by decide) (cel_63 _ _ _) rfl inX8 fl_X8_23 (by decide) rfl dX8_from_18 ?_
    refine g_iload_n dX8_from_21 rfl ?_
    obtain ⟨hi, hf⟩ := ck_s hf
    refine g_zaload (kk := 68) (by decide) (fun f g => cel_68 _ f g) hi rfl dX8_from_22 ?_
    refine g_if_ne (tgt := 31) dX8_from_23 (by decide) (fun hc => ?_) (fun hc => ?_)
    · have hf := ite_f hc hf
      refine g_iconst (v := 0) dX8_from_31 (by decide) ?_
      refine g_ist2 dX8_from_32 (by decide) lnl_i ?_
      exact w_X8_from_33 hr fu hf
    · have hf := ite_t hc hf
      refine g_aload_n dX8_from_26 rfl ?_
      obtain ⟨r3, hq, hf⟩ := bnd hf
      refine g_cV_0_I (c_X8_no (r := r3.1) (M1 := r3.2) hq) cv_X8_145 (by decide) (cel_63 _ _ _) rfl ⟨by decide, by decide⟩ (Nat.le_of_ble_eq_true rfl) dX8_from_27 ?_
      exact g_iret_w hr hf dX8_from_30
  · have hf := ite_t hc hf
    refine g_aload_n dX8_from_10 rfl ?_
    refine g_bipush (v := (-2)) dX8_from_11 (by decide) ?_
    obtain ⟨r4, hq, hf⟩ := bnd hf
    refine g_cV_I_I (c_X8_bad (r := r4.1) (M1 := r4.2) hq) cv_X8_116 (by decide) (cel_63 _ _ _) rfl ⟨by decide, by decide⟩ (Nat.le_of_ble_eq_true rfl) dX8_from_13 ?_
    exact g_iret_w hr hf dX8_from_16
-- X8_status
def f_X8_status (x1 : Int32) (M : Mem) : Option (Int32 × Mem) :=
  if (f_X8_in x1.toInt64 (0 : Int64) (2 : Int64)) = 0 then ((f_X8_bad (-1 : Int32) M).bind fun r1 =>
  some (r1.1, r1.2))
  else (ck x1 3 <|
  some ((M.1 69 x1.toNatClampNeg), M))
set_option maxHeartbeats 4000000 in
set_option maxRecDepth 100000 in
theorem c_X8_status {l : Launch} {x1 : Int32} {M : Mem} {r : Int32} {M1 : Mem} (hf : f_X8_status x1 M = some (r, M1)) : Cn l yX8_status cX8_status 2 (some .int) 1 25 (fun E => [.ref (E.1 63), .int x1]) M (some (.int r), M1) := by
  unfold f_X8_status at hf
  refine cn_of RX8 (fun E => [some (.ref (E.1 63)), some (.int x1)]) (by decide +kernel) rfl (fun E => Nat.le_of_ble_eq_true rfl) (fun E => rfl) (fun X hr => ?_)
  refine g_iload_n dX8_status_0 rfl ?_
  refine g_i2l dX8_status_1 ?_
  refine g_lconst (v := 0) dX8_status_2 (by decide) ?_
  refine g_ldc2 cl_X8_309 dX8_status_3 ?_
  refine g_cS_JJJ_I (c_X8_in rfl) cs_X8_106 ⟨by decide, by decide⟩ (Nat.le_of_ble_eq_true rfl) dX8_status_6 ?_
  refine g_if_eq (tgt := 21) dX8_status_9 (by decide) (fun hc => ?_) (fun hc => ?_)
  · have hf := ite_t hc hf
    refine g_aload_n dX8_status_21 rfl ?_
    refine g_iconst (v := (-1)) dX8_status_22 (by decide) ?_
    obtain ⟨r1, hq, hf⟩ := bnd hf
    refine g_cV_I_I (c_X8_bad (r := r1.1) (M1 := r1.2) hq) cv_X8_116 (by decide) (cel_63 _ _ _) rfl ⟨by decide, by decide⟩ (Nat.le_of_ble_eq_true rfl) dX8_status_23 ?_
    exact g_iret_w hr hf dX8_status_26
  · have hf := ite_f hc hf
    refine g_aload_n dX8_status_12 rfl ?_
    refine g_get (kk := 63) (by decide) (cel_63 _ _ _) rfl inX8 fl_X8_27 (by decide) rfl dX8_status_13 ?_
    refine g_iload_n dX8_status_16 rfl ?_
    obtain ⟨hi, hf⟩ := ck_s hf
    refine g_iaload (kk := 69) (by decide) (fun f g => cel_69 _ f g) hi rfl dX8_status_17 ?_
    refine g_goto (tgt := 26) dX8_status_18 (by decide) ?_
    exact g_iret_w hr hf dX8_status_26
-- X8_counted
def f_X8_counted (M : Mem) (x1 : Int32) : Option Int32 :=
  if (4 : Int32) ≤ x1 then (some (M.1 63 20))
  else (ck x1 188 <|
  some (M.1 64 x1.toNatClampNeg))
set_option maxHeartbeats 4000000 in
set_option maxRecDepth 100000 in
theorem c_X8_counted {l : Launch} {x1 : Int32} {M : Mem} {r : Int32} (hf : f_X8_counted M x1 = some r) : Cn l yX8_counted cX8_counted 2 (some .int) 0 0 (fun E => [.ref (E.1 63), .int x1]) M (some (.int r), M) := by
  unfold f_X8_counted at hf
  refine cn_of RX8 (fun E => [some (.ref (E.1 63)), some (.int x1)]) (by decide +kernel) rfl (fun E => Nat.le_of_ble_eq_true rfl) (fun E => rfl) (fun X hr => ?_)
  refine g_iload_n dX8_counted_0 rfl ?_
  refine g_iconst (v := 4) dX8_counted_1 (by decide) ?_
  refine g_icmp_ge (tgt := 14) dX8_counted_2 (by decide) (fun hc => ?_) (fun hc => ?_)
  · have hf := ite_t hc hf
    refine g_aload_n dX8_counted_14 rfl ?_
    refine g_get (kk := 63) (by decide) (cel_63 _ _ _) rfl inX8 fl_X8_253 (by decide) rfl dX8_counted_15 ?_
    exact g_iret_p hr hf dX8_counted_18
  · have hf := ite_f hc hf
    refine g_aload_n dX8_counted_5 rfl ?_
    refine g_get (kk := 63) (by decide) (cel_63 _ _ _) rfl inX8 fl_X8_7 (by decide) rfl dX8_counted_6 ?_
    refine g_iload_n dX8_counted_9 rfl ?_
    obtain ⟨hi, hf⟩ := ck_s hf
    refine g_iaload (kk := 64) (by decide) (fun f g => cel_64 _ f g) hi rfl dX8_counted_10 ?_
    refine g_goto (tgt := 18) dX8_counted_11 (by decide) ?_
    exact g_iret_p hr hf dX8_counted_18
-- X8_count
def f_X8_count (x1 : Int32) (M : Mem) : Option (Int32 × Mem) :=
  if (f_X8_in x1.toInt64 (0 : Int64) (4 : Int64)) = 0 then ((f_X8_bad (-2 : Int32) M).bind fun r1 =>
  some (r1.1, r1.2))
  else ((f_X8_counted M x1).bind fun r2 =>
  some (r2, M))
set_option maxHeartbeats 4000000 in
set_option maxRecDepth 100000 in
theorem c_X8_count {l : Launch} {x1 : Int32} {M : Mem} {r : Int32} {M1 : Mem} (hf : f_X8_count x1 M = some (r, M1)) : Cn l yX8_count cX8_count 2 (some .int) 1 25 (fun E => [.ref (E.1 63), .int x1]) M (some (.int r), M1) := by
  unfold f_X8_count at hf
  refine cn_of RX8 (fun E => [some (.ref (E.1 63)), some (.int x1)]) (by decide +kernel) rfl (fun E => Nat.le_of_ble_eq_true rfl) (fun E => rfl) (fun X hr => ?_)
  refine g_iload_n dX8_count_0 rfl ?_
  refine g_i2l dX8_count_1 ?_
  refine g_lconst (v := 0) dX8_count_2 (by decide) ?_
  refine g_ldc2 cl_X8_311 dX8_count_3 ?_
  refine g_cS_JJJ_I (c_X8_in rfl) cs_X8_106 ⟨by decide, by decide⟩ (Nat.le_of_ble_eq_true rfl) dX8_count_6 ?_
  refine g_if_eq (tgt := 20) dX8_count_9 (by decide) (fun hc => ?_) (fun hc => ?_)
  · have hf := ite_t hc hf
    refine g_aload_n dX8_count_20 rfl ?_
    refine g_bipush (v := (-2)) dX8_count_21 (by decide) ?_
    obtain ⟨r1, hq, hf⟩ := bnd hf
    refine g_cV_I_I (c_X8_bad (r := r1.1) (M1 := r1.2) hq) cv_X8_116 (by decide) (cel_63 _ _ _) rfl ⟨by decide, by decide⟩ (Nat.le_of_ble_eq_true rfl) dX8_count_23 ?_
    exact g_iret_w hr hf dX8_count_26
  · have hf := ite_f hc hf
    refine g_aload_n dX8_count_12 rfl ?_
    refine g_iload_n dX8_count_13 rfl ?_
    obtain ⟨r2, hq, hf⟩ := bnd hf
    refine g_cV_I_I (c_X8_counted hq) cv_X8_313 (by decide) (cel_63 _ _ _) rfl ⟨by decide, by decide⟩ (Nat.le_of_ble_eq_true rfl) dX8_count_14 ?_
    refine g_goto (tgt := 26) dX8_count_17 (by decide) ?_
    exact g_iret_w hr hf dX8_count_26
-- X8_nameIn
def b_X8_nameIn_16   (x2 : Int64) : Nat → Int64 → Int32 → Option Int64
  | 0, _, _ => none
  | n + 1, x4, x6 =>
    if (f_X8_many x2) ≤ x6 then (some x4)
    else (b_X8_nameIn_16 x2 n (((31 : Int64) * x4) + (f_X8_syllable x2 x6).toInt64) (x6 + (1 : Int32)))
set_option maxHeartbeats 4000000 in
set_option maxRecDepth 100000 in
theorem w_X8_nameIn_16 {X : Cx} {r : Int64} {M : Mem}  {x2 : Int64}   (hr : X.meth.sig.returnType = (some .long)) : ∀ (n : Nat) {x4 : Int64} {x6 : Int32}, b_X8_nameIn_16 x2 n x4 x6 = some r → G X (some (.long r), M) RX8 cX8_nameIn 7 1 22 16 [none, none, some (.long x2), none, some (.long x4), none, some (.int x6)] [] M := by
  intro n
  induction n with
  | zero => intro x4 x6 hf; cases hf
  | succ n ih =>
    intro x4 x6 hf
    rw [b_X8_nameIn_16.eq_2] at hf
    refine g_iload dX8_nameIn_16 rfl ?_
    refine g_lload_n dX8_nameIn_18 rfl ?_
    refine g_cS_J_I (c_X8_many rfl) cs_X8_71 ⟨by decide, by decide⟩ (Nat.le_of_ble_eq_true rfl) dX8_nameIn_19 ?_
    refine g_icmp_ge (tgt := 47) dX8_nameIn_22 (by decide) (fun hc => ?_) (fun hc => ?_)
    · have hf := ite_t hc hf
      refine g_lload dX8_nameIn_47 rfl ?_
      exact g_lret_p hr hf dX8_nameIn_49
    · have hf := ite_f hc hf
      refine g_ldc2 cl_X8_316 dX8_nameIn_25 ?_
      refine g_lload dX8_nameIn_28 rfl ?_
      refine g_lmul dX8_nameIn_30 ?_
      refine g_lload_n dX8_nameIn_31 rfl ?_
      refine g_iload dX8_nameIn_32 rfl ?_
      refine g_cS_JI_I (c_X8_syllable rfl) cs_X8_82 ⟨by decide, by decide⟩ (Nat.le_of_ble_eq_true rfl) dX8_nameIn_34 ?_
      refine g_i2l dX8_nameIn_37 ?_
      refine g_ladd dX8_nameIn_38 ?_
      refine g_lst4 dX8_nameIn_39 (by decide) lnl_n ?_
      refine g_iinc6 (v := (x6 + (1 : Int32))) dX8_nameIn_41 (by decide) lnl_n rfl ?_
      refine g_goto (tgt := 16) dX8_nameIn_44 (by decide) ?_
      exact ih hf
def f_X8_nameIn (x0 : Int64) (x2 : Int64) : Option Int64 :=
  b_X8_nameIn_16 x2 fu (((31 : Int64) * x0) + (f_X8_many x2).toInt64) (0 : Int32)
set_option maxHeartbeats 4000000 in
set_option maxRecDepth 100000 in
theorem c_X8_nameIn {l : Launch} {x0 : Int64} {x2 : Int64} {M : Mem} {r : Int64} (hf : f_X8_nameIn x0 x2 = some r) : Cn l yX8_nameIn cX8_nameIn 7 (some .long) 1 22 (fun E => [.long x0, .long x2]) M (some (.long r), M) := by
  unfold f_X8_nameIn at hf
  refine cn_of RX8 (fun E => [some (.long x0), none, some (.long x2), none, none, none, none]) (by decide +kernel) rfl (fun E => Nat.le_of_ble_eq_true rfl) (fun E => rfl) (fun X hr => ?_)
  refine g_ldc2 cl_X8_316 dX8_nameIn_0 ?_
  refine g_lload_n dX8_nameIn_3 rfl ?_
  refine g_lmul dX8_nameIn_4 ?_
  refine g_lload_n dX8_nameIn_5 rfl ?_
  refine g_cS_J_I (c_X8_many rfl) cs_X8_71 ⟨by decide, by decide⟩ (Nat.le_of_ble_eq_true rfl) dX8_nameIn_6 ?_
  refine g_i2l dX8_nameIn_9 ?_
  refine g_ladd dX8_nameIn_10 ?_
  refine g_lst4 dX8_nameIn_11 (by decide) lnl_n ?_
  refine g_iconst (v := 0) dX8_nameIn_13 (by decide) ?_
  refine g_ist6 dX8_nameIn_14 (by decide) lnl_n ?_
  exact g_weakr (w_X8_nameIn_16 hr fu hf) (lsd (lsd (lsk (lsd (lsk (lsd (lsk lsz)))))))
-- X8_digest
def b_X8_digest_174  (M : Mem) (x1 : Int64) : Option Int64 :=
  some (((31 : Int64) * (((31 : Int64) * x1) + (M.2 63 6))) + (M.2 63 7))
set_option maxHeartbeats 4000000 in
set_option maxRecDepth 100000 in
theorem w_X8_digest_174 {X : Cx} {r : Int64} {M : Mem}     {x1 : Int64} (hr : X.meth.sig.returnType = (some .long)) (hf : b_X8_digest_174 M x1 = some r) : G X (some (.long r), M) RX8 cX8_digest 4 2 48 174 [some (.ref (X.1.1 63)), some (.long x1), none, none] [] M := by
  unfold b_X8_digest_174 at hf
  refine g_ldc2 cl_X8_316 dX8_digest_174 ?_
  refine g_ldc2 cl_X8_316 dX8_digest_177 ?_
  refine g_lload_n dX8_digest_180 rfl ?_
  refine g_lmul dX8_digest_181 ?_
  refine g_aload_n dX8_digest_182 rfl ?_
  refine g_get (kk := 63) (by decide) (cel_63 _ _ _) rfl inX8 fl_X8_215 (by decide) rfl dX8_digest_183 ?_
  refine g_ladd dX8_digest_186 ?_
  refine g_lmul dX8_digest_187 ?_
  refine g_aload_n dX8_digest_188 rfl ?_
  refine g_get (kk := 63) (by decide) (cel_63 _ _ _) rfl inX8 fl_X8_30 (by decide) rfl dX8_digest_189 ?_
  refine g_ladd dX8_digest_192 ?_
  exact g_lret_p hr hf dX8_digest_193
def b_X8_digest_90  (M : Mem)  : Nat → Int64 → Int32 → Option Int64
  | 0, _, _ => none
  | n + 1, x1, x3 =>
    if (M.1 64 2) ≤ x3 then (b_X8_digest_174 M x1)
    else (ck ((36 : Int32) + ((2 : Int32) * x3)) 188 <|
    ck (((36 : Int32) + ((2 : Int32) * x3)) + (1 : Int32)) 188 <|
    ck ((4 : Int32) + ((2 : Int32) * x3)) 20 <|
    (f_X8_nameIn (((31 : Int64) * (((31 : Int64) * x1) + (M.1 64 ((36 : Int32) + ((2 : Int32) * x3)).toNatClampNeg).toInt64)) + (M.1 64 (((36 : Int32) + ((2 : Int32) * x3)) + (1 : Int32)).toNatClampNeg).toInt64) (M.2 66 ((4 : Int32) + ((2 : Int32) * x3)).toNatClampNeg)).bind fun r1 =>
    ck (((4 : Int32) + ((2 : Int32) * x3)) + (1 : Int32)) 20 <|
    (f_X8_nameIn r1 (M.2 66 (((4 : Int32) + ((2 : Int32) * x3)) + (1 : Int32)).toNatClampNeg)).bind fun r2 =>
    b_X8_digest_90 M n r2 (x3 + (1 : Int32)))
set_option maxHeartbeats 4000000 in
set_option maxRecDepth 100000 in
theorem w_X8_digest_90 {X : Cx} {r : Int64} {M : Mem}     (hr : X.meth.sig.returnType = (some .long)) : ∀ (n : Nat) {x1 : Int64} {x3 : Int32}, b_X8_digest_90 M n x1 x3 = some r → G X (some (.long r), M) RX8 cX8_digest 4 2 48 90 [some (.ref (X.1.1 63)), some (.long x1), none, some (.int x3)] [] M := by
  intro n
  induction n with
  | zero => intro x1 x3 hf; cases hf
  | succ n ih =>
    intro x1 x3 hf
    rw [b_X8_digest_90.eq_2] at hf
    refine g_iload_n dX8_digest_90 rfl ?_
    refine g_aload_n dX8_digest_91 rfl ?_
    refine g_get (kk := 63) (by decide) (cel_63 _ _ _) rfl inX8 fl_X8_7 (by decide) rfl dX8_digest_92 ?_
    refine g_iconst (v := 2) dX8_digest_95 (by decide) ?_
    refine g_iaload (kk := 64) (by decide) (fun f g => cel_64 _ f g) (vp_in_iff.mpr ⟨by decide, by decide⟩) (j := 2) (by decide) dX8_digest_96 ?_
    refine g_icmp_ge (tgt := 174) dX8_digest_97 (by decide) (fun hc => ?_) (fun hc => ?_)
    · have hf := ite_t hc hf
      exact g_weakr (w_X8_digest_174 hr hf) (lsk (lsk (lsd (lsd lsz))))
    · have hf := ite_f hc hf
      refine g_ldc2 cl_X8_316 dX8_digest_100 ?_
      refine g_ldc2 cl_X8_316 dX8_digest_103 ?_
      refine g_lload_n dX8_digest_106 rfl ?_
      refine g_lmul dX8_digest_107 ?_
      refine g_aload_n dX8_digest_108 rfl ?_
      refine g_get (kk := 63) (by decide) (cel_63 _ _ _) rfl inX8 fl_X8_7 (by decide) rfl dX8_digest_109 ?_
      refine g_bipush (v := 36) dX8_digest_112 (by decide) ?_
      refine g_iconst (v := 2) dX8_digest_114 (by decide) ?_
      refine g_iload_n dX8_digest_115 rfl ?_
      refine g_imul dX8_digest_116 ?_
      refine g_iadd dX8_digest_117 ?_
      obtain ⟨hi, hf⟩ := ck_s hf
      refine g_iaload (kk := 64) (by decide) (fun f g => cel_64 _ f g) hi rfl dX8_digest_118 ?_
      refine g_i2l dX8_digest_119 ?_
      refine g_ladd dX8_digest_120 ?_
      refine g_lmul dX8_digest_121 ?_
      refine g_aload_n dX8_digest_122 rfl ?_
      refine g_get (kk := 63) (by decide) (cel_63 _ _ _) rfl inX8 fl_X8_7 (by decide) rfl dX8_digest_123 ?_
      refine g_bipush (v := 36) dX8_digest_126 (by decide) ?_
      refine g_iconst (v := 2) dX8_digest_128 (by decide) ?_
      refine g_iload_n dX8_digest_129 rfl ?_
      refine g_imul dX8_digest_130 ?_
      refine g_iadd dX8_digest_131 ?_
      refine g_iconst (v := 1) dX8_digest_132 (by decide) ?_
      refine g_iadd dX8_digest_133 ?_
      obtain ⟨hi, hf⟩ := ck_s hf
      refine g_iaload (kk := 64) (by decide) (fun f g => cel_64 _ f g) hi rfl dX8_digest_134 ?_
      refine g_i2l dX8_digest_135 ?_
      refine g_ladd dX8_digest_136 ?_
      refine g_lst1 dX8_digest_137 (by decide) lnl_r ?_
      refine g_lload_n dX8_digest_138 rfl ?_
      refine g_aload_n dX8_digest_139 rfl ?_
      refine g_get (kk := 63) (by decide) (cel_63 _ _ _) rfl inX8 fl_X8_16 (by decide) rfl dX8_digest_140 ?_
      refine g_iconst (v := 4) dX8_digest_143 (by decide) ?_
      refine g_iconst (v := 2) dX8_digest_144 (by decide) ?_
      refine g_iload_n dX8_digest_145 rfl ?_
      refine g_imul dX8_digest_146 ?_
      refine g_iadd dX8_digest_147 ?_
      obtain ⟨hi, hf⟩ := ck_s hf
      refine g_laload (kk := 66) (by decide) (fun f g => cel_66 _ f g) hi rfl dX8_digest_148 ?_
      obtain ⟨r1, hq, hf⟩ := bnd hf
      refine g_cS_JJ_J (c_X8_nameIn hq) cs_X8_320 ⟨by decide, by decide⟩ (Nat.le_of_ble_eq_true rfl) dX8_digest_149 ?_
      refine g_aload_n dX8_digest_152 rfl ?_
      refine g_get (kk := 63) (by decide) (cel_63 _ _ _) rfl inX8 fl_X8_16 (by decide) rfl dX8_digest_153 ?_
      refine g_iconst (v := 4) dX8_digest_156 (by decide) ?_
      refine g_iconst (v := 2) dX8_digest_157 (by decide) ?_
      refine g_iload_n dX8_digest_158 rfl ?_
      refine g_imul dX8_digest_159 ?_
      refine g_iadd dX8_digest_160 ?_
      refine g_iconst (v := 1) dX8_digest_161 (by decide) ?_
      refine g_iadd dX8_digest_162 ?_
      obtain ⟨hi, hf⟩ := ck_s hf
      refine g_laload (kk := 66) (by decide) (fun f g => cel_66 _ f g) hi rfl dX8_digest_163 ?_
      obtain ⟨r2, hq, hf⟩ := bnd hf
      refine g_cS_JJ_J (c_X8_nameIn hq) cs_X8_320 ⟨by decide, by decide⟩ (Nat.le_of_ble_eq_true rfl) dX8_digest_164 ?_
      refine g_lst1 dX8_digest_167 (by decide) lnl_r ?_
      refine g_iinc3 (v := (x3 + (1 : Int32))) dX8_digest_168 (by decide) lnl_n rfl ?_
      refine g_goto (tgt := 90) dX8_digest_171 (by decide) ?_
      exact ih hf
def b_X8_digest_88  (M : Mem) (x1 : Int64) : Option Int64 :=
  b_X8_digest_90 M fu x1 (0 : Int32)
set_option maxHeartbeats 4000000 in
set_option maxRecDepth 100000 in
theorem w_X8_digest_88 {X : Cx} {r : Int64} {M : Mem}     {x1 : Int64} (hr : X.meth.sig.returnType = (some .long)) (hf : b_X8_digest_88 M x1 = some r) : G X (some (.long r), M) RX8 cX8_digest 4 2 48 88 [some (.ref (X.1.1 63)), some (.long x1), none, none] [] M := by
  unfold b_X8_digest_88 at hf
  refine g_iconst (v := 0) dX8_digest_88 (by decide) ?_
  refine g_ist3 dX8_digest_89 (by decide) lnl_n ?_
  exact w_X8_digest_90 hr fu hf
def b_X8_digest_66  (M : Mem)  : Nat → Int64 → Int32 → Option Int64
  | 0, _, _ => none
  | n + 1, x1, x3 =>
    if (4 : Int32) ≤ x3 then (b_X8_digest_88 M x1)
    else (ck x3 20 <|
    (f_X8_nameIn x1 (M.2 66 x3.toNatClampNeg)).bind fun r3 =>
    b_X8_digest_66 M n r3 (x3 + (1 : Int32)))
set_option maxHeartbeats 4000000 in
set_option maxRecDepth 100000 in
theorem w_X8_digest_66 {X : Cx} {r : Int64} {M : Mem}     (hr : X.meth.sig.returnType = (some .long)) : ∀ (n : Nat) {x1 : Int64} {x3 : Int32}, b_X8_digest_66 M n x1 x3 = some r → G X (some (.long r), M) RX8 cX8_digest 4 2 48 66 [some (.ref (X.1.1 63)), some (.long x1), none, some (.int x3)] [] M := by
  intro n
  induction n with
  | zero => intro x1 x3 hf; cases hf
  | succ n ih =>
    intro x1 x3 hf
    rw [b_X8_digest_66.eq_2] at hf
    refine g_iload_n dX8_digest_66 rfl ?_
    refine g_iconst (v := 4) dX8_digest_67 (by decide) ?_
    refine g_icmp_ge (tgt := 88) dX8_digest_68 (by decide) (fun hc => ?_) (fun hc => ?_)
    · have hf := ite_t hc hf
      exact g_weakr (w_X8_digest_88 hr hf) (lsk (lsk (lsd (lsd lsz))))
    · have hf := ite_f hc hf
      refine g_lload_n dX8_digest_71 rfl ?_
      refine g_aload_n dX8_digest_72 rfl ?_
      refine g_get (kk := 63) (by decide) (cel_63 _ _ _) rfl inX8 fl_X8_16 (by decide) rfl dX8_digest_73 ?_
      refine g_iload_n dX8_digest_76 rfl ?_
      obtain ⟨hi, hf⟩ := ck_s hf
      refine g_laload (kk := 66) (by decide) (fun f g => cel_66 _ f g) hi rfl dX8_digest_77 ?_
      obtain ⟨r3, hq, hf⟩ := bnd hf
      refine g_cS_JJ_J (c_X8_nameIn hq) cs_X8_320 ⟨by decide, by decide⟩ (Nat.le_of_ble_eq_true rfl) dX8_digest_78 ?_
      refine g_lst1 dX8_digest_81 (by decide) lnl_r ?_
      refine g_iinc3 (v := (x3 + (1 : Int32))) dX8_digest_82 (by decide) lnl_n rfl ?_
      refine g_goto (tgt := 66) dX8_digest_85 (by decide) ?_
      exact ih hf
def b_X8_digest_64  (M : Mem) (x1 : Int64) : Option Int64 :=
  b_X8_digest_66 M fu x1 (0 : Int32)
set_option maxHeartbeats 4000000 in
set_option maxRecDepth 100000 in
theorem w_X8_digest_64 {X : Cx} {r : Int64} {M : Mem}     {x1 : Int64} (hr : X.meth.sig.returnType = (some .long)) (hf : b_X8_digest_64 M x1 = some r) : G X (some (.long r), M) RX8 cX8_digest 4 2 48 64 [some (.ref (X.1.1 63)), some (.long x1), none, none] [] M := by
  unfold b_X8_digest_64 at hf
  refine g_iconst (v := 0) dX8_digest_64 (by decide) ?_
  refine g_ist3 dX8_digest_65 (by decide) lnl_n ?_
  exact w_X8_digest_66 hr fu hf
def b_X8_digest_32  (M : Mem)  : Nat → Int64 → Int32 → Option Int64
  | 0, _, _ => none
  | n + 1, x1, x3 =>
    if ((4 : Int32) * (f_X8_bridges M)) ≤ x3 then (b_X8_digest_64 M x1)
    else (ck ((4 : Int32) + x3) 188 <|
    b_X8_digest_32 M n (((31 : Int64) * x1) + (M.1 64 ((4 : Int32) + x3).toNatClampNeg).toInt64) (x3 + (1 : Int32)))
set_option maxHeartbeats 4000000 in
set_option maxRecDepth 100000 in
theorem w_X8_digest_32 {X : Cx} {r : Int64} {M : Mem}     (hr : X.meth.sig.returnType = (some .long)) : ∀ (n : Nat) {x1 : Int64} {x3 : Int32}, b_X8_digest_32 M n x1 x3 = some r → G X (some (.long r), M) RX8 cX8_digest 4 2 48 32 [some (.ref (X.1.1 63)), some (.long x1), none, some (.int x3)] [] M := by
  intro n
  induction n with
  | zero => intro x1 x3 hf; cases hf
  | succ n ih =>
    intro x1 x3 hf
    rw [b_X8_digest_32.eq_2] at hf
    refine g_iload_n dX8_digest_32 rfl ?_
    refine g_iconst (v := 4) dX8_digest_33 (by decide) ?_
    refine g_aload_n dX8_digest_34 rfl ?_
    refine g_cV_0_I (c_X8_bridges rfl) cv_X8_102 (by decide) (cel_63 _ _ _) rfl ⟨by decide, by decide⟩ (Nat.le_of_ble_eq_true rfl) dX8_digest_35 ?_
    refine g_imul dX8_digest_38 ?_
    refine g_icmp_ge (tgt := 64) dX8_digest_39 (by decide) (fun hc => ?_) (fun hc => ?_)
    · have hf := ite_t hc hf
      exact g_weakr (w_X8_digest_64 hr hf) (lsk (lsk (lsd (lsd lsz))))
    · have hf := ite_f hc hf
      refine g_ldc2 cl_X8_316 dX8_digest_42 ?_
      refine g_lload_n dX8_digest_45 rfl ?_
      refine g_lmul dX8_digest_46 ?_
      refine g_aload_n dX8_digest_47 rfl ?_
      refine g_get (kk := 63) (by decide) (cel_63 _ _ _) rfl inX8 fl_X8_7 (by decide) rfl dX8_digest_48 ?_
      refine g_iconst (v := 4) dX8_digest_51 (by decide) ?_
      refine g_iload_n dX8_digest_52 rfl ?_
      refine g_iadd dX8_digest_53 ?_
      obtain ⟨hi, hf⟩ := ck_s hf
      refine g_iaload (kk := 64) (by decide) (fun f g => cel_64 _ f g) hi rfl dX8_digest_54 ?_
      refine g_i2l dX8_digest_55 ?_
      refine g_ladd dX8_digest_56 ?_
      refine g_lst1 dX8_digest_57 (by decide) lnl_r ?_
      refine g_iinc3 (v := (x3 + (1 : Int32))) dX8_digest_58 (by decide) lnl_n rfl ?_
      refine g_goto (tgt := 32) dX8_digest_61 (by decide) ?_
      exact ih hf
def b_X8_digest_30  (M : Mem) (x1 : Int64) : Option Int64 :=
  b_X8_digest_32 M fu x1 (0 : Int32)
set_option maxHeartbeats 4000000 in
set_option maxRecDepth 100000 in
theorem w_X8_digest_30 {X : Cx} {r : Int64} {M : Mem}     {x1 : Int64} (hr : X.meth.sig.returnType = (some .long)) (hf : b_X8_digest_30 M x1 = some r) : G X (some (.long r), M) RX8 cX8_digest 4 2 48 30 [some (.ref (X.1.1 63)), some (.long x1), none, none] [] M := by
  unfold b_X8_digest_30 at hf
  refine g_iconst (v := 0) dX8_digest_30 (by decide) ?_
  refine g_ist3 dX8_digest_31 (by decide) lnl_n ?_
  exact w_X8_digest_32 hr fu hf
def b_X8_digest_6  (M : Mem)  : Nat → Int64 → Int32 → Option Int64
  | 0, _, _ => none
  | n + 1, x1, x3 =>
    if (5 : Int32) ≤ x3 then (b_X8_digest_30 M x1)
    else ((f_X8_counted M x3).bind fun r4 =>
    b_X8_digest_6 M n (((31 : Int64) * x1) + r4.toInt64) (x3 + (1 : Int32)))
set_option maxHeartbeats 4000000 in
set_option maxRecDepth 100000 in
theorem w_X8_digest_6 {X : Cx} {r : Int64} {M : Mem}     (hr : X.meth.sig.returnType = (some .long)) : ∀ (n : Nat) {x1 : Int64} {x3 : Int32}, b_X8_digest_6 M n x1 x3 = some r → G X (some (.long r), M) RX8 cX8_digest 4 2 48 6 [some (.ref (X.1.1 63)), some (.long x1), none, some (.int x3)] [] M := by
  intro n
  induction n with
  | zero => intro x1 x3 hf; cases hf
  | succ n ih =>
    intro x1 x3 hf
    rw [b_X8_digest_6.eq_2] at hf
    refine g_iload_n dX8_digest_6 rfl ?_
    refine g_iconst (v := 5) dX8_digest_7 (by decide) ?_
    refine g_icmp_ge (tgt := 30) dX8_digest_8 (by decide) (fun hc => ?_) (fun hc => ?_)
    · have hf := ite_t hc hf
      exact g_weakr (w_X8_digest_30 hr hf) (lsk (lsk (lsd (lsd lsz))))
    · have hf := ite_f hc hf
      refine g_ldc2 cl_X8_316 dX8_digest_11 ?_
      refine g_lload_n dX8_digest_14 rfl ?_
      refine g_lmul dX8_digest_15 ?_
      refine g_aload_n dX8_digest_16 rfl ?_
      refine g_iload_n dX8_digest_17 rfl ?_
      obtain ⟨r4, hq, hf⟩ := bnd hf
      refine g_cV_I_I (c_X8_counted hq) cv_X8_313 (by decide) (cel_63 _ _ _) rfl ⟨by decide, by decide⟩ (Nat.le_of_ble_eq_true rfl) dX8_digest_18 ?_
      refine g_i2l dX8_digest_21 ?_
      refine g_ladd dX8_digest_22 ?_
      refine g_lst1 dX8_digest_23 (by decide) lnl_r ?_
      refine g_iinc3 (v := (x3 + (1 : Int32))) dX8_digest_24 (by decide) lnl_n rfl ?_
      refine g_goto (tgt := 6) dX8_digest_27 (by decide) ?_
      exact ih hf
def f_X8_digest (M : Mem)  : Option Int64 :=
  b_X8_digest_6 M fu (1009 : Int64) (0 : Int32)
set_option maxHeartbeats 4000000 in
set_option maxRecDepth 100000 in
theorem c_X8_digest {l : Launch}  {M : Mem} {r : Int64} (hf : f_X8_digest M = some r) : Cn l yX8_digest cX8_digest 4 (some .long) 2 48 (fun E => [.ref (E.1 63)]) M (some (.long r), M) := by
  unfold f_X8_digest at hf
  refine cn_of RX8 (fun E => [some (.ref (E.1 63)), none, none, none]) (by decide +kernel) rfl (fun E => Nat.le_of_ble_eq_true rfl) (fun E => rfl) (fun X hr => ?_)
  refine g_ldc2 cl_X8_318 dX8_digest_0 ?_
  refine g_lst1 dX8_digest_3 (by decide) lnl_r ?_
  refine g_iconst (v := 0) dX8_digest_4 (by decide) ?_
  refine g_ist3 dX8_digest_5 (by decide) lnl_n ?_
  exact w_X8_digest_6 hr fu hf
