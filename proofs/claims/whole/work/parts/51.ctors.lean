/-! the constructors -/
theorem im_eq {cR : ClassId} {f f2 : Nat → Option Nat} (h0 : f2 0 = f 0) (h1 : f2 1 = f 1) : vp_cell cR (2, .inr (.inr (.inr (.inr f2)))) = vp_cell cR (2, .inr (.inr (.inr (.inr f)))) := by
  show arrV cR 2 (fun j => va_rf (f2 j)) = arrV cR 2 (fun j => va_rf (f j))
  unfold arrV
  congr 1
  apply Array.ext
  · simp
  · intro i h3 h4
    simp at h3 h4 ⊢
    rcases (show i = 0 ∨ i = 1 by omega) with rfl | rfl
    · rw [h0]
    · rw [h1]
def frW (a : Nat → Nat) : va_W := [(a 0, .inr (0, [.long 0, .long 1]))]
theorem ol_X0 : Cond.methodLink RX0 1 objectInit ∈ TB := tb_at 217 (by decide +kernel) (by decide +kernel)
theorem fi_X0_7 : Cond.fieldLink RX0 7 (TX0 0).1 (TX0 0).2.1 (TX0 0).2.2.1 ∈ TB := tb_at 218 (by decide +kernel) (by decide +kernel)
theorem fi_X0_13 : Cond.fieldLink RX0 13 (TX0 1).1 (TX0 1).2.1 (TX0 1).2.2.1 ∈ TB := tb_at 220 (by decide +kernel) (by decide +kernel)
set_option maxHeartbeats 4000000 in
set_option maxRecDepth 100000 in
theorem ct_X0 (l : Launch) (D : va_G) (cI cJ cZ : ClassId) : CT l yX0_init cX0_init 1 12 0 0 0 [.long 0, .long 0] (fun _ => True) frW D cI cJ cZ := by
  refine ct_of (by decide) rfl ?_
  intro p e s m below meth c h0 A ls hAe hx hb hr hml hown hts hlocks hin hA hP hD hK hN hl
  have hS : va_S A s.heap s.heap [] := va_S.rf
  have hown : s.vm.findClass RX0 = some m.cls := hown
  refine lv_aload_n hx hb dX0_init_0 rfl (lv_at hl 0 rfl) ?_
  refine W.objInit hx hb hown (hts _ ol_X0) (hts _ tb_oi) (hts _ tb_oc) rfl (by rw [hml]; exact hl.1) rfl dX0_init_1 (Nat.le_of_ble_eq_true rfl) (Nat.le_of_ble_eq_true rfl) ?_
  refine W.eq (g2 := F0 m 4 ls []) rfl ?_
  refine lv_aload_n hx hb dX0_init_4 rfl (lv_at hl 0 rfl) ?_
  refine lv_lconst (v := 0) hx hb dX0_init_5 (by decide) ?_
  refine va_put (D := D) (ci := 0) (v := .long 0) (ty := tyX0 0) (C := RX0) (T := TX0) (N := 2) hx hb hts inX0 tyX0 tyX0_ok nmX0 hown hK hP hD hS 0 rfl rfl 0 (by decide) (hts _ fi_X0_7) (fun _ h9 => h9) rfl (tyX0_ok 0 (by decide)) rfl rfl (Nat.le_of_ble_eq_true rfl) dX0_init_6 (fun H locs hP hD hS => ?_)
  have hP : va_P D vwCl ([(h0, .inr (0, [.long 0, .long 0]))]) H := hP
  have hD : va_D A ([(h0, .inr (0, [.long 0, .long 0]))]) := hD
  refine lv_aload_n hx hb dX0_init_9 rfl (lv_at hl 0 rfl) ?_
  refine lv_lconst (v := 1) hx hb dX0_init_10 (by decide) ?_
  refine va_put (D := D) (ci := 0) (v := .long 1) (ty := tyX0 1) (C := RX0) (T := TX0) (N := 2) hx hb hts inX0 tyX0 tyX0_ok nmX0 hown hK hP hD hS 0 rfl rfl 1 (by decide) (hts _ fi_X0_13) (fun _ h9 => h9) rfl (tyX0_ok 1 (by decide)) rfl rfl (Nat.le_of_ble_eq_true rfl) dX0_init_11 (fun H locs hP hD hS => ?_)
  have hP : va_P D vwCl ([(h0, .inr (0, [.long 0, .long 1]))]) H := hP
  have hD : va_D A ([(h0, .inr (0, [.long 0, .long 1]))]) := hD
  refine W.widen (k := 0) (n := 0) (Nat.le_of_ble_eq_true rfl) (Nat.le_of_ble_eq_true rfl) ?_
  exact ct_end hx hb hr hlocks hS (fun k => ([h0] : List Nat).getD k 0) rfl hP hD dX0_init_14
def ntW (cI cJ : ClassId) (a : Nat → Nat) : va_W := [(a 0, .inr (1, [.ref (a 1), .ref (a 2), .ref (a 3), .ref (a 4), .int 0])), (a 1, aI cI 8), (a 2, aI cI 8), (a 3, aJ cJ 8), (a 4, aJ cJ 8)]
theorem ol_X2 : Cond.methodLink RX2 3 objectInit ∈ TB := tb_at 82 (by decide +kernel) (by decide +kernel)
theorem fi_X2_9 : Cond.fieldLink RX2 9 (TX2 0).1 (TX2 0).2.1 (TX2 0).2.2.1 ∈ TB := tb_at 83 (by decide +kernel) (by decide +kernel)
theorem fi_X2_15 : Cond.fieldLink RX2 15 (TX2 1).1 (TX2 1).2.1 (TX2 1).2.2.1 ∈ TB := tb_at 85 (by decide +kernel) (by decide +kernel)
theorem fi_X2_18 : Cond.fieldLink RX2 18 (TX2 2).1 (TX2 2).2.1 (TX2 2).2.2.1 ∈ TB := tb_at 87 (by decide +kernel) (by decide +kernel)
theorem fi_X2_22 : Cond.fieldLink RX2 22 (TX2 3).1 (TX2 3).2.1 (TX2 3).2.2.1 ∈ TB := tb_at 89 (by decide +kernel) (by decide +kernel)
set_option maxHeartbeats 4000000 in
set_option maxRecDepth 100000 in
theorem ct_X2 (l : Launch) (D : va_G) (cI cJ cZ : ClassId) : CT l yX2_init cX2_init 1 12 4 32 1 [.null, .null, .null, .null, .int 0] (fun _ => True) (ntW cI cJ) D cI cJ cZ := by
  refine ct_of (by decide) rfl ?_
  intro p e s m below meth c h0 A ls hAe hx hb hr hml hown hts hlocks hin hA hP hD hK hN hl
  have hS : va_S A s.heap s.heap [] := va_S.rf
  have hown : s.vm.findClass RX2 = some m.cls := hown
  refine lv_aload_n hx hb dX2_init_0 rfl (lv_at hl 0 rfl) ?_
  refine W.objInit hx hb hown (hts _ ol_X2) (hts _ tb_oi) (hts _ tb_oc) rfl (by rw [hml]; exact hl.1) rfl dX2_init_1 (Nat.le_of_ble_eq_true rfl) (Nat.le_of_ble_eq_true rfl) ?_
  refine W.eq (g2 := F0 m 4 ls []) rfl ?_
  refine lv_aload_n hx hb dX2_init_4 rfl (lv_at hl 0 rfl) ?_
  refine lv_bipush (v := 8) hx hb dX2_init_5 (by decide) ?_
  refine nw_i hx hb hts hK hP hD hS hA 8 (by decide) (by decide) (Nat.le_of_ble_eq_true rfl) (Nat.le_of_ble_eq_true rfl) (Nat.le_of_ble_eq_true rfl) dX2_init_7 (fun q7 H hP hD hS => ?_)
  have hP : va_P D vwCl ((h0, .inr (1, [.null, .null, .null, .null, .int 0])) :: ([(q7, aI cI 8)])) H := hP
  have hD : va_D A ((h0, .inr (1, [.null, .null, .null, .null, .int 0])) :: ([(q7, aI cI 8)])) := hD
  refine va_putF (D := D) (ci := 1) (v := .ref q7) (ty := tyX2 0) (C := RX2) (T := TX2) (N := 5) hx hb hts inX2 tyX2 tyX2_ok nmX2 hown hK hP hD hS 0 rfl rfl 0 (by decide) (hts _ fi_X2_9) (fun _ h9 => h9) rfl hin rfl (tyX2_ok 0 (by decide)) rfl rfl (Nat.le_of_ble_eq_true rfl) dX2_init_9 (fun H locs hP hD hS => ?_)
  have hP : va_P D vwCl ((h0, .inr (1, [.ref q7, .null, .null, .null, .int 0])) :: ([(q7, aI cI 8)])) H := hP
  have hD : va_D A ((h0, .inr (1, [.ref q7, .null, .null, .null, .int 0])) :: ([(q7, aI cI 8)])) := hD
  refine lv_aload_n hx hb dX2_init_12 rfl (lv_at hl 0 rfl) ?_
  refine lv_bipush (v := 8) hx hb dX2_init_13 (by decide) ?_
  refine nw_i hx hb hts hK hP hD hS hA 8 (by decide) (by decide) (Nat.le_of_ble_eq_true rfl) (Nat.le_of_ble_eq_true rfl) (Nat.le_of_ble_eq_true rfl) dX2_init_15 (fun q15 H hP hD hS => ?_)
  have hP : va_P D vwCl ((h0, .inr (1, [.ref q7, .null, .null, .null, .int 0])) :: ([(q7, aI cI 8)] ++ [(q15, aI cI 8)])) H := hP
  have hD : va_D A ((h0, .inr (1, [.ref q7, .null, .null, .null, .int 0])) :: ([(q7, aI cI 8)] ++ [(q15, aI cI 8)])) := hD
  refine va_putF (D := D) (ci := 1) (v := .ref q15) (ty := tyX2 1) (C := RX2) (T := TX2) (N := 5) hx hb hts inX2 tyX2 tyX2_ok nmX2 hown hK hP hD hS 0 rfl rfl 1 (by decide) (hts _ fi_X2_15) (fun _ h9 => h9) rfl hin rfl (tyX2_ok 1 (by decide)) rfl rfl (Nat.le_of_ble_eq_true rfl) dX2_init_17 (fun H locs hP hD hS => ?_)
  have hP : va_P D vwCl ((h0, .inr (1, [.ref q7, .ref q15, .null, .null, .int 0])) :: ([(q7, aI cI 8)] ++ [(q15, aI cI 8)])) H := hP
  have hD : va_D A ((h0, .inr (1, [.ref q7, .ref q15, .null, .null, .int 0])) :: ([(q7, aI cI 8)] ++ [(q15, aI cI 8)])) := hD
  refine lv_aload_n hx hb dX2_init_20 rfl (lv_at hl 0 rfl) ?_
  refine lv_bipush (v := 8) hx hb dX2_init_21 (by decide) ?_
  refine nw_j hx hb hts hK hP hD hS hA 8 (by decide) (by decide) (Nat.le_of_ble_eq_true rfl) (Nat.le_of_ble_eq_true rfl) (Nat.le_of_ble_eq_true rfl) dX2_init_23 (fun q23 H hP hD hS => ?_)
  have hP : va_P D vwCl ((h0, .inr (1, [.ref q7, .ref q15, .null, .null, .int 0])) :: ([(q7, aI cI 8)] ++ [(q15, aI cI 8)] ++ [(q23, aJ cJ 8)])) H := hP
  have hD : va_D A ((h0, .inr (1, [.ref q7, .ref q15, .null, .null, .int 0])) :: ([(q7, aI cI 8)] ++ [(q15, aI cI 8)] ++ [(q23, aJ cJ 8)])) := hD
  refine va_putF (D := D) (ci := 1) (v := .ref q23) (ty := tyX2 2) (C := RX2) (T := TX2) (N := 5) hx hb hts inX2 tyX2 tyX2_ok nmX2 hown hK hP hD hS 0 rfl rfl 2 (by decide) (hts _ fi_X2_18) (fun _ h9 => h9) rfl hin rfl (tyX2_ok 2 (by decide)) rfl rfl (Nat.le_of_ble_eq_true rfl) dX2_init_25 (fun H locs hP hD hS => ?_)
  have hP : va_P D vwCl ((h0, .inr (1, [.ref q7, .ref q15, .ref q23, .null, .int 0])) :: ([(q7, aI cI 8)] ++ [(q15, aI cI 8)] ++ [(q23, aJ cJ 8)])) H := hP
  have hD : va_D A ((h0, .inr (1, [.ref q7, .ref q15, .ref q23, .null, .int 0])) :: ([(q7, aI cI 8)] ++ [(q15, aI cI 8)] ++ [(q23, aJ cJ 8)])) := hD
  refine lv_aload_n hx hb dX2_init_28 rfl (lv_at hl 0 rfl) ?_
  refine lv_bipush (v := 8) hx hb dX2_init_29 (by decide) ?_
  refine nw_j hx hb hts hK hP hD hS hA 8 (by decide) (by decide) (Nat.le_of_ble_eq_true rfl) (Nat.le_of_ble_eq_true rfl) (Nat.le_of_ble_eq_true rfl) dX2_init_31 (fun q31 H hP hD hS => ?_)
  have hP : va_P D vwCl ((h0, .inr (1, [.ref q7, .ref q15, .ref q23, .null, .int 0])) :: ([(q7, aI cI 8)] ++ [(q15, aI cI 8)] ++ [(q23, aJ cJ 8)] ++ [(q31, aJ cJ 8)])) H := hP
  have hD : va_D A ((h0, .inr (1, [.ref q7, .ref q15, .ref q23, .null, .int 0])) :: ([(q7, aI cI 8)] ++ [(q15, aI cI 8)] ++ [(q23, aJ cJ 8)] ++ [(q31, aJ cJ 8)])) := hD
  refine va_putF (D := D) (ci := 1) (v := .ref q31) (ty := tyX2 3) (C := RX2) (T := TX2) (N := 5) hx hb hts inX2 tyX2 tyX2_ok nmX2 hown hK hP hD hS 0 rfl rfl 3 (by decide) (hts _ fi_X2_22) (fun _ h9 => h9) rfl hin rfl (tyX2_ok 3 (by decide)) rfl rfl (Nat.le_of_ble_eq_true rfl) dX2_init_33 (fun H locs hP hD hS => ?_)
  have hP : va_P D vwCl ((h0, .inr (1, [.ref q7, .ref q15, .ref q23, .ref q31, .int 0])) :: ([(q7, aI cI 8)] ++ [(q15, aI cI 8)] ++ [(q23, aJ cJ 8)] ++ [(q31, aJ cJ 8)])) H := hP
  have hD : va_D A ((h0, .inr (1, [.ref q7, .ref q15, .ref q23, .ref q31, .int 0])) :: ([(q7, aI cI 8)] ++ [(q15, aI cI 8)] ++ [(q23, aJ cJ 8)] ++ [(q31, aJ cJ 8)])) := hD
  refine W.widen (k := 4) (n := 32) (Nat.le_of_ble_eq_true rfl) (Nat.le_of_ble_eq_true rfl) ?_
  exact ct_end hx hb hr hlocks hS (fun k => ([h0, q7, q15, q23, q31] : List Nat).getD k 0) rfl hP hD dX2_init_36
def rdW (cI : ClassId) (a : Nat → Nat) : va_W := [(a 0, .inr (2, [.int 0, .ref (a 1), .int 0, .int 0, .int 0, .int 0])), (a 1, aI cI 150)]
theorem ol_X3 : Cond.methodLink RX3 3 objectInit ∈ TB := tb_at 161 (by decide +kernel) (by decide +kernel)
theorem fi_X3_9 : Cond.fieldLink RX3 9 (TX3 1).1 (TX3 1).2.1 (TX3 1).2.2.1 ∈ TB := tb_at 164 (by decide +kernel) (by decide +kernel)
set_option maxHeartbeats 4000000 in
set_option maxRecDepth 100000 in
theorem ct_X3 (l : Launch) (D : va_G) (cI cJ cZ : ClassId) : CT l yX3_init cX3_init 1 12 1 150 2 [.int 0, .null, .int 0, .int 0, .int 0, .int 0] (fun _ => True) (rdW cI) D cI cJ cZ := by
  refine ct_of (by decide) rfl ?_
  intro p e s m below meth c h0 A ls hAe hx hb hr hml hown hts hlocks hin hA hP hD hK hN hl
  have hS : va_S A s.heap s.heap [] := va_S.rf
  have hown : s.vm.findClass RX3 = some m.cls := hown
  refine lv_aload_n hx hb dX3_init_0 rfl (lv_at hl 0 rfl) ?_
  refine W.objInit hx hb hown (hts _ ol_X3) (hts _ tb_oi) (hts _ tb_oc) rfl (by rw [hml]; exact hl.1) rfl dX3_init_1 (Nat.le_of_ble_eq_true rfl) (Nat.le_of_ble_eq_true rfl) ?_
  refine W.eq (g2 := F0 m 4 ls []) rfl ?_
  refine lv_aload_n hx hb dX3_init_4 rfl (lv_at hl 0 rfl) ?_
  refine lv_sipush (v := 150) hx hb dX3_init_5 (by decide) ?_
  refine nw_i hx hb hts hK hP hD hS hA 150 (by decide) (by decide) (Nat.le_of_ble_eq_true rfl) (Nat.le_of_ble_eq_true rfl) (Nat.le_of_ble_eq_true rfl) dX3_init_8 (fun q8 H hP hD hS => ?_)
  have hP : va_P D vwCl ((h0, .inr (2, [.int 0, .null, .int 0, .int 0, .int 0, .int 0])) :: ([(q8, aI cI 150)])) H := hP
  have hD : va_D A ((h0, .inr (2, [.int 0, .null, .int 0, .int 0, .int 0, .int 0])) :: ([(q8, aI cI 150)])) := hD
  refine va_putF (D := D) (ci := 2) (v := .ref q8) (ty := tyX3 1) (C := RX3) (T := TX3) (N := 6) hx hb hts inX3 tyX3 tyX3_ok nmX3 hown hK hP hD hS 0 rfl rfl 1 (by decide) (hts _ fi_X3_9) (fun _ h9 => h9) rfl hin rfl (tyX3_ok 1 (by decide)) rfl rfl (Nat.le_of_ble_eq_true rfl) dX3_init_10 (fun H locs hP hD hS => ?_)
  have hP : va_P D vwCl ((h0, .inr (2, [.int 0, .ref q8, .int 0, .int 0, .int 0, .int 0])) :: ([(q8, aI cI 150)])) H := hP
  have hD : va_D A ((h0, .inr (2, [.int 0, .ref q8, .int 0, .int 0, .int 0, .int 0])) :: ([(q8, aI cI 150)])) := hD
  refine W.widen (k := 1) (n := 150) (Nat.le_of_ble_eq_true rfl) (Nat.le_of_ble_eq_true rfl) ?_
  exact ct_end hx hb hr hlocks hS (fun k => ([h0, q8] : List Nat).getD k 0) rfl hP hD dX3_init_13
def srW (cI : ClassId) (a : Nat → Nat) : va_W := [(a 0, .inr (4, [.ref (a 1), .int 0, .int 0, .int 0, .ref (a 2), .int 0])), (a 1, aI cI 6), (a 2, aI cI 6)]
theorem ol_X6 : Cond.methodLink RX6 3 objectInit ∈ TB := tb_at 188 (by decide +kernel) (by decide +kernel)
theorem fi_X6_9 : Cond.fieldLink RX6 9 (TX6 0).1 (TX6 0).2.1 (TX6 0).2.2.1 ∈ TB := tb_at 189 (by decide +kernel) (by decide +kernel)
theorem fi_X6_15 : Cond.fieldLink RX6 15 (TX6 4).1 (TX6 4).2.1 (TX6 4).2.2.1 ∈ TB := tb_at 197 (by decide +kernel) (by decide +kernel)
set_option maxHeartbeats 4000000 in
set_option maxRecDepth 100000 in
theorem ct_X6 (l : Launch) (D : va_G) (cI cJ cZ : ClassId) : CT l yX6_init cX6_init 1 12 2 12 4 [.null, .int 0, .int 0, .int 0, .null, .int 0] (fun _ => True) (srW cI) D cI cJ cZ := by
  refine ct_of (by decide) rfl ?_
  intro p e s m below meth c h0 A ls hAe hx hb hr hml hown hts hlocks hin hA hP hD hK hN hl
  have hS : va_S A s.heap s.heap [] := va_S.rf
  have hown : s.vm.findClass RX6 = some m.cls := hown
  refine lv_aload_n hx hb dX6_init_0 rfl (lv_at hl 0 rfl) ?_
  refine W.objInit hx hb hown (hts _ ol_X6) (hts _ tb_oi) (hts _ tb_oc) rfl (by rw [hml]; exact hl.1) rfl dX6_init_1 (Nat.le_of_ble_eq_true rfl) (Nat.le_of_ble_eq_true rfl) ?_
  refine W.eq (g2 := F0 m 4 ls []) rfl ?_
  refine lv_aload_n hx hb dX6_init_4 rfl (lv_at hl 0 rfl) ?_
  refine lv_bipush (v := 6) hx hb dX6_init_5 (by decide) ?_
  refine nw_i hx hb hts hK hP hD hS hA 6 (by decide) (by decide) (Nat.le_of_ble_eq_true rfl) (Nat.le_of_ble_eq_true rfl) (Nat.le_of_ble_eq_true rfl) dX6_init_7 (fun q7 H hP hD hS => ?_)
  have hP : va_P D vwCl ((h0, .inr (4, [.null, .int 0, .int 0, .int 0, .null, .int 0])) :: ([(q7, aI cI 6)])) H := hP
  have hD : va_D A ((h0, .inr (4, [.null, .int 0, .int 0, .int 0, .null, .int 0])) :: ([(q7, aI cI 6)])) := hD
  refine va_putF (D := D) (ci := 4) (v := .ref q7) (ty := tyX6 0) (C := RX6) (T := TX6) (N := 6) hx hb hts inX6 tyX6 tyX6_ok nmX6 hown hK hP hD hS 0 rfl rfl 0 (by decide) (hts _ fi_X6_9) (fun _ h9 => h9) rfl hin rfl (tyX6_ok 0 (by decide)) rfl rfl (Nat.le_of_ble_eq_true rfl) dX6_init_9 (fun H locs hP hD hS => ?_)
  have hP : va_P D vwCl ((h0, .inr (4, [.ref q7, .int 0, .int 0, .int 0, .null, .int 0])) :: ([(q7, aI cI 6)])) H := hP
  have hD : va_D A ((h0, .inr (4, [.ref q7, .int 0, .int 0, .int 0, .null, .int 0])) :: ([(q7, aI cI 6)])) := hD
  refine lv_aload_n hx hb dX6_init_12 rfl (lv_at hl 0 rfl) ?_
  refine lv_bipush (v := 6) hx hb dX6_init_13 (by decide) ?_
  refine nw_i hx hb hts hK hP hD hS hA 6 (by decide) (by decide) (Nat.le_of_ble_eq_true rfl) (Nat.le_of_ble_eq_true rfl) (Nat.le_of_ble_eq_true rfl) dX6_init_15 (fun q15 H hP hD hS => ?_)
  have hP : va_P D vwCl ((h0, .inr (4, [.ref q7, .int 0, .int 0, .int 0, .null, .int 0])) :: ([(q7, aI cI 6)] ++ [(q15, aI cI 6)])) H := hP
  have hD : va_D A ((h0, .inr (4, [.ref q7, .int 0, .int 0, .int 0, .null, .int 0])) :: ([(q7, aI cI 6)] ++ [(q15, aI cI 6)])) := hD
  refine va_putF (D := D) (ci := 4) (v := .ref q15) (ty := tyX6 4) (C := RX6) (T := TX6) (N := 6) hx hb hts inX6 tyX6 tyX6_ok nmX6 hown hK hP hD hS 0 rfl rfl 4 (by decide) (hts _ fi_X6_15) (fun _ h9 => h9) rfl hin rfl (tyX6_ok 4 (by decide)) rfl rfl (Nat.le_of_ble_eq_true rfl) dX6_init_17 (fun H locs hP hD hS => ?_)
  have hP : va_P D vwCl ((h0, .inr (4, [.ref q7, .int 0, .int 0, .int 0, .ref q15, .int 0])) :: ([(q7, aI cI 6)] ++ [(q15, aI cI 6)])) H := hP
  have hD : va_D A ((h0, .inr (4, [.ref q7, .int 0, .int 0, .int 0, .ref q15, .int 0])) :: ([(q7, aI cI 6)] ++ [(q15, aI cI 6)])) := hD
  refine W.widen (k := 2) (n := 12) (Nat.le_of_ble_eq_true rfl) (Nat.le_of_ble_eq_true rfl) ?_
  exact ct_end hx hb hr hlocks hS (fun k => ([h0, q7, q15] : List Nat).getD k 0) rfl hP hD dX6_init_20
def rvW (cI cJ : ClassId) (a : Nat → Nat) : va_W := [(a 0, .inr (3, [.ref (a 1), .ref (a 2), .ref (a 3), .ref (a 4), .ref (a 5), .ref (a 6), .int 0, .int 0, .int 0, .ref (a 11), .ref (a 12)])), (a 1, aI cI 8), (a 2, aI cI 8), (a 3, aI cI 8), (a 4, aI cI 8), (a 5, aJ cJ 4), (a 6, .inr (1, [.ref (a 7), .ref (a 8), .ref (a 9), .ref (a 10), .int 0])), (a 7, aI cI 8), (a 8, aI cI 8), (a 9, aJ cJ 8), (a 10, aJ cJ 8), (a 11, aI cI 8), (a 12, aI cI 8)]
def nwX4 (U : State) : Prop := va_Nw (.methodLinkNest RX4 30 ⟨RX2, "<init>", "()V"⟩ "BridgeNames") U
theorem ol_X4 : Cond.methodLink RX4 3 objectInit ∈ TB := tb_at 76 (by decide +kernel) (by decide +kernel)
theorem fi_X4_9 : Cond.fieldLink RX4 9 (TX4 0).1 (TX4 0).2.1 (TX4 0).2.2.1 ∈ TB := tb_at 107 (by decide +kernel) (by decide +kernel)
theorem fi_X4_15 : Cond.fieldLink RX4 15 (TX4 1).1 (TX4 1).2.1 (TX4 1).2.2.1 ∈ TB := tb_at 110 (by decide +kernel) (by decide +kernel)
theorem fi_X4_18 : Cond.fieldLink RX4 18 (TX4 2).1 (TX4 2).2.1 (TX4 2).2.2.1 ∈ TB := tb_at 113 (by decide +kernel) (by decide +kernel)
theorem fi_X4_21 : Cond.fieldLink RX4 21 (TX4 3).1 (TX4 3).2.1 (TX4 3).2.2.1 ∈ TB := tb_at 115 (by decide +kernel) (by decide +kernel)
theorem fi_X4_24 : Cond.fieldLink RX4 24 (TX4 4).1 (TX4 4).2.1 (TX4 4).2.2.1 ∈ TB := tb_at 117 (by decide +kernel) (by decide +kernel)
theorem cl_X4_28 : Cond.classLink RX4 28 RX2 ∈ TB := tb_at 77 (by decide +kernel) (by decide +kernel)
theorem it_X2 : Cond.instantiable RX2 5 ∈ TB := tb_at 78 (by decide +kernel) (by decide +kernel)
theorem ii_X2 : Cond.initialized RX2 ∈ TB := tb_at 50 (by decide +kernel) (by decide +kernel)
theorem im_X2 : Cond.instanceMethod ⟨RX2, "<init>", "()V"⟩ ∈ TB := tb_at 80 (by decide +kernel) (by decide +kernel)
theorem ic_X2 : Cond.code ⟨RX2, "<init>", "()V"⟩ cX2_init 1 none ∈ TB := tb_at 81 (by decide +kernel) (by decide +kernel)
theorem fi_X4_31 : Cond.fieldLink RX4 31 (TX4 5).1 (TX4 5).2.1 (TX4 5).2.2.1 ∈ TB := tb_at 120 (by decide +kernel) (by decide +kernel)
theorem fi_X4_35 : Cond.fieldLink RX4 35 (TX4 9).1 (TX4 9).2.1 (TX4 9).2.2.1 ∈ TB := tb_at 130 (by decide +kernel) (by decide +kernel)
theorem fi_X4_38 : Cond.fieldLink RX4 38 (TX4 10).1 (TX4 10).2.1 (TX4 10).2.2.1 ∈ TB := tb_at 131 (by decide +kernel) (by decide +kernel)
set_option maxHeartbeats 4000000 in
set_option maxRecDepth 100000 in
theorem ct_X4 (l : Launch) (D : va_G) (cI cJ cZ : ClassId) : CT l yX4_init cX4_init 2 32 12 89 3 [.null, .null, .null, .null, .null, .null, .int 0, .int 0, .int 0, .null, .null] nwX4 (rvW cI cJ) D cI cJ cZ := by
  refine ct_of (by decide) rfl ?_
  intro p e s m below meth c h0 A ls hAe hx hb hr hml hown hts hlocks hin hA hP hD hK hN hl
  have hS : va_S A s.heap s.heap [] := va_S.rf
  have hown : s.vm.findClass RX4 = some m.cls := hown
  refine lv_aload_n hx hb dX4_init_0 rfl (lv_at hl 0 rfl) ?_
  refine W.objInit hx hb hown (hts _ ol_X4) (hts _ tb_oi) (hts _ tb_oc) rfl (by rw [hml]; exact hl.1) rfl dX4_init_1 (Nat.le_of_ble_eq_true rfl) (Nat.le_of_ble_eq_true rfl) ?_
  refine W.eq (g2 := F0 m 4 ls []) rfl ?_
  refine lv_aload_n hx hb dX4_init_4 rfl (lv_at hl 0 rfl) ?_
  refine lv_bipush (v := 8) hx hb dX4_init_5 (by decide) ?_
  refine nw_i hx hb hts hK hP hD hS hA 8 (by decide) (by decide) (Nat.le_of_ble_eq_true rfl) (Nat.le_of_ble_eq_true rfl) (Nat.le_of_ble_eq_true rfl) dX4_init_7 (fun q7 H hP hD hS => ?_)
  have hP : va_P D vwCl ((h0, .inr (3, [.null, .null, .null, .null, .null, .null, .int 0, .int 0, .int 0, .null, .null])) :: ([(q7, aI cI 8)])) H := hP
  have hD : va_D A ((h0, .inr (3, [.null, .null, .null, .null, .null, .null, .int 0, .int 0, .int 0, .null, .null])) :: ([(q7, aI cI 8)])) := hD
  refine va_putF (D := D) (ci := 3) (v := .ref q7) (ty := tyX4 0) (C := RX4) (T := TX4) (N := 11) hx hb hts inX4 tyX4 tyX4_ok nmX4 hown hK hP hD hS 0 rfl rfl 0 (by decide) (hts _ fi_X4_9) (fun _ h9 => h9) rfl hin rfl (tyX4_ok 0 (by decide)) rfl rfl (Nat.le_of_ble_eq_true rfl) dX4_init_9 (fun H locs hP hD hS => ?_)
  have hP : va_P D vwCl ((h0, .inr (3, [.ref q7, .null, .null, .null, .null, .null, .int 0, .int 0, .int 0, .null, .null])) :: ([(q7, aI cI 8)])) H := hP
  have hD : va_D A ((h0, .inr (3, [.ref q7, .null, .null, .null, .null, .null, .int 0, .int 0, .int 0, .null, .null])) :: ([(q7, aI cI 8)])) := hD
  refine lv_aload_n hx hb dX4_init_12 rfl (lv_at hl 0 rfl) ?_
  refine lv_bipush (v := 8) hx hb dX4_init_13 (by decide) ?_
  refine nw_i hx hb hts hK hP hD hS hA 8 (by decide) (by decide) (Nat.le_of_ble_eq_true rfl) (Nat.le_of_ble_eq_true rfl) (Nat.le_of_ble_eq_true rfl) dX4_init_15 (fun q15 H hP hD hS => ?_)
  have hP : va_P D vwCl ((h0, .inr (3, [.ref q7, .null, .null, .null, .null, .null, .int 0, .int 0, .int 0, .null, .null])) :: ([(q7, aI cI 8)] ++ [(q15, aI cI 8)])) H := hP
  have hD : va_D A ((h0, .inr (3, [.ref q7, .null, .null, .null, .null, .null, .int 0, .int 0, .int 0, .null, .null])) :: ([(q7, aI cI 8)] ++ [(q15, aI cI 8)])) := hD
  refine va_putF (D := D) (ci := 3) (v := .ref q15) (ty := tyX4 1) (C := RX4) (T := TX4) (N := 11) hx hb hts inX4 tyX4 tyX4_ok nmX4 hown hK hP hD hS 0 rfl rfl 1 (by decide) (hts _ fi_X4_15) (fun _ h9 => h9) rfl hin rfl (tyX4_ok 1 (by decide)) rfl rfl (Nat.le_of_ble_eq_true rfl) dX4_init_17 (fun H locs hP hD hS => ?_)
  have hP : va_P D vwCl ((h0, .inr (3, [.ref q7, .ref q15, .null, .null, .null, .null, .int 0, .int 0, .int 0, .null, .null])) :: ([(q7, aI cI 8)] ++ [(q15, aI cI 8)])) H := hP
  have hD : va_D A ((h0, .inr (3, [.ref q7, .ref q15, .null, .null, .null, .null, .int 0, .int 0, .int 0, .null, .null])) :: ([(q7, aI cI 8)] ++ [(q15, aI cI 8)])) := hD
  refine lv_aload_n hx hb dX4_init_20 rfl (lv_at hl 0 rfl) ?_
  refine lv_bipush (v := 8) hx hb dX4_init_21 (by decide) ?_
  refine nw_i hx hb hts hK hP hD hS hA 8 (by decide) (by decide) (Nat.le_of_ble_eq_true rfl) (Nat.le_of_ble_eq_true rfl) (Nat.le_of_ble_eq_true rfl) dX4_init_23 (fun q23 H hP hD hS => ?_)
  have hP : va_P D vwCl ((h0, .inr (3, [.ref q7, .ref q15, .null, .null, .null, .null, .int 0, .int 0, .int 0, .null, .null])) :: ([(q7, aI cI 8)] ++ [(q15, aI cI 8)] ++ [(q23, aI cI 8)])) H := hP
  have hD : va_D A ((h0, .inr (3, [.ref q7, .ref q15, .null, .null, .null, .null, .int 0, .int 0, .int 0, .null, .null])) :: ([(q7, aI cI 8)] ++ [(q15, aI cI 8)] ++ [(q23, aI cI 8)])) := hD
  refine va_putF (D := D) (ci := 3) (v := .ref q23) (ty := tyX4 2) (C := RX4) (T := TX4) (N := 11) hx hb hts inX4 tyX4 tyX4_ok nmX4 hown hK hP hD hS 0 rfl rfl 2 (by decide) (hts _ fi_X4_18) (fun _ h9 => h9) rfl hin rfl (tyX4_ok 2 (by decide)) rfl rfl (Nat.le_of_ble_eq_true rfl) dX4_init_25 (fun H locs hP hD hS => ?_)
  have hP : va_P D vwCl ((h0, .inr (3, [.ref q7, .ref q15, .ref q23, .null, .null, .null, .int 0, .int 0, .int 0, .null, .null])) :: ([(q7, aI cI 8)] ++ [(q15, aI cI 8)] ++ [(q23, aI cI 8)])) H := hP
  have hD : va_D A ((h0, .inr (3, [.ref q7, .ref q15, .ref q23, .null, .null, .null, .int 0, .int 0, .int 0, .null, .null])) :: ([(q7, aI cI 8)] ++ [(q15, aI cI 8)] ++ [(q23, aI cI 8)])) := hD
  refine lv_aload_n hx hb dX4_init_28 rfl (lv_at hl 0 rfl) ?_
  refine lv_bipush (v := 8) hx hb dX4_init_29 (by decide) ?_
  refine nw_i hx hb hts hK hP hD hS hA 8 (by decide) (by decide) (Nat.le_of_ble_eq_true rfl) (Nat.le_of_ble_eq_true rfl) (Nat.le_of_ble_eq_true rfl) dX4_init_31 (fun q31 H hP hD hS => ?_)
  have hP : va_P D vwCl ((h0, .inr (3, [.ref q7, .ref q15, .ref q23, .null, .null, .null, .int 0, .int 0, .int 0, .null, .null])) :: ([(q7, aI cI 8)] ++ [(q15, aI cI 8)] ++ [(q23, aI cI 8)] ++ [(q31, aI cI 8)])) H := hP
  have hD : va_D A ((h0, .inr (3, [.ref q7, .ref q15, .ref q23, .null, .null, .null, .int 0, .int 0, .int 0, .null, .null])) :: ([(q7, aI cI 8)] ++ [(q15, aI cI 8)] ++ [(q23, aI cI 8)] ++ [(q31, aI cI 8)])) := hD
  refine va_putF (D := D) (ci := 3) (v := .ref q31) (ty := tyX4 3) (C := RX4) (T := TX4) (N := 11) hx hb hts inX4 tyX4 tyX4_ok nmX4 hown hK hP hD hS 0 rfl rfl 3 (by decide) (hts _ fi_X4_21) (fun _ h9 => h9) rfl hin rfl (tyX4_ok 3 (by decide)) rfl rfl (Nat.le_of_ble_eq_true rfl) dX4_init_33 (fun H locs hP hD hS => ?_)
  have hP : va_P D vwCl ((h0, .inr (3, [.ref q7, .ref q15, .ref q23, .ref q31, .null, .null, .int 0, .int 0, .int 0, .null, .null])) :: ([(q7, aI cI 8)] ++ [(q15, aI cI 8)] ++ [(q23, aI cI 8)] ++ [(q31, aI cI 8)])) H := hP
  have hD : va_D A ((h0, .inr (3, [.ref q7, .ref q15, .ref q23, .ref q31, .null, .null, .int 0, .int 0, .int 0, .null, .null])) :: ([(q7, aI cI 8)] ++ [(q15, aI cI 8)] ++ [(q23, aI cI 8)] ++ [(q31, aI cI 8)])) := hD
  refine lv_aload_n hx hb dX4_init_36 rfl (lv_at hl 0 rfl) ?_
  refine lv_iconst (v := 4) hx hb dX4_init_37 (by decide) ?_
  refine nw_j hx hb hts hK hP hD hS hA 4 (by decide) (by decide) (Nat.le_of_ble_eq_true rfl) (Nat.le_of_ble_eq_true rfl) (Nat.le_of_ble_eq_true rfl) dX4_init_38 (fun q38 H hP hD hS => ?_)
  have hP : va_P D vwCl ((h0, .inr (3, [.ref q7, .ref q15, .ref q23, .ref q31, .null, .null, .int 0, .int 0, .int 0, .null, .null])) :: ([(q7, aI cI 8)] ++ [(q15, aI cI 8)] ++ [(q23, aI cI 8)] ++ [(q31, aI cI 8)] ++ [(q38, aJ cJ 4)])) H := hP
  have hD : va_D A ((h0, .inr (3, [.ref q7, .ref q15, .ref q23, .ref q31, .null, .null, .int 0, .int 0, .int 0, .null, .null])) :: ([(q7, aI cI 8)] ++ [(q15, aI cI 8)] ++ [(q23, aI cI 8)] ++ [(q31, aI cI 8)] ++ [(q38, aJ cJ 4)])) := hD
  refine va_putF (D := D) (ci := 3) (v := .ref q38) (ty := tyX4 4) (C := RX4) (T := TX4) (N := 11) hx hb hts inX4 tyX4 tyX4_ok nmX4 hown hK hP hD hS 0 rfl rfl 4 (by decide) (hts _ fi_X4_24) (fun _ h9 => h9) rfl hin rfl (tyX4_ok 4 (by decide)) rfl rfl (Nat.le_of_ble_eq_true rfl) dX4_init_40 (fun H locs hP hD hS => ?_)
  have hP : va_P D vwCl ((h0, .inr (3, [.ref q7, .ref q15, .ref q23, .ref q31, .ref q38, .null, .int 0, .int 0, .int 0, .null, .null])) :: ([(q7, aI cI 8)] ++ [(q15, aI cI 8)] ++ [(q23, aI cI 8)] ++ [(q31, aI cI 8)] ++ [(q38, aJ cJ 4)])) H := hP
  have hD : va_D A ((h0, .inr (3, [.ref q7, .ref q15, .ref q23, .ref q31, .ref q38, .null, .int 0, .int 0, .int 0, .null, .null])) :: ([(q7, aI cI 8)] ++ [(q15, aI cI 8)] ++ [(q23, aI cI 8)] ++ [(q31, aI cI 8)] ++ [(q38, aJ cJ 4)])) := hD
  refine lv_aload_n hx hb dX4_init_43 rfl (lv_at hl 0 rfl) ?_
  refine nw_obj (own := RX4) (C := RX2) (T := TX2) (N := 5) (ci := 1) (ty := tyX2) hx hb hml hown hts hK hP hD hS hA hl.1 (ct_X2 l D cI cJ cZ) inX2 tyX2_ok cl_X4_28 it_X2 ii_X2 im_X2 ic_X2 rfl (fun j hj => by rcases (show j = 0 ∨ j = 1 ∨ j = 2 ∨ j = 3 ∨ j = 4 by omega) with rfl | rfl | rfl | rfl | rfl <;> rfl) hN (by decide +kernel) trivial (fun _ _ _ _ _ => trivial) (fun _ _ _ => trivial) ⟨(Nat.le_of_ble_eq_true rfl), (Nat.le_of_ble_eq_true rfl)⟩ (Nat.le_of_ble_eq_true rfl) (Nat.le_of_ble_eq_true rfl) (fun _ => (Nat.le_of_ble_eq_true rfl)) dX4_init_44 dX4_init_47 dX4_init_48 (fun b44 H locs hP hD hS => ?_)
  have hP : va_P D vwCl ((h0, .inr (3, [.ref q7, .ref q15, .ref q23, .ref q31, .ref q38, .null, .int 0, .int 0, .int 0, .null, .null])) :: ([(q7, aI cI 8)] ++ [(q15, aI cI 8)] ++ [(q23, aI cI 8)] ++ [(q31, aI cI 8)] ++ [(q38, aJ cJ 4)] ++ (ntW cI cJ) b44)) H := hP
  have hD : va_D A ((h0, .inr (3, [.ref q7, .ref q15, .ref q23, .ref q31, .ref q38, .null, .int 0, .int 0, .int 0, .null, .null])) :: ([(q7, aI cI 8)] ++ [(q15, aI cI 8)] ++ [(q23, aI cI 8)] ++ [(q31, aI cI 8)] ++ [(q38, aJ cJ 4)] ++ (ntW cI cJ) b44)) := hD
  refine va_putF (D := D) (ci := 3) (v := .ref (b44 0)) (ty := tyX4 5) (C := RX4) (T := TX4) (N := 11) hx hb hts inX4 tyX4 tyX4_ok nmX4 hown hK hP hD hS 0 rfl rfl 5 (by decide) (hts _ fi_X4_31) (fun _ h9 => h9) rfl hin rfl (tyX4_ok 5 (by decide)) rfl rfl (Nat.le_of_ble_eq_true rfl) dX4_init_51 (fun H locs hP hD hS => ?_)
  have hP : va_P D vwCl ((h0, .inr (3, [.ref q7, .ref q15, .ref q23, .ref q31, .ref q38, .ref (b44 0), .int 0, .int 0, .int 0, .null, .null])) :: ([(q7, aI cI 8)] ++ [(q15, aI cI 8)] ++ [(q23, aI cI 8)] ++ [(q31, aI cI 8)] ++ [(q38, aJ cJ 4)] ++ (ntW cI cJ) b44)) H := hP
  have hD : va_D A ((h0, .inr (3, [.ref q7, .ref q15, .ref q23, .ref q31, .ref q38, .ref (b44 0), .int 0, .int 0, .int 0, .null, .null])) :: ([(q7, aI cI 8)] ++ [(q15, aI cI 8)] ++ [(q23, aI cI 8)] ++ [(q31, aI cI 8)] ++ [(q38, aJ cJ 4)] ++ (ntW cI cJ) b44)) := hD
  refine lv_aload_n hx hb dX4_init_54 rfl (lv_at hl 0 rfl) ?_
  refine lv_bipush (v := 8) hx hb dX4_init_55 (by decide) ?_
  refine nw_i hx hb hts hK hP hD hS hA 8 (by decide) (by decide) (Nat.le_of_ble_eq_true rfl) (Nat.le_of_ble_eq_true rfl) (Nat.le_of_ble_eq_true rfl) dX4_init_57 (fun q57 H hP hD hS => ?_)
  have hP : va_P D vwCl ((h0, .inr (3, [.ref q7, .ref q15, .ref q23, .ref q31, .ref q38, .ref (b44 0), .int 0, .int 0, .int 0, .null, .null])) :: ([(q7, aI cI 8)] ++ [(q15, aI cI 8)] ++ [(q23, aI cI 8)] ++ [(q31, aI cI 8)] ++ [(q38, aJ cJ 4)] ++ (ntW cI cJ) b44 ++ [(q57, aI cI 8)])) H := hP
  have hD : va_D A ((h0, .inr (3, [.ref q7, .ref q15, .ref q23, .ref q31, .ref q38, .ref (b44 0), .int 0, .int 0, .int 0, .null, .null])) :: ([(q7, aI cI 8)] ++ [(q15, aI cI 8)] ++ [(q23, aI cI 8)] ++ [(q31, aI cI 8)] ++ [(q38, aJ cJ 4)] ++ (ntW cI cJ) b44 ++ [(q57, aI cI 8)])) := hD
  refine va_putF (D := D) (ci := 3) (v := .ref q57) (ty := tyX4 9) (C := RX4) (T := TX4) (N := 11) hx hb hts inX4 tyX4 tyX4_ok nmX4 hown hK hP hD hS 0 rfl rfl 9 (by decide) (hts _ fi_X4_35) (fun _ h9 => h9) rfl hin rfl (tyX4_ok 9 (by decide)) rfl rfl (Nat.le_of_ble_eq_true rfl) dX4_init_59 (fun H locs hP hD hS => ?_)
  have hP : va_P D vwCl ((h0, .inr (3, [.ref q7, .ref q15, .ref q23, .ref q31, .ref q38, .ref (b44 0), .int 0, .int 0, .int 0, .ref q57, .null])) :: ([(q7, aI cI 8)] ++ [(q15, aI cI 8)] ++ [(q23, aI cI 8)] ++ [(q31, aI cI 8)] ++ [(q38, aJ cJ 4)] ++ (ntW cI cJ) b44 ++ [(q57, aI cI 8)])) H := hP
  have hD : va_D A ((h0, .inr (3, [.ref q7, .ref q15, .ref q23, .ref q31, .ref q38, .ref (b44 0), .int 0, .int 0, .int 0, .ref q57, .null])) :: ([(q7, aI cI 8)] ++ [(q15, aI cI 8)] ++ [(q23, aI cI 8)] ++ [(q31, aI cI 8)] ++ [(q38, aJ cJ 4)] ++ (ntW cI cJ) b44 ++ [(q57, aI cI 8)])) := hD
  refine lv_aload_n hx hb dX4_init_62 rfl (lv_at hl 0 rfl) ?_
  refine lv_bipush (v := 8) hx hb dX4_init_63 (by decide) ?_
  refine nw_i hx hb hts hK hP hD hS hA 8 (by decide) (by decide) (Nat.le_of_ble_eq_true rfl) (Nat.le_of_ble_eq_true rfl) (Nat.le_of_ble_eq_true rfl) dX4_init_65 (fun q65 H hP hD hS => ?_)
  have hP : va_P D vwCl ((h0, .inr (3, [.ref q7, .ref q15, .ref q23, .ref q31, .ref q38, .ref (b44 0), .int 0, .int 0, .int 0, .ref q57, .null])) :: ([(q7, aI cI 8)] ++ [(q15, aI cI 8)] ++ [(q23, aI cI 8)] ++ [(q31, aI cI 8)] ++ [(q38, aJ cJ 4)] ++ (ntW cI cJ) b44 ++ [(q57, aI cI 8)] ++ [(q65, aI cI 8)])) H := hP
  have hD : va_D A ((h0, .inr (3, [.ref q7, .ref q15, .ref q23, .ref q31, .ref q38, .ref (b44 0), .int 0, .int 0, .int 0, .ref q57, .null])) :: ([(q7, aI cI 8)] ++ [(q15, aI cI 8)] ++ [(q23, aI cI 8)] ++ [(q31, aI cI 8)] ++ [(q38, aJ cJ 4)] ++ (ntW cI cJ) b44 ++ [(q57, aI cI 8)] ++ [(q65, aI cI 8)])) := hD
  refine va_putF (D := D) (ci := 3) (v := .ref q65) (ty := tyX4 10) (C := RX4) (T := TX4) (N := 11) hx hb hts inX4 tyX4 tyX4_ok nmX4 hown hK hP hD hS 0 rfl rfl 10 (by decide) (hts _ fi_X4_38) (fun _ h9 => h9) rfl hin rfl (tyX4_ok 10 (by decide)) rfl rfl (Nat.le_of_ble_eq_true rfl) dX4_init_67 (fun H locs hP hD hS => ?_)
  have hP : va_P D vwCl ((h0, .inr (3, [.ref q7, .ref q15, .ref q23, .ref q31, .ref q38, .ref (b44 0), .int 0, .int 0, .int 0, .ref q57, .ref q65])) :: ([(q7, aI cI 8)] ++ [(q15, aI cI 8)] ++ [(q23, aI cI 8)] ++ [(q31, aI cI 8)] ++ [(q38, aJ cJ 4)] ++ (ntW cI cJ) b44 ++ [(q57, aI cI 8)] ++ [(q65, aI cI 8)])) H := hP
  have hD : va_D A ((h0, .inr (3, [.ref q7, .ref q15, .ref q23, .ref q31, .ref q38, .ref (b44 0), .int 0, .int 0, .int 0, .ref q57, .ref q65])) :: ([(q7, aI cI 8)] ++ [(q15, aI cI 8)] ++ [(q23, aI cI 8)] ++ [(q31, aI cI 8)] ++ [(q38, aJ cJ 4)] ++ (ntW cI cJ) b44 ++ [(q57, aI cI 8)] ++ [(q65, aI cI 8)])) := hD
  refine W.widen (k := 12) (n := 89) (Nat.le_of_ble_eq_true rfl) (Nat.le_of_ble_eq_true rfl) ?_
  exact ct_end hx hb hr hlocks hS (fun k => ([h0, q7, q15, q23, q31, q38, b44 0, b44 1, b44 2, b44 3, b44 4, q57, q65] : List Nat).getD k 0) rfl hP hD dX4_init_70
def nwX7 (U : State) : Prop := va_Nw (.methodLinkNest RX7 9 ⟨RX4, "<init>", "()V"⟩ "BridgeNames") U ∧ nwX4 U ∧ va_Nw (.methodLinkNest RX7 29 ⟨RX3, "<init>", "()V"⟩ "BridgeNames") U ∧ va_Nw (.methodLinkNest RX7 36 ⟨RX6, "<init>", "()V"⟩ "BridgeNames") U ∧ va_Nw (.methodLinkNest RX7 43 ⟨RX0, "<init>", "()V"⟩ "BridgeNames") U ∧ va_AO RX4 U
theorem im_sw {D : va_G} {cl : List vw_C} {A : Nat → Prop} {ws : va_W} {H : Heap} {q : Nat} {cR : ClassId} {f f2 : Nat → Option Nat} (hP : va_P D cl ws H) (hD : va_D A ws) (p : Nat) (hp : ws[p]? = some (q, .inl (cR, 2, .inr (.inr (.inr (.inr f)))))) (h0 : f2 0 = f 0) (h1 : f2 1 = f 1) : va_P D cl (ws.set p (q, .inl (cR, 2, .inr (.inr (.inr (.inr f2)))))) H := by
  refine hP.set hD hp ?_ (fun _ _ => rfl)
  have h := hP p _ hp
  show H[q]? = some (vp_cell cR (2, .inr (.inr (.inr (.inr f2)))))
  rw [show vp_cell cR (2, .inr (.inr (.inr (.inr f2)))) = vp_cell cR (2, .inr (.inr (.inr (.inr f)))) from im_eq h0 h1]
  exact h
abbrev zg (k : Nat) : Nat → Int64 := fun i => if k = 60 then (if i = 1 then 1 else 0) else if k = 63 then (if i = 7 then 1 else 0) else 0
abbrev E0 (D : va_G) (cI cJ cZ cR : ClassId) (a : Nat → Nat) : En := (a, D, (cI, cJ, cZ, cR), (fun _ => 0, fun _ => 0))
def bnW (D : va_G) (cI cJ cZ cR : ClassId) (a : Nat → Nat) : va_W := (List.range 63).map (fun k => (a k, cel (E0 D cI cJ cZ cR a) k zi (zg k)))
def mdW (D : va_G) (cI cJ cZ : ClassId) (a : Nat → Nat) : va_W := (List.range 18).map (fun k => (a k, cel (E0 D cI cJ cZ cI (fun j => a (j - 63))) (63 + k) zi (zg (63 + k))))
theorem ol_X8 : Cond.methodLink RX8 1 objectInit ∈ TB := tb_at 743 (by decide +kernel) (by decide +kernel)
theorem fi_X8_7 : Cond.fieldLink RX8 7 (TX8 0).1 (TX8 0).2.1 (TX8 0).2.2.1 ∈ TB := tb_at 744 (by decide +kernel) (by decide +kernel)
theorem fi_X8_13 : Cond.fieldLink RX8 13 (TX8 1).1 (TX8 1).2.1 (TX8 1).2.2.1 ∈ TB := tb_at 745 (by decide +kernel) (by decide +kernel)
theorem fi_X8_16 : Cond.fieldLink RX8 16 (TX8 2).1 (TX8 2).2.1 (TX8 2).2.2.1 ∈ TB := tb_at 746 (by decide +kernel) (by decide +kernel)
theorem fi_X8_20 : Cond.fieldLink RX8 20 (TX8 3).1 (TX8 3).2.1 (TX8 3).2.2.1 ∈ TB := tb_at 747 (by decide +kernel) (by decide +kernel)
theorem fi_X8_23 : Cond.fieldLink RX8 23 (TX8 4).1 (TX8 4).2.1 (TX8 4).2.2.1 ∈ TB := tb_at 748 (by decide +kernel) (by decide +kernel)
theorem fi_X8_27 : Cond.fieldLink RX8 27 (TX8 5).1 (TX8 5).2.1 (TX8 5).2.2.1 ∈ TB := tb_at 749 (by decide +kernel) (by decide +kernel)
theorem fi_X8_30 : Cond.fieldLink RX8 30 (TX8 7).1 (TX8 7).2.1 (TX8 7).2.2.1 ∈ TB := tb_at 751 (by decide +kernel) (by decide +kernel)
theorem fi_X8_34 : Cond.fieldLink RX8 34 (TX8 8).1 (TX8 8).2.1 (TX8 8).2.2.1 ∈ TB := tb_at 752 (by decide +kernel) (by decide +kernel)
theorem fi_X8_37 : Cond.fieldLink RX8 37 (TX8 9).1 (TX8 9).2.1 (TX8 9).2.2.1 ∈ TB := tb_at 753 (by decide +kernel) (by decide +kernel)
theorem fi_X8_40 : Cond.fieldLink RX8 40 (TX8 10).1 (TX8 10).2.1 (TX8 10).2.2.1 ∈ TB := tb_at 754 (by decide +kernel) (by decide +kernel)
theorem fi_X8_43 : Cond.fieldLink RX8 43 (TX8 11).1 (TX8 11).2.1 (TX8 11).2.2.1 ∈ TB := tb_at 755 (by decide +kernel) (by decide +kernel)
theorem fi_X8_46 : Cond.fieldLink RX8 46 (TX8 13).1 (TX8 13).2.1 (TX8 13).2.2.1 ∈ TB := tb_at 757 (by decide +kernel) (by decide +kernel)
theorem fi_X8_49 : Cond.fieldLink RX8 49 (TX8 17).1 (TX8 17).2.1 (TX8 17).2.2.1 ∈ TB := tb_at 761 (by decide +kernel) (by decide +kernel)
theorem fi_X8_52 : Cond.fieldLink RX8 52 (TX8 18).1 (TX8 18).2.1 (TX8 18).2.2.1 ∈ TB := tb_at 762 (by decide +kernel) (by decide +kernel)
theorem fi_X8_55 : Cond.fieldLink RX8 55 (TX8 19).1 (TX8 19).2.1 (TX8 19).2.2.1 ∈ TB := tb_at 763 (by decide +kernel) (by decide +kernel)
theorem fi_X8_58 : Cond.fieldLink RX8 58 (TX8 25).1 (TX8 25).2.1 (TX8 25).2.2.1 ∈ TB := tb_at 769 (by decide +kernel) (by decide +kernel)
theorem fi_X8_61 : Cond.fieldLink RX8 61 (TX8 26).1 (TX8 26).2.1 (TX8 26).2.2.1 ∈ TB := tb_at 770 (by decide +kernel) (by decide +kernel)
theorem fi_X8_64 : Cond.fieldLink RX8 64 (TX8 27).1 (TX8 27).2.1 (TX8 27).2.2.1 ∈ TB := tb_at 771 (by decide +kernel) (by decide +kernel)
set_option maxHeartbeats 4000000 in
set_option maxRecDepth 100000 in
theorem ct_X8 (l : Launch) (D : va_G) (cI cJ cZ : ClassId) : CT l yX8_init cX8_init 1 12 17 983 6 [.null, .null, .null, .null, .null, .null, .long 0, .long 0, .null, .null, .null, .null, .int 0, .null, .int 0, .int 0, .int 0, .null, .null, .null, .int 0, .int 0, .int 0, .int 0, .int 0, .null, .null, .null] (fun _ => True) (mdW D cI cJ cZ) D cI cJ cZ := by
  refine ct_of (by decide) rfl ?_
  intro p e s m below meth c h0 A ls hAe hx hb hr hml hown hts hlocks hin hA hP hD hK hN hl
  have hS : va_S A s.heap s.heap [] := va_S.rf
  have hown : s.vm.findClass RX8 = some m.cls := hown
  refine lv_aload_n hx hb dX8_init_0 rfl (lv_at hl 0 rfl) ?_
  refine W.objInit hx hb hown (hts _ ol_X8) (hts _ tb_oi) (hts _ tb_oc) rfl (by rw [hml]; exact hl.1) rfl dX8_init_1 (Nat.le_of_ble_eq_true rfl) (Nat.le_of_ble_eq_true rfl) ?_
  refine W.eq (g2 := F0 m 4 ls []) rfl ?_
  refine lv_aload_n hx hb dX8_init_4 rfl (lv_at hl 0 rfl) ?_
  refine lv_sipush (v := 188) hx hb dX8_init_5 (by decide) ?_
  refine nw_i hx hb hts hK hP hD hS hA 188 (by decide) (by decide) (Nat.le_of_ble_eq_true rfl) (Nat.le_of_ble_eq_true rfl) (Nat.le_of_ble_eq_true rfl) dX8_init_8 (fun q8 H hP hD hS => ?_)
  have hP : va_P D vwCl ((h0, .inr (6, [.null, .null, .null, .null, .null, .null, .long 0, .long 0, .null, .null, .null, .null, .int 0, .null, .int 0, .int 0, .int 0, .null, .null, .null, .int 0, .int 0, .int 0, .int 0, .int 0, .null, .null, .null])) :: ([(q8, aI cI 188)])) H := hP
  have hD : va_D A ((h0, .inr (6, [.null, .null, .null, .null, .null, .null, .long 0, .long 0, .null, .null, .null, .null, .int 0, .null, .int 0, .int 0, .int 0, .null, .null, .null, .int 0, .int 0, .int 0, .int 0, .int 0, .null, .null, .null])) :: ([(q8, aI cI 188)])) := hD
  refine va_putF (D := D) (ci := 6) (v := .ref q8) (ty := tyX8 0) (C := RX8) (T := TX8) (N := 28) hx hb hts inX8 tyX8 tyX8_ok nmX8 hown hK hP hD hS 0 rfl rfl 0 (by decide) (hts _ fi_X8_7) (fun _ h9 => h9) rfl hin rfl (tyX8_ok 0 (by decide)) rfl rfl (Nat.le_of_ble_eq_true rfl) dX8_init_10 (fun H locs hP hD hS => ?_)
  have hP : va_P D vwCl ((h0, .inr (6, [.ref q8, .null, .null, .null, .null, .null, .long 0, .long 0, .null, .null, .null, .null, .int 0, .null, .int 0, .int 0, .int 0, .null, .null, .null, .int 0, .int 0, .int 0, .int 0, .int 0, .null, .null, .null])) :: ([(q8, aI cI 188)])) H := hP
  have hD : va_D A ((h0, .inr (6, [.ref q8, .null, .null, .null, .null, .null, .long 0, .long 0, .null, .null, .null, .null, .int 0, .null, .int 0, .int 0, .int 0, .null, .null, .null, .int 0, .int 0, .int 0, .int 0, .int 0, .null, .null, .null])) :: ([(q8, aI cI 188)])) := hD
  refine lv_aload_n hx hb dX8_init_13 rfl (lv_at hl 0 rfl) ?_
  refine lv_sipush (v := 376) hx hb dX8_init_14 (by decide) ?_
  refine nw_i hx hb hts hK hP hD hS hA 376 (by decide) (by decide) (Nat.le_of_ble_eq_true rfl) (Nat.le_of_ble_eq_true rfl) (Nat.le_of_ble_eq_true rfl) dX8_init_17 (fun q17 H hP hD hS => ?_)
  have hP : va_P D vwCl ((h0, .inr (6, [.ref q8, .null, .null, .null, .null, .null, .long 0, .long 0, .null, .null, .null, .null, .int 0, .null, .int 0, .int 0, .int 0, .null, .null, .null, .int 0, .int 0, .int 0, .int 0, .int 0, .null, .null, .null])) :: ([(q8, aI cI 188)] ++ [(q17, aI cI 376)])) H := hP
  have hD : va_D A ((h0, .inr (6, [.ref q8, .null, .null, .null, .null, .null, .long 0, .long 0, .null, .null, .null, .null, .int 0, .null, .int 0, .int 0, .int 0, .null, .null, .null, .int 0, .int 0, .int 0, .int 0, .int 0, .null, .null, .null])) :: ([(q8, aI cI 188)] ++ [(q17, aI cI 376)])) := hD
  refine va_putF (D := D) (ci := 6) (v := .ref q17) (ty := tyX8 1) (C := RX8) (T := TX8) (N := 28) hx hb hts inX8 tyX8 tyX8_ok nmX8 hown hK hP hD hS 0 rfl rfl 1 (by decide) (hts _ fi_X8_13) (fun _ h9 => h9) rfl hin rfl (tyX8_ok 1 (by decide)) rfl rfl (Nat.le_of_ble_eq_true rfl) dX8_init_19 (fun H locs hP hD hS => ?_)
  have hP : va_P D vwCl ((h0, .inr (6, [.ref q8, .ref q17, .null, .null, .null, .null, .long 0, .long 0, .null, .null, .null, .null, .int 0, .null, .int 0, .int 0, .int 0, .null, .null, .null, .int 0, .int 0, .int 0, .int 0, .int 0, .null, .null, .null])) :: ([(q8, aI cI 188)] ++ [(q17, aI cI 376)])) H := hP
  have hD : va_D A ((h0, .inr (6, [.ref q8, .ref q17, .null, .null, .null, .null, .long 0, .long 0, .null, .null, .null, .null, .int 0, .null, .int 0, .int 0, .int 0, .null, .null, .null, .int 0, .int 0, .int 0, .int 0, .int 0, .null, .null, .null])) :: ([(q8, aI cI 188)] ++ [(q17, aI cI 376)])) := hD
  refine lv_aload_n hx hb dX8_init_22 rfl (lv_at hl 0 rfl) ?_
  refine lv_bipush (v := 20) hx hb dX8_init_23 (by decide) ?_
  refine nw_j hx hb hts hK hP hD hS hA 20 (by decide) (by decide) (Nat.le_of_ble_eq_true rfl) (Nat.le_of_ble_eq_true rfl) (Nat.le_of_ble_eq_true rfl) dX8_init_25 (fun q25 H hP hD hS => ?_)
  have hP : va_P D vwCl ((h0, .inr (6, [.ref q8, .ref q17, .null, .null, .null, .null, .long 0, .long 0, .null, .null, .null, .null, .int 0, .null, .int 0, .int 0, .int 0, .null, .null, .null, .int 0, .int 0, .int 0, .int 0, .int 0, .null, .null, .null])) :: ([(q8, aI cI 188)] ++ [(q17, aI cI 376)] ++ [(q25, aJ cJ 20)])) H := hP
  have hD : va_D A ((h0, .inr (6, [.ref q8, .ref q17, .null, .null, .null, .null, .long 0, .long 0, .null, .null, .null, .null, .int 0, .null, .int 0, .int 0, .int 0, .null, .null, .null, .int 0, .int 0, .int 0, .int 0, .int 0, .null, .null, .null])) :: ([(q8, aI cI 188)] ++ [(q17, aI cI 376)] ++ [(q25, aJ cJ 20)])) := hD
  refine va_putF (D := D) (ci := 6) (v := .ref q25) (ty := tyX8 2) (C := RX8) (T := TX8) (N := 28) hx hb hts inX8 tyX8 tyX8_ok nmX8 hown hK hP hD hS 0 rfl rfl 2 (by decide) (hts _ fi_X8_16) (fun _ h9 => h9) rfl hin rfl (tyX8_ok 2 (by decide)) rfl rfl (Nat.le_of_ble_eq_true rfl) dX8_init_27 (fun H locs hP hD hS => ?_)
  have hP : va_P D vwCl ((h0, .inr (6, [.ref q8, .ref q17, .ref q25, .null, .null, .null, .long 0, .long 0, .null, .null, .null, .null, .int 0, .null, .int 0, .int 0, .int 0, .null, .null, .null, .int 0, .int 0, .int 0, .int 0, .int 0, .null, .null, .null])) :: ([(q8, aI cI 188)] ++ [(q17, aI cI 376)] ++ [(q25, aJ cJ 20)])) H := hP
  have hD : va_D A ((h0, .inr (6, [.ref q8, .ref q17, .ref q25, .null, .null, .null, .long 0, .long 0, .null, .null, .null, .null, .int 0, .null, .int 0, .int 0, .int 0, .null, .null, .null, .int 0, .int 0, .int 0, .int 0, .int 0, .null, .null, .null])) :: ([(q8, aI cI 188)] ++ [(q17, aI cI 376)] ++ [(q25, aJ cJ 20)])) := hD
  refine lv_aload_n hx hb dX8_init_30 rfl (lv_at hl 0 rfl) ?_
  refine lv_bipush (v := 40) hx hb dX8_init_31 (by decide) ?_
  refine nw_j hx hb hts hK hP hD hS hA 40 (by decide) (by decide) (Nat.le_of_ble_eq_true rfl) (Nat.le_of_ble_eq_true rfl) (Nat.le_of_ble_eq_true rfl) dX8_init_33 (fun q33 H hP hD hS => ?_)
  have hP : va_P D vwCl ((h0, .inr (6, [.ref q8, .ref q17, .ref q25, .null, .null, .null, .long 0, .long 0, .null, .null, .null, .null, .int 0, .null, .int 0, .int 0, .int 0, .null, .null, .null, .int 0, .int 0, .int 0, .int 0, .int 0, .null, .null, .null])) :: ([(q8, aI cI 188)] ++ [(q17, aI cI 376)] ++ [(q25, aJ cJ 20)] ++ [(q33, aJ cJ 40)])) H := hP
  have hD : va_D A ((h0, .inr (6, [.ref q8, .ref q17, .ref q25, .null, .null, .null, .long 0, .long 0, .null, .null, .null, .null, .int 0, .null, .int 0, .int 0, .int 0, .null, .null, .null, .int 0, .int 0, .int 0, .int 0, .int 0, .null, .null, .null])) :: ([(q8, aI cI 188)] ++ [(q17, aI cI 376)] ++ [(q25, aJ cJ 20)] ++ [(q33, aJ cJ 40)])) := hD
  refine va_putF (D := D) (ci := 6) (v := .ref q33) (ty := tyX8 3) (C := RX8) (T := TX8) (N := 28) hx hb hts inX8 tyX8 tyX8_ok nmX8 hown hK hP hD hS 0 rfl rfl 3 (by decide) (hts _ fi_X8_20) (fun _ h9 => h9) rfl hin rfl (tyX8_ok 3 (by decide)) rfl rfl (Nat.le_of_ble_eq_true rfl) dX8_init_35 (fun H locs hP hD hS => ?_)
  have hP : va_P D vwCl ((h0, .inr (6, [.ref q8, .ref q17, .ref q25, .ref q33, .null, .null, .long 0, .long 0, .null, .null, .null, .null, .int 0, .null, .int 0, .int 0, .int 0, .null, .null, .null, .int 0, .int 0, .int 0, .int 0, .int 0, .null, .null, .null])) :: ([(q8, aI cI 188)] ++ [(q17, aI cI 376)] ++ [(q25, aJ cJ 20)] ++ [(q33, aJ cJ 40)])) H := hP
  have hD : va_D A ((h0, .inr (6, [.ref q8, .ref q17, .ref q25, .ref q33, .null, .null, .long 0, .long 0, .null, .null, .null, .null, .int 0, .null, .int 0, .int 0, .int 0, .null, .null, .null, .int 0, .int 0, .int 0, .int 0, .int 0, .null, .null, .null])) :: ([(q8, aI cI 188)] ++ [(q17, aI cI 376)] ++ [(q25, aJ cJ 20)] ++ [(q33, aJ cJ 40)])) := hD
  refine lv_aload_n hx hb dX8_init_38 rfl (lv_at hl 0 rfl) ?_
  refine lv_iconst (v := 2) hx hb dX8_init_39 (by decide) ?_
  refine nw_z hx hb hts hK hP hD hS hA 2 (by decide) (by decide) (Nat.le_of_ble_eq_true rfl) (Nat.le_of_ble_eq_true rfl) (Nat.le_of_ble_eq_true rfl) dX8_init_40 (fun q40 H hP hD hS => ?_)
  have hP : va_P D vwCl ((h0, .inr (6, [.ref q8, .ref q17, .ref q25, .ref q33, .null, .null, .long 0, .long 0, .null, .null, .null, .null, .int 0, .null, .int 0, .int 0, .int 0, .null, .null, .null, .int 0, .int 0, .int 0, .int 0, .int 0, .null, .null, .null])) :: ([(q8, aI cI 188)] ++ [(q17, aI cI 376)] ++ [(q25, aJ cJ 20)] ++ [(q33, aJ cJ 40)] ++ [(q40, aI cZ 2)])) H := hP
  have hD : va_D A ((h0, .inr (6, [.ref q8, .ref q17, .ref q25, .ref q33, .null, .null, .long 0, .long 0, .null, .null, .null, .null, .int 0, .null, .int 0, .int 0, .int 0, .null, .null, .null, .int 0, .int 0, .int 0, .int 0, .int 0, .null, .null, .null])) :: ([(q8, aI cI 188)] ++ [(q17, aI cI 376)] ++ [(q25, aJ cJ 20)] ++ [(q33, aJ cJ 40)] ++ [(q40, aI cZ 2)])) := hD
  refine va_putF (D := D) (ci := 6) (v := .ref q40) (ty := tyX8 4) (C := RX8) (T := TX8) (N := 28) hx hb hts inX8 tyX8 tyX8_ok nmX8 hown hK hP hD hS 0 rfl rfl 4 (by decide) (hts _ fi_X8_23) (fun _ h9 => h9) rfl hin rfl (tyX8_ok 4 (by decide)) rfl rfl (Nat.le_of_ble_eq_true rfl) dX8_init_42 (fun H locs hP hD hS => ?_)
  have hP : va_P D vwCl ((h0, .inr (6, [.ref q8, .ref q17, .ref q25, .ref q33, .ref q40, .null, .long 0, .long 0, .null, .null, .null, .null, .int 0, .null, .int 0, .int 0, .int 0, .null, .null, .null, .int 0, .int 0, .int 0, .int 0, .int 0, .null, .null, .null])) :: ([(q8, aI cI 188)] ++ [(q17, aI cI 376)] ++ [(q25, aJ cJ 20)] ++ [(q33, aJ cJ 40)] ++ [(q40, aI cZ 2)])) H := hP
  have hD : va_D A ((h0, .inr (6, [.ref q8, .ref q17, .ref q25, .ref q33, .ref q40, .null, .long 0, .long 0, .null, .null, .null, .null, .int 0, .null, .int 0, .int 0, .int 0, .null, .null, .null, .int 0, .int 0, .int 0, .int 0, .int 0, .null, .null, .null])) :: ([(q8, aI cI 188)] ++ [(q17, aI cI 376)] ++ [(q25, aJ cJ 20)] ++ [(q33, aJ cJ 40)] ++ [(q40, aI cZ 2)])) := hD
  refine lv_aload_n hx hb dX8_init_45 rfl (lv_at hl 0 rfl) ?_
  refine lv_iconst (v := 3) hx hb dX8_init_46 (by decide) ?_
  refine nw_i hx hb hts hK hP hD hS hA 3 (by decide) (by decide) (Nat.le_of_ble_eq_true rfl) (Nat.le_of_ble_eq_true rfl) (Nat.le_of_ble_eq_true rfl) dX8_init_47 (fun q47 H hP hD hS => ?_)
  have hP : va_P D vwCl ((h0, .inr (6, [.ref q8, .ref q17, .ref q25, .ref q33, .ref q40, .null, .long 0, .long 0, .null, .null, .null, .null, .int 0, .null, .int 0, .int 0, .int 0, .null, .null, .null, .int 0, .int 0, .int 0, .int 0, .int 0, .null, .null, .null])) :: ([(q8, aI cI 188)] ++ [(q17, aI cI 376)] ++ [(q25, aJ cJ 20)] ++ [(q33, aJ cJ 40)] ++ [(q40, aI cZ 2)] ++ [(q47, aI cI 3)])) H := hP
  have hD : va_D A ((h0, .inr (6, [.ref q8, .ref q17, .ref q25, .ref q33, .ref q40, .null, .long 0, .long 0, .null, .null, .null, .null, .int 0, .null, .int 0, .int 0, .int 0, .null, .null, .null, .int 0, .int 0, .int 0, .int 0, .int 0, .null, .null, .null])) :: ([(q8, aI cI 188)] ++ [(q17, aI cI 376)] ++ [(q25, aJ cJ 20)] ++ [(q33, aJ cJ 40)] ++ [(q40, aI cZ 2)] ++ [(q47, aI cI 3)])) := hD
  refine va_putF (D := D) (ci := 6) (v := .ref q47) (ty := tyX8 5) (C := RX8) (T := TX8) (N := 28) hx hb hts inX8 tyX8 tyX8_ok nmX8 hown hK hP hD hS 0 rfl rfl 5 (by decide) (hts _ fi_X8_27) (fun _ h9 => h9) rfl hin rfl (tyX8_ok 5 (by decide)) rfl rfl (Nat.le_of_ble_eq_true rfl) dX8_init_49 (fun H locs hP hD hS => ?_)
  have hP : va_P D vwCl ((h0, .inr (6, [.ref q8, .ref q17, .ref q25, .ref q33, .ref q40, .ref q47, .long 0, .long 0, .null, .null, .null, .null, .int 0, .null, .int 0, .int 0, .int 0, .null, .null, .null, .int 0, .int 0, .int 0, .int 0, .int 0, .null, .null, .null])) :: ([(q8, aI cI 188)] ++ [(q17, aI cI 376)] ++ [(q25, aJ cJ 20)] ++ [(q33, aJ cJ 40)] ++ [(q40, aI cZ 2)] ++ [(q47, aI cI 3)])) H := hP
  have hD : va_D A ((h0, .inr (6, [.ref q8, .ref q17, .ref q25, .ref q33, .ref q40, .ref q47, .long 0, .long 0, .null, .null, .null, .null, .int 0, .null, .int 0, .int 0, .int 0, .null, .null, .null, .int 0, .int 0, .int 0, .int 0, .int 0, .null, .null, .null])) :: ([(q8, aI cI 188)] ++ [(q17, aI cI 376)] ++ [(q25, aJ cJ 20)] ++ [(q33, aJ cJ 40)] ++ [(q40, aI cZ 2)] ++ [(q47, aI cI 3)])) := hD
  refine lv_aload_n hx hb dX8_init_52 rfl (lv_at hl 0 rfl) ?_
  refine lv_lconst (v := 1) hx hb dX8_init_53 (by decide) ?_
  refine va_put (D := D) (ci := 6) (v := .long 1) (ty := tyX8 7) (C := RX8) (T := TX8) (N := 28) hx hb hts inX8 tyX8 tyX8_ok nmX8 hown hK hP hD hS 0 rfl rfl 7 (by decide) (hts _ fi_X8_30) (fun _ h9 => h9) rfl (tyX8_ok 7 (by decide)) rfl rfl (Nat.le_of_ble_eq_true rfl) dX8_init_54 (fun H locs hP hD hS => ?_)
  have hP : va_P D vwCl ((h0, .inr (6, [.ref q8, .ref q17, .ref q25, .ref q33, .ref q40, .ref q47, .long 0, .long 1, .null, .null, .null, .null, .int 0, .null, .int 0, .int 0, .int 0, .null, .null, .null, .int 0, .int 0, .int 0, .int 0, .int 0, .null, .null, .null])) :: ([(q8, aI cI 188)] ++ [(q17, aI cI 376)] ++ [(q25, aJ cJ 20)] ++ [(q33, aJ cJ 40)] ++ [(q40, aI cZ 2)] ++ [(q47, aI cI 3)])) H := hP
  have hD : va_D A ((h0, .inr (6, [.ref q8, .ref q17, .ref q25, .ref q33, .ref q40, .ref q47, .long 0, .long 1, .null, .null, .null, .null, .int 0, .null, .int 0, .int 0, .int 0, .null, .null, .null, .int 0, .int 0, .int 0, .int 0, .int 0, .null, .null, .null])) :: ([(q8, aI cI 188)] ++ [(q17, aI cI 376)] ++ [(q25, aJ cJ 20)] ++ [(q33, aJ cJ 40)] ++ [(q40, aI cZ 2)] ++ [(q47, aI cI 3)])) := hD
  refine lv_aload_n hx hb dX8_init_57 rfl (lv_at hl 0 rfl) ?_
  refine lv_bipush (v := 7) hx hb dX8_init_58 (by decide) ?_
  refine nw_i hx hb hts hK hP hD hS hA 7 (by decide) (by decide) (Nat.le_of_ble_eq_true rfl) (Nat.le_of_ble_eq_true rfl) (Nat.le_of_ble_eq_true rfl) dX8_init_60 (fun q60 H hP hD hS => ?_)
  have hP : va_P D vwCl ((h0, .inr (6, [.ref q8, .ref q17, .ref q25, .ref q33, .ref q40, .ref q47, .long 0, .long 1, .null, .null, .null, .null, .int 0, .null, .int 0, .int 0, .int 0, .null, .null, .null, .int 0, .int 0, .int 0, .int 0, .int 0, .null, .null, .null])) :: ([(q8, aI cI 188)] ++ [(q17, aI cI 376)] ++ [(q25, aJ cJ 20)] ++ [(q33, aJ cJ 40)] ++ [(q40, aI cZ 2)] ++ [(q47, aI cI 3)] ++ [(q60, aI cI 7)])) H := hP
  have hD : va_D A ((h0, .inr (6, [.ref q8, .ref q17, .ref q25, .ref q33, .ref q40, .ref q47, .long 0, .long 1, .null, .null, .null, .null, .int 0, .null, .int 0, .int 0, .int 0, .null, .null, .null, .int 0, .int 0, .int 0, .int 0, .int 0, .null, .null, .null])) :: ([(q8, aI cI 188)] ++ [(q17, aI cI 376)] ++ [(q25, aJ cJ 20)] ++ [(q33, aJ cJ 40)] ++ [(q40, aI cZ 2)] ++ [(q47, aI cI 3)] ++ [(q60, aI cI 7)])) := hD
  refine va_putF (D := D) (ci := 6) (v := .ref q60) (ty := tyX8 8) (C := RX8) (T := TX8) (N := 28) hx hb hts inX8 tyX8 tyX8_ok nmX8 hown hK hP hD hS 0 rfl rfl 8 (by decide) (hts _ fi_X8_34) (fun _ h9 => h9) rfl hin rfl (tyX8_ok 8 (by decide)) rfl rfl (Nat.le_of_ble_eq_true rfl) dX8_init_62 (fun H locs hP hD hS => ?_)
  have hP : va_P D vwCl ((h0, .inr (6, [.ref q8, .ref q17, .ref q25, .ref q33, .ref q40, .ref q47, .long 0, .long 1, .ref q60, .null, .null, .null, .int 0, .null, .int 0, .int 0, .int 0, .null, .null, .null, .int 0, .int 0, .int 0, .int 0, .int 0, .null, .null, .null])) :: ([(q8, aI cI 188)] ++ [(q17, aI cI 376)] ++ [(q25, aJ cJ 20)] ++ [(q33, aJ cJ 40)] ++ [(q40, aI cZ 2)] ++ [(q47, aI cI 3)] ++ [(q60, aI cI 7)])) H := hP
  have hD : va_D A ((h0, .inr (6, [.ref q8, .ref q17, .ref q25, .ref q33, .ref q40, .ref q47, .long 0, .long 1, .ref q60, .null, .null, .null, .int 0, .null, .int 0, .int 0, .int 0, .null, .null, .null, .int 0, .int 0, .int 0, .int 0, .int 0, .null, .null, .null])) :: ([(q8, aI cI 188)] ++ [(q17, aI cI 376)] ++ [(q25, aJ cJ 20)] ++ [(q33, aJ cJ 40)] ++ [(q40, aI cZ 2)] ++ [(q47, aI cI 3)] ++ [(q60, aI cI 7)])) := hD
  refine lv_aload_n hx hb dX8_init_65 rfl (lv_at hl 0 rfl) ?_
  refine lv_bipush (v := 7) hx hb dX8_init_66 (by decide) ?_
  refine nw_i hx hb hts hK hP hD hS hA 7 (by decide) (by decide) (Nat.le_of_ble_eq_true rfl) (Nat.le_of_ble_eq_true rfl) (Nat.le_of_ble_eq_true rfl) dX8_init_68 (fun q68 H hP hD hS => ?_)
  have hP : va_P D vwCl ((h0, .inr (6, [.ref q8, .ref q17, .ref q25, .ref q33, .ref q40, .ref q47, .long 0, .long 1, .ref q60, .null, .null, .null, .int 0, .null, .int 0, .int 0, .int 0, .null, .null, .null, .int 0, .int 0, .int 0, .int 0, .int 0, .null, .null, .null])) :: ([(q8, aI cI 188)] ++ [(q17, aI cI 376)] ++ [(q25, aJ cJ 20)] ++ [(q33, aJ cJ 40)] ++ [(q40, aI cZ 2)] ++ [(q47, aI cI 3)] ++ [(q60, aI cI 7)] ++ [(q68, aI cI 7)])) H := hP
  have hD : va_D A ((h0, .inr (6, [.ref q8, .ref q17, .ref q25, .ref q33, .ref q40, .ref q47, .long 0, .long 1, .ref q60, .null, .null, .null, .int 0, .null, .int 0, .int 0, .int 0, .null, .null, .null, .int 0, .int 0, .int 0, .int 0, .int 0, .null, .null, .null])) :: ([(q8, aI cI 188)] ++ [(q17, aI cI 376)] ++ [(q25, aJ cJ 20)] ++ [(q33, aJ cJ 40)] ++ [(q40, aI cZ 2)] ++ [(q47, aI cI 3)] ++ [(q60, aI cI 7)] ++ [(q68, aI cI 7)])) := hD
  refine va_putF (D := D) (ci := 6) (v := .ref q68) (ty := tyX8 9) (C := RX8) (T := TX8) (N := 28) hx hb hts inX8 tyX8 tyX8_ok nmX8 hown hK hP hD hS 0 rfl rfl 9 (by decide) (hts _ fi_X8_37) (fun _ h9 => h9) rfl hin rfl (tyX8_ok 9 (by decide)) rfl rfl (Nat.le_of_ble_eq_true rfl) dX8_init_70 (fun H locs hP hD hS => ?_)
  have hP : va_P D vwCl ((h0, .inr (6, [.ref q8, .ref q17, .ref q25, .ref q33, .ref q40, .ref q47, .long 0, .long 1, .ref q60, .ref q68, .null, .null, .int 0, .null, .int 0, .int 0, .int 0, .null, .null, .null, .int 0, .int 0, .int 0, .int 0, .int 0, .null, .null, .null])) :: ([(q8, aI cI 188)] ++ [(q17, aI cI 376)] ++ [(q25, aJ cJ 20)] ++ [(q33, aJ cJ 40)] ++ [(q40, aI cZ 2)] ++ [(q47, aI cI 3)] ++ [(q60, aI cI 7)] ++ [(q68, aI cI 7)])) H := hP
  have hD : va_D A ((h0, .inr (6, [.ref q8, .ref q17, .ref q25, .ref q33, .ref q40, .ref q47, .long 0, .long 1, .ref q60, .ref q68, .null, .null, .int 0, .null, .int 0, .int 0, .int 0, .null, .null, .null, .int 0, .int 0, .int 0, .int 0, .int 0, .null, .null, .null])) :: ([(q8, aI cI 188)] ++ [(q17, aI cI 376)] ++ [(q25, aJ cJ 20)] ++ [(q33, aJ cJ 40)] ++ [(q40, aI cZ 2)] ++ [(q47, aI cI 3)] ++ [(q60, aI cI 7)] ++ [(q68, aI cI 7)])) := hD
  refine lv_aload_n hx hb dX8_init_73 rfl (lv_at hl 0 rfl) ?_
  refine lv_bipush (v := 7) hx hb dX8_init_74 (by decide) ?_
  refine nw_j hx hb hts hK hP hD hS hA 7 (by decide) (by decide) (Nat.le_of_ble_eq_true rfl) (Nat.le_of_ble_eq_true rfl) (Nat.le_of_ble_eq_true rfl) dX8_init_76 (fun q76 H hP hD hS => ?_)
  have hP : va_P D vwCl ((h0, .inr (6, [.ref q8, .ref q17, .ref q25, .ref q33, .ref q40, .ref q47, .long 0, .long 1, .ref q60, .ref q68, .null, .null, .int 0, .null, .int 0, .int 0, .int 0, .null, .null, .null, .int 0, .int 0, .int 0, .int 0, .int 0, .null, .null, .null])) :: ([(q8, aI cI 188)] ++ [(q17, aI cI 376)] ++ [(q25, aJ cJ 20)] ++ [(q33, aJ cJ 40)] ++ [(q40, aI cZ 2)] ++ [(q47, aI cI 3)] ++ [(q60, aI cI 7)] ++ [(q68, aI cI 7)] ++ [(q76, aJ cJ 7)])) H := hP
  have hD : va_D A ((h0, .inr (6, [.ref q8, .ref q17, .ref q25, .ref q33, .ref q40, .ref q47, .long 0, .long 1, .ref q60, .ref q68, .null, .null, .int 0, .null, .int 0, .int 0, .int 0, .null, .null, .null, .int 0, .int 0, .int 0, .int 0, .int 0, .null, .null, .null])) :: ([(q8, aI cI 188)] ++ [(q17, aI cI 376)] ++ [(q25, aJ cJ 20)] ++ [(q33, aJ cJ 40)] ++ [(q40, aI cZ 2)] ++ [(q47, aI cI 3)] ++ [(q60, aI cI 7)] ++ [(q68, aI cI 7)] ++ [(q76, aJ cJ 7)])) := hD
  refine va_putF (D := D) (ci := 6) (v := .ref q76) (ty := tyX8 10) (C := RX8) (T := TX8) (N := 28) hx hb hts inX8 tyX8 tyX8_ok nmX8 hown hK hP hD hS 0 rfl rfl 10 (by decide) (hts _ fi_X8_40) (fun _ h9 => h9) rfl hin rfl (tyX8_ok 10 (by decide)) rfl rfl (Nat.le_of_ble_eq_true rfl) dX8_init_78 (fun H locs hP hD hS => ?_)
  have hP : va_P D vwCl ((h0, .inr (6, [.ref q8, .ref q17, .ref q25, .ref q33, .ref q40, .ref q47, .long 0, .long 1, .ref q60, .ref q68, .ref q76, .null, .int 0, .null, .int 0, .int 0, .int 0, .null, .null, .null, .int 0, .int 0, .int 0, .int 0, .int 0, .null, .null, .null])) :: ([(q8, aI cI 188)] ++ [(q17, aI cI 376)] ++ [(q25, aJ cJ 20)] ++ [(q33, aJ cJ 40)] ++ [(q40, aI cZ 2)] ++ [(q47, aI cI 3)] ++ [(q60, aI cI 7)] ++ [(q68, aI cI 7)] ++ [(q76, aJ cJ 7)])) H := hP
  have hD : va_D A ((h0, .inr (6, [.ref q8, .ref q17, .ref q25, .ref q33, .ref q40, .ref q47, .long 0, .long 1, .ref q60, .ref q68, .ref q76, .null, .int 0, .null, .int 0, .int 0, .int 0, .null, .null, .null, .int 0, .int 0, .int 0, .int 0, .int 0, .null, .null, .null])) :: ([(q8, aI cI 188)] ++ [(q17, aI cI 376)] ++ [(q25, aJ cJ 20)] ++ [(q33, aJ cJ 40)] ++ [(q40, aI cZ 2)] ++ [(q47, aI cI 3)] ++ [(q60, aI cI 7)] ++ [(q68, aI cI 7)] ++ [(q76, aJ cJ 7)])) := hD
  refine lv_aload_n hx hb dX8_init_81 rfl (lv_at hl 0 rfl) ?_
  refine lv_bipush (v := 7) hx hb dX8_init_82 (by decide) ?_
  refine nw_i hx hb hts hK hP hD hS hA 7 (by decide) (by decide) (Nat.le_of_ble_eq_true rfl) (Nat.le_of_ble_eq_true rfl) (Nat.le_of_ble_eq_true rfl) dX8_init_84 (fun q84 H hP hD hS => ?_)
  have hP : va_P D vwCl ((h0, .inr (6, [.ref q8, .ref q17, .ref q25, .ref q33, .ref q40, .ref q47, .long 0, .long 1, .ref q60, .ref q68, .ref q76, .null, .int 0, .null, .int 0, .int 0, .int 0, .null, .null, .null, .int 0, .int 0, .int 0, .int 0, .int 0, .null, .null, .null])) :: ([(q8, aI cI 188)] ++ [(q17, aI cI 376)] ++ [(q25, aJ cJ 20)] ++ [(q33, aJ cJ 40)] ++ [(q40, aI cZ 2)] ++ [(q47, aI cI 3)] ++ [(q60, aI cI 7)] ++ [(q68, aI cI 7)] ++ [(q76, aJ cJ 7)] ++ [(q84, aI cI 7)])) H := hP
  have hD : va_D A ((h0, .inr (6, [.ref q8, .ref q17, .ref q25, .ref q33, .ref q40, .ref q47, .long 0, .long 1, .ref q60, .ref q68, .ref q76, .null, .int 0, .null, .int 0, .int 0, .int 0, .null, .null, .null, .int 0, .int 0, .int 0, .int 0, .int 0, .null, .null, .null])) :: ([(q8, aI cI 188)] ++ [(q17, aI cI 376)] ++ [(q25, aJ cJ 20)] ++ [(q33, aJ cJ 40)] ++ [(q40, aI cZ 2)] ++ [(q47, aI cI 3)] ++ [(q60, aI cI 7)] ++ [(q68, aI cI 7)] ++ [(q76, aJ cJ 7)] ++ [(q84, aI cI 7)])) := hD
  refine va_putF (D := D) (ci := 6) (v := .ref q84) (ty := tyX8 11) (C := RX8) (T := TX8) (N := 28) hx hb hts inX8 tyX8 tyX8_ok nmX8 hown hK hP hD hS 0 rfl rfl 11 (by decide) (hts _ fi_X8_43) (fun _ h9 => h9) rfl hin rfl (tyX8_ok 11 (by decide)) rfl rfl (Nat.le_of_ble_eq_true rfl) dX8_init_86 (fun H locs hP hD hS => ?_)
  have hP : va_P D vwCl ((h0, .inr (6, [.ref q8, .ref q17, .ref q25, .ref q33, .ref q40, .ref q47, .long 0, .long 1, .ref q60, .ref q68, .ref q76, .ref q84, .int 0, .null, .int 0, .int 0, .int 0, .null, .null, .null, .int 0, .int 0, .int 0, .int 0, .int 0, .null, .null, .null])) :: ([(q8, aI cI 188)] ++ [(q17, aI cI 376)] ++ [(q25, aJ cJ 20)] ++ [(q33, aJ cJ 40)] ++ [(q40, aI cZ 2)] ++ [(q47, aI cI 3)] ++ [(q60, aI cI 7)] ++ [(q68, aI cI 7)] ++ [(q76, aJ cJ 7)] ++ [(q84, aI cI 7)])) H := hP
  have hD : va_D A ((h0, .inr (6, [.ref q8, .ref q17, .ref q25, .ref q33, .ref q40, .ref q47, .long 0, .long 1, .ref q60, .ref q68, .ref q76, .ref q84, .int 0, .null, .int 0, .int 0, .int 0, .null, .null, .null, .int 0, .int 0, .int 0, .int 0, .int 0, .null, .null, .null])) :: ([(q8, aI cI 188)] ++ [(q17, aI cI 376)] ++ [(q25, aJ cJ 20)] ++ [(q33, aJ cJ 40)] ++ [(q40, aI cZ 2)] ++ [(q47, aI cI 3)] ++ [(q60, aI cI 7)] ++ [(q68, aI cI 7)] ++ [(q76, aJ cJ 7)] ++ [(q84, aI cI 7)])) := hD
  refine lv_aload_n hx hb dX8_init_89 rfl (lv_at hl 0 rfl) ?_
  refine lv_bipush (v := 6) hx hb dX8_init_90 (by decide) ?_
  refine nw_i hx hb hts hK hP hD hS hA 6 (by decide) (by decide) (Nat.le_of_ble_eq_true rfl) (Nat.le_of_ble_eq_true rfl) (Nat.le_of_ble_eq_true rfl) dX8_init_92 (fun q92 H hP hD hS => ?_)
  have hP : va_P D vwCl ((h0, .inr (6, [.ref q8, .ref q17, .ref q25, .ref q33, .ref q40, .ref q47, .long 0, .long 1, .ref q60, .ref q68, .ref q76, .ref q84, .int 0, .null, .int 0, .int 0, .int 0, .null, .null, .null, .int 0, .int 0, .int 0, .int 0, .int 0, .null, .null, .null])) :: ([(q8, aI cI 188)] ++ [(q17, aI cI 376)] ++ [(q25, aJ cJ 20)] ++ [(q33, aJ cJ 40)] ++ [(q40, aI cZ 2)] ++ [(q47, aI cI 3)] ++ [(q60, aI cI 7)] ++ [(q68, aI cI 7)] ++ [(q76, aJ cJ 7)] ++ [(q84, aI cI 7)] ++ [(q92, aI cI 6)])) H := hP
  have hD : va_D A ((h0, .inr (6, [.ref q8, .ref q17, .ref q25, .ref q33, .ref q40, .ref q47, .long 0, .long 1, .ref q60, .ref q68, .ref q76, .ref q84, .int 0, .null, .int 0, .int 0, .int 0, .null, .null, .null, .int 0, .int 0, .int 0, .int 0, .int 0, .null, .null, .null])) :: ([(q8, aI cI 188)] ++ [(q17, aI cI 376)] ++ [(q25, aJ cJ 20)] ++ [(q33, aJ cJ 40)] ++ [(q40, aI cZ 2)] ++ [(q47, aI cI 3)] ++ [(q60, aI cI 7)] ++ [(q68, aI cI 7)] ++ [(q76, aJ cJ 7)] ++ [(q84, aI cI 7)] ++ [(q92, aI cI 6)])) := hD
  refine va_putF (D := D) (ci := 6) (v := .ref q92) (ty := tyX8 13) (C := RX8) (T := TX8) (N := 28) hx hb hts inX8 tyX8 tyX8_ok nmX8 hown hK hP hD hS 0 rfl rfl 13 (by decide) (hts _ fi_X8_46) (fun _ h9 => h9) rfl hin rfl (tyX8_ok 13 (by decide)) rfl rfl (Nat.le_of_ble_eq_true rfl) dX8_init_94 (fun H locs hP hD hS => ?_)
  have hP : va_P D vwCl ((h0, .inr (6, [.ref q8, .ref q17, .ref q25, .ref q33, .ref q40, .ref q47, .long 0, .long 1, .ref q60, .ref q68, .ref q76, .ref q84, .int 0, .ref q92, .int 0, .int 0, .int 0, .null, .null, .null, .int 0, .int 0, .int 0, .int 0, .int 0, .null, .null, .null])) :: ([(q8, aI cI 188)] ++ [(q17, aI cI 376)] ++ [(q25, aJ cJ 20)] ++ [(q33, aJ cJ 40)] ++ [(q40, aI cZ 2)] ++ [(q47, aI cI 3)] ++ [(q60, aI cI 7)] ++ [(q68, aI cI 7)] ++ [(q76, aJ cJ 7)] ++ [(q84, aI cI 7)] ++ [(q92, aI cI 6)])) H := hP
  have hD : va_D A ((h0, .inr (6, [.ref q8, .ref q17, .ref q25, .ref q33, .ref q40, .ref q47, .long 0, .long 1, .ref q60, .ref q68, .ref q76, .ref q84, .int 0, .ref q92, .int 0, .int 0, .int 0, .null, .null, .null, .int 0, .int 0, .int 0, .int 0, .int 0, .null, .null, .null])) :: ([(q8, aI cI 188)] ++ [(q17, aI cI 376)] ++ [(q25, aJ cJ 20)] ++ [(q33, aJ cJ 40)] ++ [(q40, aI cZ 2)] ++ [(q47, aI cI 3)] ++ [(q60, aI cI 7)] ++ [(q68, aI cI 7)] ++ [(q76, aJ cJ 7)] ++ [(q84, aI cI 7)] ++ [(q92, aI cI 6)])) := hD
  refine lv_aload_n hx hb dX8_init_97 rfl (lv_at hl 0 rfl) ?_
  refine lv_bipush (v := 96) hx hb dX8_init_98 (by decide) ?_
  refine nw_z hx hb hts hK hP hD hS hA 96 (by decide) (by decide) (Nat.le_of_ble_eq_true rfl) (Nat.le_of_ble_eq_true rfl) (Nat.le_of_ble_eq_true rfl) dX8_init_100 (fun q100 H hP hD hS => ?_)
  have hP : va_P D vwCl ((h0, .inr (6, [.ref q8, .ref q17, .ref q25, .ref q33, .ref q40, .ref q47, .long 0, .long 1, .ref q60, .ref q68, .ref q76, .ref q84, .int 0, .ref q92, .int 0, .int 0, .int 0, .null, .null, .null, .int 0, .int 0, .int 0, .int 0, .int 0, .null, .null, .null])) :: ([(q8, aI cI 188)] ++ [(q17, aI cI 376)] ++ [(q25, aJ cJ 20)] ++ [(q33, aJ cJ 40)] ++ [(q40, aI cZ 2)] ++ [(q47, aI cI 3)] ++ [(q60, aI cI 7)] ++ [(q68, aI cI 7)] ++ [(q76, aJ cJ 7)] ++ [(q84, aI cI 7)] ++ [(q92, aI cI 6)] ++ [(q100, aI cZ 96)])) H := hP
  have hD : va_D A ((h0, .inr (6, [.ref q8, .ref q17, .ref q25, .ref q33, .ref q40, .ref q47, .long 0, .long 1, .ref q60, .ref q68, .ref q76, .ref q84, .int 0, .ref q92, .int 0, .int 0, .int 0, .null, .null, .null, .int 0, .int 0, .int 0, .int 0, .int 0, .null, .null, .null])) :: ([(q8, aI cI 188)] ++ [(q17, aI cI 376)] ++ [(q25, aJ cJ 20)] ++ [(q33, aJ cJ 40)] ++ [(q40, aI cZ 2)] ++ [(q47, aI cI 3)] ++ [(q60, aI cI 7)] ++ [(q68, aI cI 7)] ++ [(q76, aJ cJ 7)] ++ [(q84, aI cI 7)] ++ [(q92, aI cI 6)] ++ [(q100, aI cZ 96)])) := hD
  refine va_putF (D := D) (ci := 6) (v := .ref q100) (ty := tyX8 17) (C := RX8) (T := TX8) (N := 28) hx hb hts inX8 tyX8 tyX8_ok nmX8 hown hK hP hD hS 0 rfl rfl 17 (by decide) (hts _ fi_X8_49) (fun _ h9 => h9) rfl hin rfl (tyX8_ok 17 (by decide)) rfl rfl (Nat.le_of_ble_eq_true rfl) dX8_init_102 (fun H locs hP hD hS => ?_)
  have hP : va_P D vwCl ((h0, .inr (6, [.ref q8, .ref q17, .ref q25, .ref q33, .ref q40, .ref q47, .long 0, .long 1, .ref q60, .ref q68, .ref q76, .ref q84, .int 0, .ref q92, .int 0, .int 0, .int 0, .ref q100, .null, .null, .int 0, .int 0, .int 0, .int 0, .int 0, .null, .null, .null])) :: ([(q8, aI cI 188)] ++ [(q17, aI cI 376)] ++ [(q25, aJ cJ 20)] ++ [(q33, aJ cJ 40)] ++ [(q40, aI cZ 2)] ++ [(q47, aI cI 3)] ++ [(q60, aI cI 7)] ++ [(q68, aI cI 7)] ++ [(q76, aJ cJ 7)] ++ [(q84, aI cI 7)] ++ [(q92, aI cI 6)] ++ [(q100, aI cZ 96)])) H := hP
  have hD : va_D A ((h0, .inr (6, [.ref q8, .ref q17, .ref q25, .ref q33, .ref q40, .ref q47, .long 0, .long 1, .ref q60, .ref q68, .ref q76, .ref q84, .int 0, .ref q92, .int 0, .int 0, .int 0, .ref q100, .null, .null, .int 0, .int 0, .int 0, .int 0, .int 0, .null, .null, .null])) :: ([(q8, aI cI 188)] ++ [(q17, aI cI 376)] ++ [(q25, aJ cJ 20)] ++ [(q33, aJ cJ 40)] ++ [(q40, aI cZ 2)] ++ [(q47, aI cI 3)] ++ [(q60, aI cI 7)] ++ [(q68, aI cI 7)] ++ [(q76, aJ cJ 7)] ++ [(q84, aI cI 7)] ++ [(q92, aI cI 6)] ++ [(q100, aI cZ 96)])) := hD
  refine lv_aload_n hx hb dX8_init_105 rfl (lv_at hl 0 rfl) ?_
  refine lv_bipush (v := 14) hx hb dX8_init_106 (by decide) ?_
  refine nw_j hx hb hts hK hP hD hS hA 14 (by decide) (by decide) (Nat.le_of_ble_eq_true rfl) (Nat.le_of_ble_eq_true rfl) (Nat.le_of_ble_eq_true rfl) dX8_init_108 (fun q108 H hP hD hS => ?_)
  have hP : va_P D vwCl ((h0, .inr (6, [.ref q8, .ref q17, .ref q25, .ref q33, .ref q40, .ref q47, .long 0, .long 1, .ref q60, .ref q68, .ref q76, .ref q84, .int 0, .ref q92, .int 0, .int 0, .int 0, .ref q100, .null, .null, .int 0, .int 0, .int 0, .int 0, .int 0, .null, .null, .null])) :: ([(q8, aI cI 188)] ++ [(q17, aI cI 376)] ++ [(q25, aJ cJ 20)] ++ [(q33, aJ cJ 40)] ++ [(q40, aI cZ 2)] ++ [(q47, aI cI 3)] ++ [(q60, aI cI 7)] ++ [(q68, aI cI 7)] ++ [(q76, aJ cJ 7)] ++ [(q84, aI cI 7)] ++ [(q92, aI cI 6)] ++ [(q100, aI cZ 96)] ++ [(q108, aJ cJ 14)])) H := hP
  have hD : va_D A ((h0, .inr (6, [.ref q8, .ref q17, .ref q25, .ref q33, .ref q40, .ref q47, .long 0, .long 1, .ref q60, .ref q68, .ref q76, .ref q84, .int 0, .ref q92, .int 0, .int 0, .int 0, .ref q100, .null, .null, .int 0, .int 0, .int 0, .int 0, .int 0, .null, .null, .null])) :: ([(q8, aI cI 188)] ++ [(q17, aI cI 376)] ++ [(q25, aJ cJ 20)] ++ [(q33, aJ cJ 40)] ++ [(q40, aI cZ 2)] ++ [(q47, aI cI 3)] ++ [(q60, aI cI 7)] ++ [(q68, aI cI 7)] ++ [(q76, aJ cJ 7)] ++ [(q84, aI cI 7)] ++ [(q92, aI cI 6)] ++ [(q100, aI cZ 96)] ++ [(q108, aJ cJ 14)])) := hD
  refine va_putF (D := D) (ci := 6) (v := .ref q108) (ty := tyX8 18) (C := RX8) (T := TX8) (N := 28) hx hb hts inX8 tyX8 tyX8_ok nmX8 hown hK hP hD hS 0 rfl rfl 18 (by decide) (hts _ fi_X8_52) (fun _ h9 => h9) rfl hin rfl (tyX8_ok 18 (by decide)) rfl rfl (Nat.le_of_ble_eq_true rfl) dX8_init_110 (fun H locs hP hD hS => ?_)
  have hP : va_P D vwCl ((h0, .inr (6, [.ref q8, .ref q17, .ref q25, .ref q33, .ref q40, .ref q47, .long 0, .long 1, .ref q60, .ref q68, .ref q76, .ref q84, .int 0, .ref q92, .int 0, .int 0, .int 0, .ref q100, .ref q108, .null, .int 0, .int 0, .int 0, .int 0, .int 0, .null, .null, .null])) :: ([(q8, aI cI 188)] ++ [(q17, aI cI 376)] ++ [(q25, aJ cJ 20)] ++ [(q33, aJ cJ 40)] ++ [(q40, aI cZ 2)] ++ [(q47, aI cI 3)] ++ [(q60, aI cI 7)] ++ [(q68, aI cI 7)] ++ [(q76, aJ cJ 7)] ++ [(q84, aI cI 7)] ++ [(q92, aI cI 6)] ++ [(q100, aI cZ 96)] ++ [(q108, aJ cJ 14)])) H := hP
  have hD : va_D A ((h0, .inr (6, [.ref q8, .ref q17, .ref q25, .ref q33, .ref q40, .ref q47, .long 0, .long 1, .ref q60, .ref q68, .ref q76, .ref q84, .int 0, .ref q92, .int 0, .int 0, .int 0, .ref q100, .ref q108, .null, .int 0, .int 0, .int 0, .int 0, .int 0, .null, .null, .null])) :: ([(q8, aI cI 188)] ++ [(q17, aI cI 376)] ++ [(q25, aJ cJ 20)] ++ [(q33, aJ cJ 40)] ++ [(q40, aI cZ 2)] ++ [(q47, aI cI 3)] ++ [(q60, aI cI 7)] ++ [(q68, aI cI 7)] ++ [(q76, aJ cJ 7)] ++ [(q84, aI cI 7)] ++ [(q92, aI cI 6)] ++ [(q100, aI cZ 96)] ++ [(q108, aJ cJ 14)])) := hD
  refine lv_aload_n hx hb dX8_init_113 rfl (lv_at hl 0 rfl) ?_
  refine lv_sipush (v := 150) hx hb dX8_init_114 (by decide) ?_
  refine nw_i hx hb hts hK hP hD hS hA 150 (by decide) (by decide) (Nat.le_of_ble_eq_true rfl) (Nat.le_of_ble_eq_true rfl) (Nat.le_of_ble_eq_true rfl) dX8_init_117 (fun q117 H hP hD hS => ?_)
  have hP : va_P D vwCl ((h0, .inr (6, [.ref q8, .ref q17, .ref q25, .ref q33, .ref q40, .ref q47, .long 0, .long 1, .ref q60, .ref q68, .ref q76, .ref q84, .int 0, .ref q92, .int 0, .int 0, .int 0, .ref q100, .ref q108, .null, .int 0, .int 0, .int 0, .int 0, .int 0, .null, .null, .null])) :: ([(q8, aI cI 188)] ++ [(q17, aI cI 376)] ++ [(q25, aJ cJ 20)] ++ [(q33, aJ cJ 40)] ++ [(q40, aI cZ 2)] ++ [(q47, aI cI 3)] ++ [(q60, aI cI 7)] ++ [(q68, aI cI 7)] ++ [(q76, aJ cJ 7)] ++ [(q84, aI cI 7)] ++ [(q92, aI cI 6)] ++ [(q100, aI cZ 96)] ++ [(q108, aJ cJ 14)] ++ [(q117, aI cI 150)])) H := hP
  have hD : va_D A ((h0, .inr (6, [.ref q8, .ref q17, .ref q25, .ref q33, .ref q40, .ref q47, .long 0, .long 1, .ref q60, .ref q68, .ref q76, .ref q84, .int 0, .ref q92, .int 0, .int 0, .int 0, .ref q100, .ref q108, .null, .int 0, .int 0, .int 0, .int 0, .int 0, .null, .null, .null])) :: ([(q8, aI cI 188)] ++ [(q17, aI cI 376)] ++ [(q25, aJ cJ 20)] ++ [(q33, aJ cJ 40)] ++ [(q40, aI cZ 2)] ++ [(q47, aI cI 3)] ++ [(q60, aI cI 7)] ++ [(q68, aI cI 7)] ++ [(q76, aJ cJ 7)] ++ [(q84, aI cI 7)] ++ [(q92, aI cI 6)] ++ [(q100, aI cZ 96)] ++ [(q108, aJ cJ 14)] ++ [(q117, aI cI 150)])) := hD
  refine va_putF (D := D) (ci := 6) (v := .ref q117) (ty := tyX8 19) (C := RX8) (T := TX8) (N := 28) hx hb hts inX8 tyX8 tyX8_ok nmX8 hown hK hP hD hS 0 rfl rfl 19 (by decide) (hts _ fi_X8_55) (fun _ h9 => h9) rfl hin rfl (tyX8_ok 19 (by decide)) rfl rfl (Nat.le_of_ble_eq_true rfl) dX8_init_119 (fun H locs hP hD hS => ?_)
  have hP : va_P D vwCl ((h0, .inr (6, [.ref q8, .ref q17, .ref q25, .ref q33, .ref q40, .ref q47, .long 0, .long 1, .ref q60, .ref q68, .ref q76, .ref q84, .int 0, .ref q92, .int 0, .int 0, .int 0, .ref q100, .ref q108, .ref q117, .int 0, .int 0, .int 0, .int 0, .int 0, .null, .null, .null])) :: ([(q8, aI cI 188)] ++ [(q17, aI cI 376)] ++ [(q25, aJ cJ 20)] ++ [(q33, aJ cJ 40)] ++ [(q40, aI cZ 2)] ++ [(q47, aI cI 3)] ++ [(q60, aI cI 7)] ++ [(q68, aI cI 7)] ++ [(q76, aJ cJ 7)] ++ [(q84, aI cI 7)] ++ [(q92, aI cI 6)] ++ [(q100, aI cZ 96)] ++ [(q108, aJ cJ 14)] ++ [(q117, aI cI 150)])) H := hP
  have hD : va_D A ((h0, .inr (6, [.ref q8, .ref q17, .ref q25, .ref q33, .ref q40, .ref q47, .long 0, .long 1, .ref q60, .ref q68, .ref q76, .ref q84, .int 0, .ref q92, .int 0, .int 0, .int 0, .ref q100, .ref q108, .ref q117, .int 0, .int 0, .int 0, .int 0, .int 0, .null, .null, .null])) :: ([(q8, aI cI 188)] ++ [(q17, aI cI 376)] ++ [(q25, aJ cJ 20)] ++ [(q33, aJ cJ 40)] ++ [(q40, aI cZ 2)] ++ [(q47, aI cI 3)] ++ [(q60, aI cI 7)] ++ [(q68, aI cI 7)] ++ [(q76, aJ cJ 7)] ++ [(q84, aI cI 7)] ++ [(q92, aI cI 6)] ++ [(q100, aI cZ 96)] ++ [(q108, aJ cJ 14)] ++ [(q117, aI cI 150)])) := hD
  refine lv_aload_n hx hb dX8_init_122 rfl (lv_at hl 0 rfl) ?_
  refine lv_bipush (v := 52) hx hb dX8_init_123 (by decide) ?_
  refine nw_i hx hb hts hK hP hD hS hA 52 (by decide) (by decide) (Nat.le_of_ble_eq_true rfl) (Nat.le_of_ble_eq_true rfl) (Nat.le_of_ble_eq_true rfl) dX8_init_125 (fun q125 H hP hD hS => ?_)
  have hP : va_P D vwCl ((h0, .inr (6, [.ref q8, .ref q17, .ref q25, .ref q33, .ref q40, .ref q47, .long 0, .long 1, .ref q60, .ref q68, .ref q76, .ref q84, .int 0, .ref q92, .int 0, .int 0, .int 0, .ref q100, .ref q108, .ref q117, .int 0, .int 0, .int 0, .int 0, .int 0, .null, .null, .null])) :: ([(q8, aI cI 188)] ++ [(q17, aI cI 376)] ++ [(q25, aJ cJ 20)] ++ [(q33, aJ cJ 40)] ++ [(q40, aI cZ 2)] ++ [(q47, aI cI 3)] ++ [(q60, aI cI 7)] ++ [(q68, aI cI 7)] ++ [(q76, aJ cJ 7)] ++ [(q84, aI cI 7)] ++ [(q92, aI cI 6)] ++ [(q100, aI cZ 96)] ++ [(q108, aJ cJ 14)] ++ [(q117, aI cI 150)] ++ [(q125, aI cI 52)])) H := hP
  have hD : va_D A ((h0, .inr (6, [.ref q8, .ref q17, .ref q25, .ref q33, .ref q40, .ref q47, .long 0, .long 1, .ref q60, .ref q68, .ref q76, .ref q84, .int 0, .ref q92, .int 0, .int 0, .int 0, .ref q100, .ref q108, .ref q117, .int 0, .int 0, .int 0, .int 0, .int 0, .null, .null, .null])) :: ([(q8, aI cI 188)] ++ [(q17, aI cI 376)] ++ [(q25, aJ cJ 20)] ++ [(q33, aJ cJ 40)] ++ [(q40, aI cZ 2)] ++ [(q47, aI cI 3)] ++ [(q60, aI cI 7)] ++ [(q68, aI cI 7)] ++ [(q76, aJ cJ 7)] ++ [(q84, aI cI 7)] ++ [(q92, aI cI 6)] ++ [(q100, aI cZ 96)] ++ [(q108, aJ cJ 14)] ++ [(q117, aI cI 150)] ++ [(q125, aI cI 52)])) := hD
  refine va_putF (D := D) (ci := 6) (v := .ref q125) (ty := tyX8 25) (C := RX8) (T := TX8) (N := 28) hx hb hts inX8 tyX8 tyX8_ok nmX8 hown hK hP hD hS 0 rfl rfl 25 (by decide) (hts _ fi_X8_58) (fun _ h9 => h9) rfl hin rfl (tyX8_ok 25 (by decide)) rfl rfl (Nat.le_of_ble_eq_true rfl) dX8_init_127 (fun H locs hP hD hS => ?_)
  have hP : va_P D vwCl ((h0, .inr (6, [.ref q8, .ref q17, .ref q25, .ref q33, .ref q40, .ref q47, .long 0, .long 1, .ref q60, .ref q68, .ref q76, .ref q84, .int 0, .ref q92, .int 0, .int 0, .int 0, .ref q100, .ref q108, .ref q117, .int 0, .int 0, .int 0, .int 0, .int 0, .ref q125, .null, .null])) :: ([(q8, aI cI 188)] ++ [(q17, aI cI 376)] ++ [(q25, aJ cJ 20)] ++ [(q33, aJ cJ 40)] ++ [(q40, aI cZ 2)] ++ [(q47, aI cI 3)] ++ [(q60, aI cI 7)] ++ [(q68, aI cI 7)] ++ [(q76, aJ cJ 7)] ++ [(q84, aI cI 7)] ++ [(q92, aI cI 6)] ++ [(q100, aI cZ 96)] ++ [(q108, aJ cJ 14)] ++ [(q117, aI cI 150)] ++ [(q125, aI cI 52)])) H := hP
  have hD : va_D A ((h0, .inr (6, [.ref q8, .ref q17, .ref q25, .ref q33, .ref q40, .ref q47, .long 0, .long 1, .ref q60, .ref q68, .ref q76, .ref q84, .int 0, .ref q92, .int 0, .int 0, .int 0, .ref q100, .ref q108, .ref q117, .int 0, .int 0, .int 0, .int 0, .int 0, .ref q125, .null, .null])) :: ([(q8, aI cI 188)] ++ [(q17, aI cI 376)] ++ [(q25, aJ cJ 20)] ++ [(q33, aJ cJ 40)] ++ [(q40, aI cZ 2)] ++ [(q47, aI cI 3)] ++ [(q60, aI cI 7)] ++ [(q68, aI cI 7)] ++ [(q76, aJ cJ 7)] ++ [(q84, aI cI 7)] ++ [(q92, aI cI 6)] ++ [(q100, aI cZ 96)] ++ [(q108, aJ cJ 14)] ++ [(q117, aI cI 150)] ++ [(q125, aI cI 52)])) := hD
  refine lv_aload_n hx hb dX8_init_130 rfl (lv_at hl 0 rfl) ?_
  refine lv_iconst (v := 4) hx hb dX8_init_131 (by decide) ?_
  refine nw_j hx hb hts hK hP hD hS hA 4 (by decide) (by decide) (Nat.le_of_ble_eq_true rfl) (Nat.le_of_ble_eq_true rfl) (Nat.le_of_ble_eq_true rfl) dX8_init_132 (fun q132 H hP hD hS => ?_)
  have hP : va_P D vwCl ((h0, .inr (6, [.ref q8, .ref q17, .ref q25, .ref q33, .ref q40, .ref q47, .long 0, .long 1, .ref q60, .ref q68, .ref q76, .ref q84, .int 0, .ref q92, .int 0, .int 0, .int 0, .ref q100, .ref q108, .ref q117, .int 0, .int 0, .int 0, .int 0, .int 0, .ref q125, .null, .null])) :: ([(q8, aI cI 188)] ++ [(q17, aI cI 376)] ++ [(q25, aJ cJ 20)] ++ [(q33, aJ cJ 40)] ++ [(q40, aI cZ 2)] ++ [(q47, aI cI 3)] ++ [(q60, aI cI 7)] ++ [(q68, aI cI 7)] ++ [(q76, aJ cJ 7)] ++ [(q84, aI cI 7)] ++ [(q92, aI cI 6)] ++ [(q100, aI cZ 96)] ++ [(q108, aJ cJ 14)] ++ [(q117, aI cI 150)] ++ [(q125, aI cI 52)] ++ [(q132, aJ cJ 4)])) H := hP
  have hD : va_D A ((h0, .inr (6, [.ref q8, .ref q17, .ref q25, .ref q33, .ref q40, .ref q47, .long 0, .long 1, .ref q60, .ref q68, .ref q76, .ref q84, .int 0, .ref q92, .int 0, .int 0, .int 0, .ref q100, .ref q108, .ref q117, .int 0, .int 0, .int 0, .int 0, .int 0, .ref q125, .null, .null])) :: ([(q8, aI cI 188)] ++ [(q17, aI cI 376)] ++ [(q25, aJ cJ 20)] ++ [(q33, aJ cJ 40)] ++ [(q40, aI cZ 2)] ++ [(q47, aI cI 3)] ++ [(q60, aI cI 7)] ++ [(q68, aI cI 7)] ++ [(q76, aJ cJ 7)] ++ [(q84, aI cI 7)] ++ [(q92, aI cI 6)] ++ [(q100, aI cZ 96)] ++ [(q108, aJ cJ 14)] ++ [(q117, aI cI 150)] ++ [(q125, aI cI 52)] ++ [(q132, aJ cJ 4)])) := hD
  refine va_putF (D := D) (ci := 6) (v := .ref q132) (ty := tyX8 26) (C := RX8) (T := TX8) (N := 28) hx hb hts inX8 tyX8 tyX8_ok nmX8 hown hK hP hD hS 0 rfl rfl 26 (by decide) (hts _ fi_X8_61) (fun _ h9 => h9) rfl hin rfl (tyX8_ok 26 (by decide)) rfl rfl (Nat.le_of_ble_eq_true rfl) dX8_init_134 (fun H locs hP hD hS => ?_)
  have hP : va_P D vwCl ((h0, .inr (6, [.ref q8, .ref q17, .ref q25, .ref q33, .ref q40, .ref q47, .long 0, .long 1, .ref q60, .ref q68, .ref q76, .ref q84, .int 0, .ref q92, .int 0, .int 0, .int 0, .ref q100, .ref q108, .ref q117, .int 0, .int 0, .int 0, .int 0, .int 0, .ref q125, .ref q132, .null])) :: ([(q8, aI cI 188)] ++ [(q17, aI cI 376)] ++ [(q25, aJ cJ 20)] ++ [(q33, aJ cJ 40)] ++ [(q40, aI cZ 2)] ++ [(q47, aI cI 3)] ++ [(q60, aI cI 7)] ++ [(q68, aI cI 7)] ++ [(q76, aJ cJ 7)] ++ [(q84, aI cI 7)] ++ [(q92, aI cI 6)] ++ [(q100, aI cZ 96)] ++ [(q108, aJ cJ 14)] ++ [(q117, aI cI 150)] ++ [(q125, aI cI 52)] ++ [(q132, aJ cJ 4)])) H := hP
  have hD : va_D A ((h0, .inr (6, [.ref q8, .ref q17, .ref q25, .ref q33, .ref q40, .ref q47, .long 0, .long 1, .ref q60, .ref q68, .ref q76, .ref q84, .int 0, .ref q92, .int 0, .int 0, .int 0, .ref q100, .ref q108, .ref q117, .int 0, .int 0, .int 0, .int 0, .int 0, .ref q125, .ref q132, .null])) :: ([(q8, aI cI 188)] ++ [(q17, aI cI 376)] ++ [(q25, aJ cJ 20)] ++ [(q33, aJ cJ 40)] ++ [(q40, aI cZ 2)] ++ [(q47, aI cI 3)] ++ [(q60, aI cI 7)] ++ [(q68, aI cI 7)] ++ [(q76, aJ cJ 7)] ++ [(q84, aI cI 7)] ++ [(q92, aI cI 6)] ++ [(q100, aI cZ 96)] ++ [(q108, aJ cJ 14)] ++ [(q117, aI cI 150)] ++ [(q125, aI cI 52)] ++ [(q132, aJ cJ 4)])) := hD
  refine lv_aload_n hx hb dX8_init_137 rfl (lv_at hl 0 rfl) ?_
  refine lv_iconst (v := 4) hx hb dX8_init_138 (by decide) ?_
  refine nw_i hx hb hts hK hP hD hS hA 4 (by decide) (by decide) (Nat.le_of_ble_eq_true rfl) (Nat.le_of_ble_eq_true rfl) (Nat.le_of_ble_eq_true rfl) dX8_init_139 (fun q139 H hP hD hS => ?_)
  have hP : va_P D vwCl ((h0, .inr (6, [.ref q8, .ref q17, .ref q25, .ref q33, .ref q40, .ref q47, .long 0, .long 1, .ref q60, .ref q68, .ref q76, .ref q84, .int 0, .ref q92, .int 0, .int 0, .int 0, .ref q100, .ref q108, .ref q117, .int 0, .int 0, .int 0, .int 0, .int 0, .ref q125, .ref q132, .null])) :: ([(q8, aI cI 188)] ++ [(q17, aI cI 376)] ++ [(q25, aJ cJ 20)] ++ [(q33, aJ cJ 40)] ++ [(q40, aI cZ 2)] ++ [(q47, aI cI 3)] ++ [(q60, aI cI 7)] ++ [(q68, aI cI 7)] ++ [(q76, aJ cJ 7)] ++ [(q84, aI cI 7)] ++ [(q92, aI cI 6)] ++ [(q100, aI cZ 96)] ++ [(q108, aJ cJ 14)] ++ [(q117, aI cI 150)] ++ [(q125, aI cI 52)] ++ [(q132, aJ cJ 4)] ++ [(q139, aI cI 4)])) H := hP
  have hD : va_D A ((h0, .inr (6, [.ref q8, .ref q17, .ref q25, .ref q33, .ref q40, .ref q47, .long 0, .long 1, .ref q60, .ref q68, .ref q76, .ref q84, .int 0, .ref q92, .int 0, .int 0, .int 0, .ref q100, .ref q108, .ref q117, .int 0, .int 0, .int 0, .int 0, .int 0, .ref q125, .ref q132, .null])) :: ([(q8, aI cI 188)] ++ [(q17, aI cI 376)] ++ [(q25, aJ cJ 20)] ++ [(q33, aJ cJ 40)] ++ [(q40, aI cZ 2)] ++ [(q47, aI cI 3)] ++ [(q60, aI cI 7)] ++ [(q68, aI cI 7)] ++ [(q76, aJ cJ 7)] ++ [(q84, aI cI 7)] ++ [(q92, aI cI 6)] ++ [(q100, aI cZ 96)] ++ [(q108, aJ cJ 14)] ++ [(q117, aI cI 150)] ++ [(q125, aI cI 52)] ++ [(q132, aJ cJ 4)] ++ [(q139, aI cI 4)])) := hD
  refine va_putF (D := D) (ci := 6) (v := .ref q139) (ty := tyX8 27) (C := RX8) (T := TX8) (N := 28) hx hb hts inX8 tyX8 tyX8_ok nmX8 hown hK hP hD hS 0 rfl rfl 27 (by decide) (hts _ fi_X8_64) (fun _ h9 => h9) rfl hin rfl (tyX8_ok 27 (by decide)) rfl rfl (Nat.le_of_ble_eq_true rfl) dX8_init_141 (fun H locs hP hD hS => ?_)
  have hP : va_P D vwCl ((h0, .inr (6, [.ref q8, .ref q17, .ref q25, .ref q33, .ref q40, .ref q47, .long 0, .long 1, .ref q60, .ref q68, .ref q76, .ref q84, .int 0, .ref q92, .int 0, .int 0, .int 0, .ref q100, .ref q108, .ref q117, .int 0, .int 0, .int 0, .int 0, .int 0, .ref q125, .ref q132, .ref q139])) :: ([(q8, aI cI 188)] ++ [(q17, aI cI 376)] ++ [(q25, aJ cJ 20)] ++ [(q33, aJ cJ 40)] ++ [(q40, aI cZ 2)] ++ [(q47, aI cI 3)] ++ [(q60, aI cI 7)] ++ [(q68, aI cI 7)] ++ [(q76, aJ cJ 7)] ++ [(q84, aI cI 7)] ++ [(q92, aI cI 6)] ++ [(q100, aI cZ 96)] ++ [(q108, aJ cJ 14)] ++ [(q117, aI cI 150)] ++ [(q125, aI cI 52)] ++ [(q132, aJ cJ 4)] ++ [(q139, aI cI 4)])) H := hP
  have hD : va_D A ((h0, .inr (6, [.ref q8, .ref q17, .ref q25, .ref q33, .ref q40, .ref q47, .long 0, .long 1, .ref q60, .ref q68, .ref q76, .ref q84, .int 0, .ref q92, .int 0, .int 0, .int 0, .ref q100, .ref q108, .ref q117, .int 0, .int 0, .int 0, .int 0, .int 0, .ref q125, .ref q132, .ref q139])) :: ([(q8, aI cI 188)] ++ [(q17, aI cI 376)] ++ [(q25, aJ cJ 20)] ++ [(q33, aJ cJ 40)] ++ [(q40, aI cZ 2)] ++ [(q47, aI cI 3)] ++ [(q60, aI cI 7)] ++ [(q68, aI cI 7)] ++ [(q76, aJ cJ 7)] ++ [(q84, aI cI 7)] ++ [(q92, aI cI 6)] ++ [(q100, aI cZ 96)] ++ [(q108, aJ cJ 14)] ++ [(q117, aI cI 150)] ++ [(q125, aI cI 52)] ++ [(q132, aJ cJ 4)] ++ [(q139, aI cI 4)])) := hD
  refine W.widen (k := 17) (n := 983) (Nat.le_of_ble_eq_true rfl) (Nat.le_of_ble_eq_true rfl) ?_
  exact ct_end hx hb hr hlocks hS (fun k => ([h0, q8, q17, q25, q33, q40, q47, q60, q68, q76, q84, q92, q100, q108, q117, q125, q132, q139] : List Nat).getD k 0) rfl hP hD dX8_init_144
