/-! the law's loop, and its start -/
theorem L6 : ∀ L, L < 385 → (Int32.ofNat L - (6 : Int32)).toInt = (L : Int) - 6 := by decide +kernel
set_option maxHeartbeats 4000000 in
theorem law_sw {E : En} {p : Program} {l : Launch} {e : Env} {s : State} {m : MethodId} {below : List Frame} {meth : Method} {c : Code} {b L : Nat} {xs : Nat → Int32} (C : LC E p s m meth c b L xs) {M : Mem} (hI : Inv M) {i : Nat} (hL : L ≤ 384) (hi : i + 6 ≤ L) (kk : ∀ M2, Inv M2 → GL E p l e s m below meth c b 1281 (Lo E b i) [] M2) {k : Nat} (hk : k < 64) : GL E p l e s m below meth c b 33 (Lo E b i) [.int (nI k)] M := by
  by_cases h33 : k < 33
  · match k, h33 with
    | 0, _ => exact l_table (tgt := 180) C dL_law_33 (by decide) (by decide) rfl (by decide) (law_0 C hI hL hi kk)
    | 1, _ => exact l_table (tgt := 203) C dL_law_33 (by decide) (by decide) rfl (by decide) (law_1 C hI hL hi kk)
    | 2, _ => exact l_table (tgt := 256) C dL_law_33 (by decide) (by decide) rfl (by decide) (law_2 C hI hL hi kk)
    | 3, _ => exact l_table (tgt := 299) C dL_law_33 (by decide) (by decide) rfl (by decide) (law_3 C hI hL hi kk)
    | 4, _ => exact l_table (tgt := 322) C dL_law_33 (by decide) (by decide) rfl (by decide) (law_4 C hI hL hi kk)
    | 5, _ => exact l_table (tgt := 335) C dL_law_33 (by decide) (by decide) rfl (by decide) (law_5 C hI hL hi kk)
    | 6, _ => exact l_table (tgt := 368) C dL_law_33 (by decide) (by decide) rfl (by decide) (law_6 C hI hL hi kk)
    | 7, _ => exact l_table (tgt := 391) C dL_law_33 (by decide) (by decide) rfl (by decide) (law_7 C hI hL hi kk)
    | 8, _ => exact l_table (tgt := 414) C dL_law_33 (by decide) (by decide) rfl (by decide) (law_8 C hI hL hi kk)
    | 9, _ => exact l_table (tgt := 427) C dL_law_33 (by decide) (by decide) rfl (by decide) (law_9 C hI hL hi kk)
    | 10, _ => exact l_table (tgt := 440) C dL_law_33 (by decide) (by decide) rfl (by decide) (law_10 C hI hL hi kk)
    | 11, _ => exact l_table (tgt := 473) C dL_law_33 (by decide) (by decide) rfl (by decide) (law_11 C hI hL hi kk)
    | 12, _ => exact l_table (tgt := 506) C dL_law_33 (by decide) (by decide) rfl (by decide) (law_12 C hI hL hi kk)
    | 13, _ => exact l_table (tgt := 559) C dL_law_33 (by decide) (by decide) rfl (by decide) (law_13 C hI hL hi kk)
    | 14, _ => exact l_table (tgt := 592) C dL_law_33 (by decide) (by decide) rfl (by decide) (law_14 C hI hL hi kk)
    | 15, _ => exact l_table (tgt := 655) C dL_law_33 (by decide) (by decide) rfl (by decide) (law_15 C hI hL hi kk)
    | 16, _ => exact l_table (tgt := 708) C dL_law_33 (by decide) (by decide) rfl (by decide) (law_16 C hI hL hi kk)
    | 17, _ => exact l_table (tgt := 761) C dL_law_33 (by decide) (by decide) rfl (by decide) (law_17 C hI hL hi kk)
    | 18, _ => exact l_table (tgt := 804) C dL_law_33 (by decide) (by decide) rfl (by decide) (law_18 C hI hL hi kk)
    | 19, _ => exact l_table (tgt := 847) C dL_law_33 (by decide) (by decide) rfl (by decide) (law_19 C hI hL hi kk)
    | 20, _ => exact l_table (tgt := 890) C dL_law_33 (by decide) (by decide) rfl (by decide) (law_20 C hI hL hi kk)
    | 21, _ => exact l_table (tgt := 903) C dL_law_33 (by decide) (by decide) rfl (by decide) (law_21 C hI hL hi kk)
    | 22, _ => exact l_table (tgt := 936) C dL_law_33 (by decide) (by decide) rfl (by decide) (law_22 C hI hL hi kk)
    | 23, _ => exact l_table (tgt := 959) C dL_law_33 (by decide) (by decide) rfl (by decide) (law_23 C hI hL hi kk)
    | 24, _ => exact l_table (tgt := 992) C dL_law_33 (by decide) (by decide) rfl (by decide) (law_24 C hI hL hi kk)
    | 25, _ => exact l_table (tgt := 1045) C dL_law_33 (by decide) (by decide) rfl (by decide) (law_25 C hI hL hi kk)
    | 26, _ => exact l_table (tgt := 1088) C dL_law_33 (by decide) (by decide) rfl (by decide) (law_26 C hI hL hi kk)
    | 27, _ => exact l_table (tgt := 1151) C dL_law_33 (by decide) (by decide) rfl (by decide) (law_27 C hI hL hi kk)
    | 28, _ => exact l_table (tgt := 1175) C dL_law_33 (by decide) (by decide) rfl (by decide) (law_28 C hI hL hi kk)
    | 29, _ => exact l_table (tgt := 1198) C dL_law_33 (by decide) (by decide) rfl (by decide) (law_29 C hI hL hi kk)
    | 30, _ => exact l_table (tgt := 1221) C dL_law_33 (by decide) (by decide) rfl (by decide) (law_30 C hI hL hi kk)
    | 31, _ => exact l_table (tgt := 1244) C dL_law_33 (by decide) (by decide) rfl (by decide) (law_31 C hI hL hi kk)
    | 32, _ => exact l_table (tgt := 1267) C dL_law_33 (by decide) (by decide) rfl (by decide) (law_32 C hI hL hi kk)
    | k + 33, h => exact absurd h (by omega)
  · exact l_tableO (tgt := 1281) C dL_law_33 (Or.inr (by rw [nI_toInt (by omega)]; omega)) (by decide) (kk M hI)
theorem law_loop {E : En} {p : Program} {l : Launch} {e : Env} {s : State} {m : MethodId} {below : List Frame} {meth : Method} {c : Code} {b L : Nat} {xs : Nat → Int32} (C : LC E p s m meth c b L xs) (hL : L ≤ 384) : ∀ (n i : Nat) (M : Mem), Inv M → L < n + i → i ≤ L + 6 → GL E p l e s m below meth c b 18 (Lo E b i) [] M := by
  intro n
  induction n with
  | zero =>
    intro i M hI h1 h2
    refine l_iload_n C dL_law_18 rfl (l_aload_n C dL_law_19 rfl (l_slen C dL_law_20 (l_bipush (v := 6) C dL_law_21 (by decide) (l_isub C dL_law_23 (l_icmp_gt (tgt := 1287) C dL_law_24 (by decide) (fun _ => l_true C dL_law_1287 dL_law_1288) (fun h => ?_))))))
    exfalso
    rw [fa_lt, L6 L (by omega), nI_toInt (by omega)] at h
    omega
  | succ n ih =>
    intro i M hI h1 h2
    refine l_iload_n C dL_law_18 rfl (l_aload_n C dL_law_19 rfl (l_slen C dL_law_20 (l_bipush (v := 6) C dL_law_21 (by decide) (l_isub C dL_law_23 (l_icmp_gt (tgt := 1287) C dL_law_24 (by decide) (fun _ => l_true C dL_law_1287 dL_law_1288) (fun h => ?_))))))
    rw [fa_lt, L6 L (by omega), nI_toInt (by omega)] at h
    have hi : i + 6 ≤ L := by omega
    refine l_aload_n C dL_law_27 rfl (l_iload_n C dL_law_28 rfl (l_sld C (vp_in_nI (show i < L by omega) (by omega)) dL_law_29 ?_))
    rw [cl (by omega)]
    refine l_bipush (v := 63) C dL_law_30 (by decide) (l_iand C dL_law_32 ?_)
    obtain ⟨k, hk, hx⟩ := and63 (xs i)
    rw [hx]
    refine law_sw C hI hL hi (fun M2 hI2 => ?_) hk
    refine l_iincg (L2 := Lo E b (i + 6)) C dL_law_1281 (by decide) rfl (v := nI (i + 6)) (nI_add i 6) (lok1_3 lnl_r) ?_
    refine l_goto (tgt := 18) C dL_law_1284 (by decide) ?_
    exact ih (i + 6) M2 hI2 (by omega) (by omega)
