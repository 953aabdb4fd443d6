/-! the text's three words: what String's length and charAt do of them -/
section GS
variable {X : Cx} {res : Option Value × Mem} {own : String} {cc : ByteArray} {nL fr lo pc : Nat} {L : List (Option Value)} {st : List Value} {M M1 : Mem}
theorem g_ldcS0 (d : decode cc pc = .ok (.ldc 88, 2)) (k : G X res RX3 cc nL fr lo (pc + 2) L (.ref (X.1.2.2.2.1 0) :: st) M) : G X res RX3 cc nL fr lo pc L st M := fun C H locs ls hP hS hl => va_ldcS (own := "BridgeNames$Reader") C.1 C.2.1 C.2.2.2.1 C.2.2.2.2.2.2.2.1.2.1 d (k C H locs ls hP hS hl)
theorem g_ldcS1 (d : decode cc pc = .ok (.ldc 94, 2)) (k : G X res RX3 cc nL fr lo (pc + 2) L (.ref (X.1.2.2.2.1 1) :: st) M) : G X res RX3 cc nL fr lo pc L st M := fun C H locs ls hP hS hl => va_ldcS (own := "BridgeNames$Reader") C.1 C.2.1 C.2.2.2.1 C.2.2.2.2.2.2.2.1.2.2.1 d (k C H locs ls hP hS hl)
theorem g_ldcS2 (d : decode cc pc = .ok (.ldc 96, 2)) (k : G X res RX3 cc nL fr lo (pc + 2) L (.ref (X.1.2.2.2.1 2) :: st) M) : G X res RX3 cc nL fr lo pc L st M := fun C H locs ls hP hS hl => va_ldcS (own := "BridgeNames$Reader") C.1 C.2.1 C.2.2.2.1 C.2.2.2.2.2.2.2.1.2.2.2.1 d (k C H locs ls hP hS hl)
theorem g_getsC {index : Nat} (hlink : Cond.fieldLink own index "java/lang/String" "COMPACT_STRINGS" "Z" ∈ TB) (d : decode cc pc = .ok (.getstatic index, 3)) (k : G X res own cc nL fr lo (pc + 3) L (.int 1 :: st) M) : G X res own cc nL fr lo pc L st M := fun C H locs ls hP hS hl => va_gets C.1 C.2.1 C.2.2.2.2.2.2.2.1.2.2.2.2.1 hS C.2.2.2.1 (C.2.2.2.2.1 _ hlink) (fun _ h => h) d (k C H locs ls hP hS hl)
theorem g_getsF {index : Nat} (hlink : Cond.fieldLink own index "jdk/internal/util/Preconditions" "SIOOBE_FORMATTER" "Ljava/util/function/BiFunction;" ∈ TB) (d : decode cc pc = .ok (.getstatic index, 3)) (k : ∀ v : Value, (v = .null ∨ ∃ q, v = .ref q) → G X res own cc nL fr lo (pc + 3) L (v :: st) M) : G X res own cc nL fr lo pc L st M := fun C H locs ls hP hS hl => by
  obtain ⟨v, hv, hz⟩ := C.2.2.2.2.2.2.2.1.2.2.2.2.2
  exact va_gets C.1 C.2.1 hz hS C.2.2.2.1 (C.2.2.2.2.1 _ hlink) (fun _ h => h) d (k v hv C H locs ls hP hS hl)
theorem g_getCoder {index i : Nat} (hi : i < 3) (hlink : Cond.fieldLink own index "java/lang/String" "coder" "B" ∈ TB) (d : decode cc pc = .ok (.getfield index, 3)) (k : G X res own cc nL fr lo (pc + 3) L (.int 0 :: st) M) : G X res own cc nL fr lo pc L (.ref (X.1.2.2.2.1 i) :: st) M := fun C H locs ls hP hS hl => vk_getf C.1 C.2.1 (C.2.2.2.2.2.2.2.1.1.1 i hi).2.1 hS C.2.2.2.1 (C.2.2.2.2.1 _ hlink) (fun _ h => h) d (k C H locs ls hP hS hl)
theorem g_getValue {index i : Nat} (hi : i < 3) (hlink : Cond.fieldLink own index "java/lang/String" "value" "[B" ∈ TB) (d : decode cc pc = .ok (.getfield index, 3)) (k : G X res own cc nL fr lo (pc + 3) L (.ref (X.1.2.2.2.2 i) :: st) M) : G X res own cc nL fr lo pc L (.ref (X.1.2.2.2.1 i) :: st) M := fun C H locs ls hP hS hl => vk_getf C.1 C.2.1 (C.2.2.2.2.2.2.2.1.1.1 i hi).2.2.1 hS C.2.2.2.1 (C.2.2.2.2.1 _ hlink) (fun _ h => h) d (k C H locs ls hP hS hl)
theorem g_tlen {i : Nat} (hi : i < 3) (d : decode cc pc = .ok (.arraylength, 1)) (k : G X res own cc nL fr lo (pc + 1) L (.int (nI (sLen.getD i 0)) :: st) M) : G X res own cc nL fr lo pc L (.ref (X.1.2.2.2.2 i) :: st) M := fun C H locs ls hP hS hl => va_tlen C.1 C.2.1 (C.2.2.2.2.2.2.2.1.1.1 i hi).2.2.2 hS rfl d (k C H locs ls hP hS hl)
theorem g_tb {i : Nat} {j : Int32} (hi : i < 3) (hj : vp_in j (sLen.getD i 0)) (d : decode cc pc = .ok (.baload, 1)) (k : G X res own cc nL fr lo (pc + 1) L (.int ((sByt.getD i []).getD j.toNatClampNeg 0) :: st) M) : G X res own cc nL fr lo pc L (.int j :: .ref (X.1.2.2.2.2 i) :: st) M := fun C H locs ls hP hS hl => va_tb C.1 C.2.1 (C.2.2.2.2.2.2.2.1.1.1 i hi).2.2.2 hS hj rfl d (k C H locs ls hP hS hl)
theorem g_nret {v : Int32} {ty : FieldType} (hr : X.meth.sig.returnType = some ty) (hn : narrow ty (.int v) = .int v) (d : decode cc pc = .ok (.ireturn, 1)) : G X (some (.int v), M) own cc nL fr lo pc L [.int v] M := fun C H locs ls hP hS hl => W.zret C.1 C.2.1 hr hn (fun t ht _ => ⟨rfl, by rw [ht]; exact hP, hS.F ht⟩) hS.2.2 d C.2.2.2.2.2.2.2.2.2.2
end GS
def sch (i : Nat) (j : Int32) : Int32 := (sByt.getD i []).getD j.toNatClampNeg 0
theorem tl_38 : Cond.fieldLink RJ0 38 "java/lang/String" "COMPACT_STRINGS" "Z" ∈ TB := tb_at 396 (by decide +kernel) (by decide +kernel)
theorem tl_1053 : Cond.fieldLink RJ0 1053 "jdk/internal/util/Preconditions" "SIOOBE_FORMATTER" "Ljava/util/function/BiFunction;" ∈ TB := tb_at 412 (by decide +kernel) (by decide +kernel)
theorem tl_9 : Cond.fieldLink RJ0 9 "java/lang/String" "value" "[B" ∈ TB := tb_at 1162 (by decide +kernel) (by decide +kernel)
theorem tl_15 : Cond.fieldLink RJ0 15 "java/lang/String" "coder" "B" ∈ TB := tb_at 1163 (by decide +kernel) (by decide +kernel)
theorem cs_J0_1059 : CWs RJ0 1059 yJ3_checkIndex_8e157 cJ3_checkIndex_8e157 3 (some .int) 3 := ⟨tb_at 414 (by decide +kernel) (by decide +kernel), tb_at 415 (by decide +kernel) (by decide +kernel), tb_at 59 (by decide +kernel) (by decide +kernel), tb_at 416 (by decide +kernel) (by decide +kernel), by decide +kernel, by decide +kernel, by decide +kernel⟩
theorem cs_J1_9 : CWs RJ1 9 yJ0_checkIndex_df160 cJ0_checkIndex_df160 2 none 2 := ⟨tb_at 409 (by decide +kernel) (by decide +kernel), tb_at 410 (by decide +kernel) (by decide +kernel), tb_at 57 (by decide +kernel) (by decide +kernel), tb_at 411 (by decide +kernel) (by decide +kernel), by decide +kernel, by decide +kernel, by decide +kernel⟩
theorem cs_J0_495 : CWs RJ0 495 yJ1_charAt_3b067 cJ1_charAt_3b067 2 (some .char) 2 := ⟨tb_at 406 (by decide +kernel) (by decide +kernel), tb_at 407 (by decide +kernel) (by decide +kernel), tb_at 58 (by decide +kernel) (by decide +kernel), tb_at 408 (by decide +kernel) (by decide +kernel), by decide +kernel, by decide +kernel, by decide +kernel⟩
theorem cv_J0_335 : CWv RJ0 335 yJ0_coder_7d493 cJ0_coder_7d493 1 (some .byte) 0 := ⟨tb_at 392 (by decide +kernel) (by decide +kernel), tb_at 393 (by decide +kernel) (by decide +kernel), tb_at 394 (by decide +kernel) (by decide +kernel), tb_at 57 (by decide +kernel) (by decide +kernel), tb_at 395 (by decide +kernel) (by decide +kernel), by decide +kernel, by decide +kernel, by decide +kernel⟩
theorem cv_J0_492 : CWv RJ0 492 yJ0_isLatin1_aae02 cJ0_isLatin1_aae02 1 (some .boolean) 0 := ⟨tb_at 402 (by decide +kernel) (by decide +kernel), tb_at 403 (by decide +kernel) (by decide +kernel), tb_at 404 (by decide +kernel) (by decide +kernel), tb_at 57 (by decide +kernel) (by decide +kernel), tb_at 405 (by decide +kernel) (by decide +kernel), by decide +kernel, by decide +kernel, by decide +kernel⟩
theorem cv_X3_98 : CWv RX3 98 yJ0_length_8abf5 cJ0_length_8abf5 1 (some .int) 0 := ⟨tb_at 388 (by decide +kernel) (by decide +kernel), tb_at 389 (by decide +kernel) (by decide +kernel), tb_at 390 (by decide +kernel) (by decide +kernel), tb_at 57 (by decide +kernel) (by decide +kernel), tb_at 391 (by decide +kernel) (by decide +kernel), by decide +kernel, by decide +kernel, by decide +kernel⟩
theorem cv_X3_103 : CWv RX3 103 yJ0_charAt_5068e cJ0_charAt_5068e 2 (some .char) 1 := ⟨tb_at 398 (by decide +kernel) (by decide +kernel), tb_at 399 (by decide +kernel) (by decide +kernel), tb_at 400 (by decide +kernel) (by decide +kernel), tb_at 57 (by decide +kernel) (by decide +kernel), tb_at 401 (by decide +kernel) (by decide +kernel), by decide +kernel, by decide +kernel, by decide +kernel⟩
theorem c_pre {l : Launch} {M : Mem} {i n : Int32} {v : Value} (hv : v = .null ∨ ∃ q, v = .ref q) (h0 : ¬ i < 0) (h1 : i < n) : Cn l yJ3_checkIndex_8e157 cJ3_checkIndex_8e157 3 (some .int) 0 0 (fun _ => [.int i, .int n, v]) M (some (.int i), M) := by
  have hlen : (lg_sl [.int i, .int n, v]).length ≤ 3 := by rcases hv with rfl | ⟨q, rfl⟩ <;> exact Nat.le_of_ble_eq_true rfl
  have hL : la 3 [.int i, .int n, v] = [some (.int i), some (.int n), some v] := by rcases hv with rfl | ⟨q, rfl⟩ <;> rfl
  refine cn_of RJ3 (fun E => [some (.int i), some (.int n), some v]) (by decide +kernel) rfl (fun E => hlen) (fun E => hL) (fun X hr => ?_)
  refine g_iload_n dJ3_checkIndex_8e157_0 rfl ?_
  refine g_if_lt (tgt := 9) dJ3_checkIndex_8e157_1 (by decide) (fun hc => absurd hc h0) (fun hc => ?_)
  refine g_iload_n dJ3_checkIndex_8e157_4 rfl ?_
  refine g_iload_n dJ3_checkIndex_8e157_5 rfl ?_
  refine g_icmp_lt (tgt := 16) dJ3_checkIndex_8e157_6 (by decide) (fun hc => ?_) (fun hc => absurd h1 hc)
  refine g_iload_n dJ3_checkIndex_8e157_16 rfl ?_
  exact g_iret hr dJ3_checkIndex_8e157_17
theorem c_chk {l : Launch} {M : Mem} {i n : Int32} (h0 : ¬ i < 0) (h1 : i < n) : Cn l yJ0_checkIndex_df160 cJ0_checkIndex_df160 2 none 1 22 (fun _ => [.int i, .int n]) M (none, M) := by
  refine cn_of RJ0 (fun E => [some (.int i), some (.int n)]) (by decide +kernel) rfl (fun E => Nat.le_of_ble_eq_true rfl) (fun E => rfl) (fun X hr => ?_)
  refine g_iload_n dJ0_checkIndex_df160_0 rfl ?_
  refine g_iload_n dJ0_checkIndex_df160_1 rfl ?_
  refine g_getsF tl_1053 dJ0_checkIndex_df160_2 (fun v hv => ?_)
  refine g_callS (st := []) (c_pre hv h0 h1) cs_J0_1059 rfl rfl ⟨by decide, by decide⟩ (by decide) dJ0_checkIndex_df160_5 ?_
  refine g_pop (va := .int i) dJ0_checkIndex_df160_8 rfl ?_
  exact g_vret hr dJ0_checkIndex_df160_9
theorem c_coder {l : Launch} {M : Mem} {i : Nat} (hi : i < 3) : Cn l yJ0_coder_7d493 cJ0_coder_7d493 1 (some .byte) 0 0 (fun E => [.ref (E.2.2.2.1 i)]) M (some (.int 0), M) := by
  refine cn_of RJ0 (fun E => [some (.ref (E.2.2.2.1 i))]) (by decide +kernel) rfl (fun E => Nat.le_of_ble_eq_true rfl) (fun E => rfl) (fun X hr => ?_)
  refine g_getsC tl_38 dJ0_coder_7d493_0 ?_
  refine g_if_eq (tgt := 13) dJ0_coder_7d493_3 (by decide) (fun hc => absurd hc (by decide)) (fun hc => ?_)
  refine g_aload_n dJ0_coder_7d493_6 rfl ?_
  refine g_getCoder hi tl_15 dJ0_coder_7d493_7 ?_
  refine g_goto (tgt := 14) dJ0_coder_7d493_10 (by decide) ?_
  exact g_nret hr (by decide) dJ0_coder_7d493_14
theorem c_lat {l : Launch} {M : Mem} {i : Nat} (hi : i < 3) : Cn l yJ0_isLatin1_aae02 cJ0_isLatin1_aae02 1 (some .boolean) 0 0 (fun E => [.ref (E.2.2.2.1 i)]) M (some (.int 1), M) := by
  refine cn_of RJ0 (fun E => [some (.ref (E.2.2.2.1 i))]) (by decide +kernel) rfl (fun E => Nat.le_of_ble_eq_true rfl) (fun E => rfl) (fun X hr => ?_)
  refine g_getsC tl_38 dJ0_isLatin1_aae02_0 ?_
  refine g_if_eq (tgt := 17) dJ0_isLatin1_aae02_3 (by decide) (fun hc => absurd hc (by decide)) (fun hc => ?_)
  refine g_aload_n dJ0_isLatin1_aae02_6 rfl ?_
  refine g_getCoder hi tl_15 dJ0_isLatin1_aae02_7 ?_
  refine g_if_ne (tgt := 17) dJ0_isLatin1_aae02_10 (by decide) (fun hc => absurd rfl hc) (fun hc => ?_)
  refine g_iconst (v := 1) dJ0_isLatin1_aae02_13 (by decide) ?_
  refine g_goto (tgt := 18) dJ0_isLatin1_aae02_14 (by decide) ?_
  exact g_nret hr (by decide) dJ0_isLatin1_aae02_18
theorem str_recv {X : Cx} {own : String} {cc : ByteArray} {nL fr lo : Nat} {i : Nat} (hi : i < 3) {H : Heap} {locs : List Loc} (C : Ck X own cc nL fr lo) (hS : va_S (Av X.1) X.s.heap H locs) : ∃ cell : Cell, H[X.1.2.2.2.1 i]? = some cell ∧ cell.vm.isStatics = false ∧ X.s.vm.findClass "java/lang/String" = some cell.cls := vk_recv C.2.2.2.2.2.2.2.1.1 hi hS
theorem c_len {l : Launch} {M : Mem} {i : Nat} (hi : i < 3) : Cn l yJ0_length_8abf5 cJ0_length_8abf5 1 (some .int) 1 20 (fun E => [.ref (E.2.2.2.1 i)]) M (some (.int (nI (sLen.getD i 0))), M) := by
  refine cn_of RJ0 (fun E => [some (.ref (E.2.2.2.1 i))]) (by decide +kernel) rfl (fun E => Nat.le_of_ble_eq_true rfl) (fun E => rfl) (fun X hr => ?_)
  refine g_aload_n dJ0_length_8abf5_0 rfl ?_
  refine g_getValue hi tl_9 dJ0_length_8abf5_1 ?_
  refine g_tlen hi dJ0_length_8abf5_4 ?_
  refine g_aload_n dJ0_length_8abf5_5 rfl ?_
  refine g_callW (Bs := []) (st := [.int (nI (sLen.getD i 0))]) (c_coder hi) cv_J0_335 rfl rfl rfl ⟨by decide, by decide⟩ (Nat.le_of_ble_eq_true rfl) dJ0_length_8abf5_6 (fun C H locs hP hS => str_recv hi C hS) ?_
  refine g_ishr (x := nI (sLen.getD i 0)) (y := 0) (st := []) dJ0_length_8abf5_9 ?_
  rw [sb_shr0]
  exact g_iret hr dJ0_length_8abf5_10
theorem sch_ok : ∀ i, i < 3 → ∀ j, j < sLen.getD i 0 → (((sByt.getD i []).getD j 0 &&& 255).toUInt32 % 65536).toInt32 = (sByt.getD i []).getD j 0 ∧ narrow .char (.int ((sByt.getD i []).getD j 0)) = .int ((sByt.getD i []).getD j 0) := by decide +kernel
theorem c_lch {l : Launch} {M : Mem} {i : Nat} {j : Int32} (hi : i < 3) (hj : vp_in j (sLen.getD i 0)) : Cn l yJ1_charAt_3b067 cJ1_charAt_3b067 2 (some .char) 2 43 (fun E => [.ref (E.2.2.2.2 i), .int j]) M (some (.int (sch i j)), M) := by
  have hn : sLen.getD i 0 < 2 ^ 31 := (show ∀ i, i < 3 → sLen.getD i 0 < 2 ^ 31 by decide +kernel) i hi
  obtain ⟨k, hk, hkj⟩ := vp_in_of hj hn
  have h0 : ¬ j < 0 := by rw [hkj]; exact nI_pos (by omega)
  have h1 : j < nI (sLen.getD i 0) := by rw [hkj]; exact nI_lt hk hn
  have hjk : j.toNatClampNeg = k := by rw [hkj]; exact nI_clamp (by omega)
  have hs := sch_ok i hi k hk
  refine cn_of RJ1 (fun E => [some (.ref (E.2.2.2.2 i)), some (.int j)]) (by decide +kernel) rfl (fun E => Nat.le_of_ble_eq_true rfl) (fun E => rfl) (fun X hr => ?_)
  refine g_iload_n dJ1_charAt_3b067_0 rfl ?_
  refine g_aload_n dJ1_charAt_3b067_1 rfl ?_
  refine g_tlen hi dJ1_charAt_3b067_2 ?_
  refine g_callS (st := []) (c_chk h0 h1) cs_J1_9 rfl rfl ⟨by decide, by decide⟩ (by decide) dJ1_charAt_3b067_3 ?_
  refine g_aload_n dJ1_charAt_3b067_6 rfl ?_
  refine g_iload_n dJ1_charAt_3b067_7 rfl ?_
  refine g_tb hi hj dJ1_charAt_3b067_8 ?_
  refine g_sipush (v := 255) dJ1_charAt_3b067_9 (by decide) ?_
  refine g_iand dJ1_charAt_3b067_12 ?_
  refine g_i2c dJ1_charAt_3b067_13 ?_
  unfold sch
  rw [hjk, hs.1]
  exact g_nret hr hs.2 dJ1_charAt_3b067_14
theorem c_sch {l : Launch} {M : Mem} {i : Nat} {j : Int32} (hi : i < 3) (hj : vp_in j (sLen.getD i 0)) : Cn l yJ0_charAt_5068e cJ0_charAt_5068e 2 (some .char) 3 64 (fun E => [.ref (E.2.2.2.1 i), .int j]) M (some (.int (sch i j)), M) := by
  have hn : sLen.getD i 0 < 2 ^ 31 := (show ∀ i, i < 3 → sLen.getD i 0 < 2 ^ 31 by decide +kernel) i hi
  obtain ⟨k, hk, hkj⟩ := vp_in_of hj hn
  have hjk : j.toNatClampNeg = k := by rw [hkj]; exact nI_clamp (by omega)
  have hs := sch_ok i hi k hk
  refine cn_of RJ0 (fun E => [some (.ref (E.2.2.2.1 i)), some (.int j)]) (by decide +kernel) rfl (fun E => Nat.le_of_ble_eq_true rfl) (fun E => rfl) (fun X hr => ?_)
  refine g_aload_n dJ0_charAt_5068e_0 rfl ?_
  refine g_callW (Bs := []) (st := []) (c_lat hi) cv_J0_492 rfl rfl rfl ⟨by decide, by decide⟩ (Nat.le_of_ble_eq_true rfl) dJ0_charAt_5068e_1 (fun C H locs hP hS => str_recv hi C hS) ?_
  refine g_if_eq (x := 1) (st := []) (tgt := 16) dJ0_charAt_5068e_4 (by decide) (fun hc => absurd hc (by decide)) (fun hc => ?_)
  refine g_aload_n dJ0_charAt_5068e_7 rfl ?_
  refine g_getValue hi tl_9 dJ0_charAt_5068e_8 ?_
  refine g_iload_n dJ0_charAt_5068e_11 rfl ?_
  refine g_callS (st := []) (c_lch hi hj) cs_J0_495 rfl rfl ⟨by decide, by decide⟩ (by decide) dJ0_charAt_5068e_12 ?_
  have hq : narrow .char (.int (sch i j)) = .int (sch i j) := by unfold sch; rw [hjk]; exact hs.2
  exact g_nret hr hq dJ0_charAt_5068e_15
section GS2
variable {X : Cx} {res : Option Value × Mem} {cc : ByteArray} {nL fr lo pc : Nat} {L : List (Option Value)} {st : List Value} {M : Mem}
theorem g_strlen (i : Nat) (hi : i < 3) {v : Int32} (hv : nI (sLen.getD i 0) = v) (hR : 2 ≤ fr ∧ 40 ≤ lo) (hsum : (st.map fun v => v.category).sum ≤ 8) (d : decode cc pc = .ok (.invokevirtual 98, 3)) (k : G X res RX3 cc nL fr lo (pc + 3) L (.int v :: st) M) : G X res RX3 cc nL fr lo pc L (.ref (X.1.2.2.2.1 i) :: st) M := by
  subst hv
  exact g_callW (Bs := []) (st := st) (c_len hi) cv_X3_98 rfl rfl rfl hR hsum d (fun C H locs hP hS => str_recv hi C hS) k
theorem g_charAt (i : Nat) (hi : i < 3) {j : Int32} (hj : vp_in j (sLen.getD i 0)) (hR : 4 ≤ fr ∧ 85 ≤ lo) (hsum : (st.map fun v => v.category).sum ≤ 8) (d : decode cc pc = .ok (.invokevirtual 103, 3)) (k : G X res RX3 cc nL fr lo (pc + 3) L (.int (sch i j) :: st) M) : G X res RX3 cc nL fr lo pc L (.int j :: .ref (X.1.2.2.2.1 i) :: st) M :=
  g_callW (Bs := [.int j]) (st := st) (c_sch hi hj) cv_X3_103 rfl rfl rfl hR hsum d (fun C H locs hP hS => str_recv hi C hS) k
end GS2
