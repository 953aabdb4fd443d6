/-! the law, from its entry -/
set_option maxHeartbeats 4000000 in
set_option maxRecDepth 100000 in
theorem whole_start {p : Program} {e : Env} {s : State} {m : MethodId} {below : List Frame} {meth : Method} {c : Code} (l : Launch) (hflags : l.flags = flags0) {b L : Nat} {xs : Nat → Int32} (hL : L ≤ 384) (C0 : lw_At p s m meth c b L xs) : W p l e room_1 s m #[Value.ref b] below meth c s.heap [] 0 0 (lw_Z below #[Value.ref b] s) (entryFrame m ([Value.ref b] : List Value).toArray 4) := by
  obtain ⟨hx, hb, hr, hml, hown, hts0, hX, hbl, hlocks, hgv⟩ := id C0
  have hts : ∀ w ∈ TB, w.before #[Value.ref b] s = true := fun w h => hts0 w (tb_in h)
  have hA : ∀ q : Nat, s.heap.size ≤ q → nwA s q := fun _ h => h
  obtain ⟨D, hKc⟩ := known7 hts
  obtain ⟨cI, i1, i2⟩ := ar_of (ty := .int) (fun _ h => h) (hts _ tb_aI)
  obtain ⟨cJ, j1, j2⟩ := ar_of (ty := .long) (fun _ h => h) (hts _ tb_aJ)
  obtain ⟨cZ, z1, z2⟩ := ar_of (ty := .boolean) (fun _ h => h) (hts _ tb_aZ)
  have hK : va_K D vwCl (ty3 cI cJ cZ) s := ⟨hKc, fun k q h => by
    match k, h with
    | 0, h => cases h; exact ⟨i1, i2⟩
    | 1, h => cases h; exact ⟨j1, j2⟩
    | 2, h => cases h; exact ⟨z1, z2⟩
    | k + 3, h => simp at h⟩
  have hN : nwX7 s := ⟨va_Nw.of rfl (hts0 _ (List.mem_of_getElem? (i := 73) (by decide +kernel))), va_Nw.of rfl (hts0 _ (List.mem_of_getElem? (i := 79) (by decide +kernel))), va_Nw.of rfl (hts0 _ (List.mem_of_getElem? (i := 158) (by decide +kernel))), va_Nw.of rfl (hts0 _ (List.mem_of_getElem? (i := 185) (by decide +kernel))), va_Nw.of rfl (hts0 _ (List.mem_of_getElem? (i := 214) (by decide +kernel))), va_AO.of (hts0 _ (List.mem_of_getElem? (i := 155) (by decide +kernel)))⟩
  have hS : va_S (nwA s) s.heap s.heap [] := va_S.rf
  have hP : va_P D vwCl [] s.heap := fun k q h => by simp at h
  have hD : va_D (nwA s) [] := ⟨fun i j p q h => by simp at h, fun k q h => by simp at h⟩
  have hl := lv_entry ([.ref b]) (n := 4) (Nat.le_of_ble_eq_true rfl)
  rw [lg_entry_eq]
  generalize (lg_sl ([.ref b]) ++ List.replicate (4 - (lg_sl ([.ref b])).length) Slot.unset).toArray = ls at hl ⊢
  have hl : lv_has ls 4 [(0, .ref b)] := hl
  refine va_new (ci := 5) (fs := f7z) (C := RX7) (T := TX7) (N := 12) hx hb hts inX7 tyX7 tyX7_ok hown (hts _ cl_L_7) (hts _ it_X7) (hts _ ii_X7) hK hP hD hS hA rfl f7z_ok (Nat.le_of_ble_eq_true rfl) (Nat.le_of_ble_eq_true rfl) dL_law_0 (fun q H hP hD hS => ?_)
  have hP : va_P D vwCl ([] ++ [(q, .inr (5, f7z))]) H := hP
  have hD : va_D (nwA s) ([] ++ [(q, .inr (5, f7z))]) := hD
  refine lv_dup hx hb dL_law_3 rfl ?_
  have hFc := nf hD hS hA
  refine va_callv (va_runI (As := []) (rest := [.ref q]) ⟨hx, hb, hml, hown, hts⟩ (ct_X7 l D cI cJ cZ q H.size) (cwI 0 hts (tb_goodIn ic_X7) rfl rfl rfl (hts _ ii_X7) (hts _ ml_L_9) (hts _ im_X7) rfl (by decide +kernel) ⟨Nat.le_of_ble_eq_true rfl, Nat.le_of_ble_eq_true rfl⟩) ⟨fun a U g mk h => by
      obtain ⟨q0, q1, qP, qK, qD, qN⟩ := h
      exact ⟨q0, q1, qP, va_K.moved (u := U) (U := U.calling g mk a) (Vm.Alike.refl U.vm) qK, qD, nwX7_same qN⟩, fun U hU hW => ⟨rfl, by rw [hU], by rw [hU]; exact hP, va_K.moved hW.alike hK, hD.weaken (fun _ _ _ _ => trivial), nwX7_warm hW hN⟩⟩ rfl rfl hl.1 rfl (lv_room (Nat.le_of_ble_eq_true rfl)) dL_law_4 ⟨Nat.le_of_ble_eq_true rfl, Nat.le_of_ble_eq_true rfl⟩) hS (fun q _ h => hFc q h) hFc (fun u t H1 locs ht hvm hw hB hz1 hk1 hS => ?_)
  obtain ⟨cR, a, ha, hKR, hP1, hD1⟩ := hB
  rw [ht] at hP1
  obtain ⟨hP, hD⟩ := nj hP hD hk1 hFc hP1 hD1
  have hKR := va_K.moved hvm.symm hKR
  have hP : va_P D vwCl (bnW D cI cJ cZ cR a) H1 := hP
  have hD : va_D (nwA s) (bnW D cI cJ cZ cR a) := hD
  rw [← ha]
  refine lv_astore_n (lv' := [(1, .ref (a 0)), (0, .ref b)]) hx hb dL_law_7 rfl hl (by decide) rfl (fun ls hl => ?_)
  refine va_new (ci := 6) (fs := f8z) (C := RX8) (T := TX8) (N := 28) hx hb hts inX8 tyX8 tyX8_ok hown (hts _ cl_L_10) (hts _ it_X8) (hts _ ii_X8) hK hP hD hS hA rfl f8z_ok (Nat.le_of_ble_eq_true rfl) (Nat.le_of_ble_eq_true rfl) dL_law_8 (fun q H hP hD hS => ?_)
  refine lv_dup hx hb dL_law_11 rfl ?_
  have hFc := nf hD hS hA
  have hPc : va_P D vwCl [(q, .inr (6, f8z))] H := hP.sub [(bnW D cI cJ cZ cR a).length] (by simp)
  have hDc : va_D (nwA s) [(q, .inr (6, f8z))] := hD.sub [(bnW D cI cJ cZ cR a).length] rfl (by simp)
  refine va_callv (va_runI (As := []) (rest := [.ref q]) ⟨hx, hb, hml, hown, hts⟩ (ct_X8 l D cI cJ cZ q H.size) (cwI 0 hts (tb_goodIn ic_X8) rfl rfl rfl (hts _ ii_X8) (hts _ ml_L_12) (hts _ im_X8) rfl (by decide +kernel) ⟨Nat.le_of_ble_eq_true rfl, Nat.le_of_ble_eq_true rfl⟩) ⟨fun a U g mk h => by
      obtain ⟨q0, q1, qP, qK, qD, qN⟩ := h
      exact ⟨q0, q1, qP, va_K.moved (u := U) (U := U.calling g mk a) (Vm.Alike.refl U.vm) qK, qD, qN⟩, fun U hU hW => ⟨rfl, by rw [hU], by rw [hU]; exact hPc, va_K.moved hW.alike hK, hDc.weaken (fun _ _ _ _ => trivial), trivial⟩⟩ rfl rfl hl.1 rfl (lv_room (Nat.le_of_ble_eq_true rfl)) dL_law_12 ⟨Nat.le_of_ble_eq_true rfl, Nat.le_of_ble_eq_true rfl⟩) hS (fun q _ h => hFc q h) hFc (fun u t2 H2 locs ht2 hvm2 hw2 hB2 hz2 hk2 hS => ?_)
  obtain ⟨a2, ha2, hP2, hD2⟩ := hB2
  rw [ht2] at hP2
  obtain ⟨hP, hD⟩ := nj hP hD hk2 hFc hP2 hD2
  rw [← ha2]
  refine lv_astore_n (lv' := [(2, .ref (a2 0)), (1, .ref (a 0)), (0, .ref b)]) hx hb dL_law_15 rfl hl (by decide) rfl (fun ls hl => ?_)
  refine lv_iconst (v := 0) hx hb dL_law_16 (by decide) ?_
  refine lv_istore_n (lv' := [(3, .int 0), (2, .ref (a2 0)), (1, .ref (a 0)), (0, .ref b)]) hx hb dL_law_17 rfl hl (by decide) rfl (fun ls hl => ?_)
  obtain ⟨adK, adV, o1, o2, o3, o4, o5, v, o6, o7⟩ := so_of hts0 hgv
  rw [← w_eq (sp := (adK, adV))] at hP hD
  obtain ⟨hj, hv⟩ := av_of hD
  have C : LC (EE D cI cJ cZ cR a a2 (adK, adV)) p s m meth c b L xs := ⟨hx, hb, hr, hml, hown, hts, hX, hbl, hlocks, hKR, hj, ⟨o1.narrow hv, o2, o3, o4, o5.narrow hv, v, o6, o7.narrow hv⟩, hv⟩
  refine law_loop (l := l) (e := e) (below := below) C hL (L + 1) 0 M0 inv0 (by omega) (by omega) H2 locs ls hP hS ⟨hl.1, hl.2.1, fun i v h => ?_⟩
  match i, h with
  | 0, h => cases h; exact hl.2.2 (0, .ref b) (by simp)
  | 1, h => cases h; exact hl.2.2 (1, .ref (a 0)) (by simp)
  | 2, h => cases h; exact hl.2.2 (2, .ref (a2 0)) (by simp)
  | 3, h => cases h; exact hl.2.2 (3, .int 0) (by simp)
  | i + 4, h => simp [Lo] at h
