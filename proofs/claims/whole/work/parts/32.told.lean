/-! note, bridge, river -/
theorem ix36 (k : Nat) : (36 : Int32) + ((2 : Int32) * nI k) = nI (36 + 2 * k) := by
  have e : (2 : Int32) * nI k = nI (2 * k) := pk_mul 2 k
  rw [e]; exact nI_add 36 _
theorem ixn (k : Nat) : (4 : Int32) + ((2 : Int32) * nI k) = nI (4 + 2 * k) := by
  have e : (2 : Int32) * nI k = nI (2 * k) := pk_mul 2 k
  rw [e]; exact nI_add 4 _
theorem e_note {M : Mem} (h : Inv M) (x y z : Int32) : Same (f_X7_note x y z) (f_X8_note x y z) M := by
  obtain ⟨⟨B, m, N, u, a1, a2, a3, a4, a5, a6, a7, a8, a9⟩, h2, h3, h4, h5, h6⟩ := id h
  have hB := (show (mB7 M).1 64 0 = nI B from a2.2)
  rcases arg x B with ⟨a, ha, ha2, rfl⟩ | hx
  · rcases arg y 4 with ⟨b, hb, hb2, rfl⟩ | hy
    · rcases arg z 4 with ⟨c, hc, hc2, rfl⟩ | hz
      · obtain ⟨l1, hl1, e1, e2⟩ := a7 b hb
        obtain ⟨l2, hl2, e3, e4⟩ := a7 c hc
        have hN8 := a1.2.2.1
        by_cases hN : N < 8
        · have hck : ∀ k : Option Mem, ck (nI N) 8 k = k := ck_y hN (by decide)
          have hcl : (nI N).toNatClampNeg = N := cl (by omega)
          have hlt : nI N < (8 : Int32) := (v_lt 8 8 (by omega)).mpr hN
          have p7 : f_X2_put_7 (nI a) (nI m) (eC l1) (eC l2) M = some (mI (mL (mL (mI (mI M 8 N (nI a)) 9 N (nI m)) 10 N (eC l1)) 11 N (eC l2)) 7 4 (nI (N + 1))) := by
            have q1 : (mI M 8 N (nI a)).1 7 4 = nI N := a4.1
            have q2 : (mI (mI M 8 N (nI a)) 9 N (nI m)).1 7 4 = nI N := a4.1
            have q3 : (mL (mI (mI M 8 N (nI a)) 9 N (nI m)) 10 N (eC l1)).1 7 4 = nI N := a4.1
            have q4 : (mL (mL (mI (mI M 8 N (nI a)) 9 N (nI m)) 10 N (eC l1)) 11 N (eC l2)).1 7 4 = nI N := a4.1
            unfold f_X2_put_7
            simp only [a4.1, if_pos hlt, hck, hcl, q1, q2, q3, q4, nI_1]
          have F : ∀ i, i ≠ 2 → i ≠ 36 + 2 * N → i ≠ 36 + 2 * N + 1 → upd (upd (upd (M.1 64) (36 + 2 * N) (nI a)) (36 + 2 * N + 1) (nI m)) 2 (nI (N + 1)) i = M.1 64 i := fun i e1 e2 e3 => by rw [pk_un e1, pk_un e3, pk_un e2]
          refine ⟨nI (N + 1), mI (mL (mL (mI (mI M 8 N (nI a)) 9 N (nI m)) 10 N (eC l1)) 11 N (eC l2)) 7 4 (nI (N + 1)), mI (mL (mL (mI (mI (mI (mL (mL (mI (mI M 8 N (nI a)) 9 N (nI m)) 10 N (eC l1)) 11 N (eC l2)) 7 4 (nI (N + 1))) 64 (36 + 2 * N) (nI a)) 64 (36 + 2 * N + 1) (nI m)) 66 (4 + 2 * N) (eM l1)) 66 (4 + 2 * N + 1) (eM l2)) 64 2 (nI (N + 1)), ?_, ?_, ⟨B, m, N + 1, u, ⟨a1.1, a1.2.1, by omega, a1.2.2.2⟩, ?_, ?_, ⟨rfl, rfl⟩, ?_, ?_, ?_, ?_, ?_⟩, h2, h3, h4, h5, h6⟩
          · unfold f_X7_note
            rw [br7_y a2.1 ha a1.1, z10, row7_y hb, z10, row7_y hc, z10, a4.1, if_pos hlt, ck_y hb (by decide), ck_y hc (by decide), cl hb2, cl hc2, e1, e3, a3.1, p7, Option.bind_some]
            rfl
          · unfold f_X8_note
            generalize hA : mI (mL (mL (mI (mI M 8 N (nI a)) 9 N (nI m)) 10 N (eC l1)) 11 N (eC l2)) 7 4 (nI (N + 1)) = A
            have b0 : A.1 64 0 = nI B := by rw [← hA]; exact a2.2
            have b1 : A.1 64 1 = nI m := by rw [← hA]; exact a3.2
            have b2 : A.1 64 2 = nI N := by rw [← hA]; exact a4.2
            have b3 : A.2 66 b = eM l1 := by rw [← hA]; exact e2
            have b4 : A.2 66 c = eM l2 := by rw [← hA]; exact e4
            have c1 : (mI A 64 (36 + 2 * N) (nI a)).1 64 1 = nI m := (pk_un (f := A.1 64) (by omega)).trans b1
            have c2 : (mI (mI A 64 (36 + 2 * N) (nI a)) 64 (36 + 2 * N + 1) (nI m)).2 66 b = eM l1 := b3
            have c3 : (mL (mI (mI A 64 (36 + 2 * N) (nI a)) 64 (36 + 2 * N + 1) (nI m)) 66 (4 + 2 * N) (eM l1)).2 66 c = eM l2 := (pk_uLn (f := A.2 66) (by omega)).trans b4
            have c4 : (mL (mL (mI (mI A 64 (36 + 2 * N) (nI a)) 64 (36 + 2 * N + 1) (nI m)) 66 (4 + 2 * N) (eM l1)) 66 (4 + 2 * N + 1) (eM l2)).1 64 2 = nI N := by
              show (mI (mI A 64 (36 + 2 * N) (nI a)) 64 (36 + 2 * N + 1) (nI m)).1 64 2 = nI N
              rw [mI_at, pk_un (by omega), mI_at, pk_un (by omega)]; exact b2
            rw [br8_y b0 ha a1.1, z10, row8_y hb, z10, row8_y hc, z10, b2, if_neg (fun q => by have := (v_eq 8 8 (by omega)).mp q; omega), ix36, nI_1, ixn, nI_1, ck_y (by omega) (by decide), ck_y (by omega) (by decide), ck_y (by omega) (by decide), ck_y (by omega) (by decide), ck_y (by omega) (by decide), ck_y (by omega) (by decide), cl (by omega), cl (by omega), cl (by omega), cl (by omega), cl (by omega), cl (by omega)]
            simp only [c1, c2, c3, c4, nI_1]
            rfl
          · exact ⟨a2.1, (F 0 (by omega) (by omega) (by omega)).trans a2.2⟩
          · exact ⟨a3.1, (F 1 (by omega) (by omega) (by omega)).trans a3.2⟩
          · exact ⟨a5.1, (F 3 (by omega) (by omega) (by omega)).trans a5.2⟩
          · intro k hk
            exact BR_c (a6 k hk) rfl rfl rfl rfl (fun i h1 h2 => by show upd (upd (upd (M.1 64) _ _) _ _) 2 _ i = _; have := a1.1; rw [pk_un (by omega), pk_un (by omega), pk_un (by omega)])
          · intro r hr
            show nr (M.2 6 r) (vp_updL (vp_updL (M.2 66) _ _) _ _ r)
            rw [pk_uLn (by omega), pk_uLn (by omega)]; exact a7 r hr
          · intro k hk
            by_cases e : k = N
            · subst e
              refine ⟨⟨a, m, by have := a1.1; omega, a1.2.1, ?_, ?_, ?_, ?_⟩, ⟨l1, hl1, ?_, ?_⟩, ⟨l2, hl2, ?_, ?_⟩⟩
              · exact pk_us (f := M.1 8)
              · show upd (upd (upd (M.1 64) _ _) _ _) 2 _ _ = _
                rw [pk_un (by omega), pk_un (by omega), pk_us]
              · exact pk_us (f := M.1 9)
              · show upd (upd (upd (M.1 64) _ _) _ _) 2 _ _ = _
                rw [pk_un (by omega), pk_us]
              · exact pk_uLs (f := M.2 10)
              · show vp_updL (vp_updL (M.2 66) _ _) _ _ _ = _
                rw [pk_uLn (by omega), pk_uLs]
              · exact pk_uLs (f := M.2 11)
              · show vp_updL (vp_updL (M.2 66) _ _) _ _ _ = _
                rw [pk_uLs]
            · refine NT_c (a8 k (by omega)) (pk_un (f := M.1 8) e) (pk_un (f := M.1 9) e) (pk_uLn (f := M.2 10) e) (pk_uLn (f := M.2 11) e) (fun i h1 h2 => ?_) (fun i h1 h2 => ?_)
              · show upd (upd (upd (M.1 64) _ _) _ _) 2 _ i = _
                rw [pk_un (by omega), pk_un (by omega), pk_un (by omega)]
              · show vp_updL (vp_updL (M.2 66) _ _) _ _ i = _
                rw [pk_uLn (by omega), pk_uLn (by omega)]
          · intro j hj
            refine UN_c (a9 j hj) hj a1.2.2.2 (Nat.le_refl _) a1.1 rfl rfl ?_ (fun i h1 h2 => ?_) (fun i h1 h2 => ?_)
            · exact F 1 (by omega) (by omega) (by omega)
            · show upd (upd (upd (M.1 64) _ _) _ _) 2 _ i = _
              rw [pk_un (by omega), pk_un (by omega), pk_un (by omega)]
            · show upd (upd (upd (M.1 64) _ _) _ _) 2 _ i = _
              rw [pk_un (by omega), pk_un (by omega), pk_un (by omega)]
        · refine s_full (v := -4) h ?_ ?_
          · unfold f_X7_note
            rw [br7_y a2.1 ha a1.1, z10, row7_y hb, z10, row7_y hc, z10, a4.1, if_neg (fun q => hN ((v_lt 8 8 (by omega)).mp q))]; rfl
          · unfold f_X8_note
            have b2 : (mF7 M).1 64 2 = nI N := a4.2
            rw [br8_y (M := mF7 M) a2.2 ha a1.1, z10, row8_y hb, z10, row8_y hc, z10, b2, if_pos ((v_eq 8 8 (by omega)).mpr (by omega))]; rfl
      · exact s_bad (v := -2) h (by unfold f_X7_note; rw [br7_y a2.1 ha a1.1, z10, row7_y hb, z10, row7_n hz]; rfl) (by unfold f_X8_note; rw [br8_y hB ha a1.1, z10, row8_y hb, z10, row8_n hz]; rfl)
    · exact s_bad (v := -2) h (by unfold f_X7_note; rw [br7_y a2.1 ha a1.1, z10, row7_n hy]; rfl) (by unfold f_X8_note; rw [br8_y hB ha a1.1, z10, row8_n hy]; rfl)
  · exact s_bad (v := -2) h (by unfold f_X7_note; rw [br7_n a2.1 hx a1.1]; rfl) (by unfold f_X8_note; rw [br8_n hB hx a1.1]; rfl)
theorem e_bridge {M : Mem} (h : Inv M) (x y z w : Int32) : Same (f_X7_bridge x y z w) (f_X8_bridge x y z w) M := by
  obtain ⟨⟨B, m, N, u, a1, a2, a3, a4, a5, a6, a7, a8, a9⟩, h2, h3, h4, h5, h6⟩ := id h
  rcases arg x 6 with ⟨a, ha, ha2, rfl⟩ | hx
  · have k1 : f_X7_isBelow (nI a) (6 : Int32) = 1 := bel_y ha rfl (by decide)
    rcases arg y 6 with ⟨b, hb, hb2, rfl⟩ | hy
    · have k2 : f_X7_isBelow (nI b) (6 : Int32) = 1 := bel_y hb rfl (by decide)
      by_cases hab : nI a = nI b
      · exact s_bad (v := -2) h (by unfold f_X7_bridge; rw [k1, z10, k2, z10, if_pos hab]; rfl) (by unfold f_X8_bridge; rw [pl8_y ha, z10, pl8_y hb, z10, if_pos hab]; rfl)
      · rcases arg z 6 with ⟨c, hc, hc2, rfl⟩ | hz
        · have k3 : f_X7_isBelow (nI c) (6 : Int32) = 1 := bel_y hc rfl (by decide)
          have m3 : f_X8_in (nI c).toInt64 (0 : Int64) (5 : Int64) = 1 := in_y hc hc2 (by decide)
          rcases arg w 16 with ⟨d, hd, hd2, rfl⟩ | hw
          · have k4 : f_X7_isBelow (nI d) (16 : Int32) = 1 := bel_y hd rfl (by decide)
            have m4 : f_X8_in (nI d).toInt64 (0 : Int64) (15 : Int64) = 1 := in_y hd hd2 (by decide)
            have k5 : f_X7_isRule (nI c) (nI d) = 1 := by unfold f_X7_isRule; rw [k3, z10, k4, z10]
            have hB8 := a1.1
            by_cases hB : B < 8
            · have hck : ∀ k : Option (Int32 × Mem), ck (nI B) 8 k = k := ck_y hB (by decide)
              have hcl : (nI B).toNatClampNeg = B := cl (by omega)
              have hlt : nI B < (8 : Int32) := (v_lt 8 8 (by omega)).mpr hB
              have p7 : f_X4_build_1 (nI a) (nI b) (nI c) (nI d) M = some (nI B, mI (mI (mI (mI (mI (mI M 2 B (nI a)) 3 B (nI b)) 4 B (nI c)) 5 B (nI d)) 1 6 (nI (B + 1))) 1 8 0) := by
                have q4 : (mI (mI (mI (mI M 2 B (nI a)) 3 B (nI b)) 4 B (nI c)) 5 B (nI d)).1 1 6 = nI B := a2.1
                unfold f_X4_build_1
                simp only [a2.1, if_pos hlt, hck, hcl, q4, nI_1]
              have F : ∀ i, i ≠ 0 → i ≠ 3 → i < 4 → upd (upd (upd (upd (upd (upd (M.1 64) (4 + 4 * B + 0) (nI a)) (4 + 4 * B + 1) (nI b)) (4 + 4 * B + 2) (nI c)) (4 + 4 * B + 3) (nI d)) 0 (nI (B + 1))) 3 0 i = M.1 64 i := fun i e1 e2 e3 => by rw [pk_un e2, pk_un e1, pk_un (by omega), pk_un (by omega), pk_un (by omega), pk_un (by omega)]
              refine ⟨nI B, mI (mI (mI (mI (mI (mI M 2 B (nI a)) 3 B (nI b)) 4 B (nI c)) 5 B (nI d)) 1 6 (nI (B + 1))) 1 8 0, mI (mI (mI (mI (mI (mI (mI (mI (mI (mI (mI (mI M 2 B (nI a)) 3 B (nI b)) 4 B (nI c)) 5 B (nI d)) 1 6 (nI (B + 1))) 1 8 0) 64 (4 + 4 * B + 0) (nI a)) 64 (4 + 4 * B + 1) (nI b)) 64 (4 + 4 * B + 2) (nI c)) 64 (4 + 4 * B + 3) (nI d)) 64 0 (nI (B + 1))) 64 3 0, ?_, ?_, ⟨B + 1, m, N, 0, ⟨by omega, a1.2.1, a1.2.2.1, by omega⟩, ⟨rfl, rfl⟩, ?_, ?_, ⟨rfl, rfl⟩, ?_, a7, ?_, fun j hj => absurd hj (by omega)⟩, h2, h3, h4, h5, h6⟩
              · unfold f_X7_bridge
                rw [k1, z10, k2, z10, if_neg hab, k5, z10, a2.1, if_pos hlt, p7, Option.bind_some]
              · unfold f_X8_bridge
                generalize hA : mI (mI (mI (mI (mI (mI M 2 B (nI a)) 3 B (nI b)) 4 B (nI c)) 5 B (nI d)) 1 6 (nI (B + 1))) 1 8 0 = A
                have b0 : A.1 64 0 = nI B := by rw [← hA]; exact a2.2
                have p8 : f_X8_layBridge_64 (nI a) (nI b) (nI c) (nI d) A = some (mI (mI (mI (mI (mI A 64 (4 + 4 * B + 0) (nI a)) 64 (4 + 4 * B + 1) (nI b)) 64 (4 + 4 * B + 2) (nI c)) 64 (4 + 4 * B + 3) (nI d)) 64 0 (nI (B + 1))) := by
                  unfold f_X8_layBridge_64
                  have q0 := ix4 B 0
                  have q1 := ix4 B 1
                  have q2 := ix4 B 2
                  have q3 := ix4 B 3
                  have t1 : (mI A 64 (4 + 4 * B + 0) (nI a)).1 64 0 = nI B := by rw [mI_at, pk_un (by omega)]; exact b0
                  have t2 : (mI (mI A 64 (4 + 4 * B + 0) (nI a)) 64 (4 + 4 * B + 1) (nI b)).1 64 0 = nI B := by rw [mI_at, pk_un (by omega)]; exact t1
                  have t3 : (mI (mI (mI A 64 (4 + 4 * B + 0) (nI a)) 64 (4 + 4 * B + 1) (nI b)) 64 (4 + 4 * B + 2) (nI c)).1 64 0 = nI B := by rw [mI_at, pk_un (by omega)]; exact t2
                  have t4 : (mI (mI (mI (mI A 64 (4 + 4 * B + 0) (nI a)) 64 (4 + 4 * B + 1) (nI b)) 64 (4 + 4 * B + 2) (nI c)) 64 (4 + 4 * B + 3) (nI d)).1 64 0 = nI B := by rw [mI_at, pk_un (by omega)]; exact t3
                  have u0 : ∀ k : Option Mem, ck (nI (4 + 4 * B + 0)) 188 k = k := ck_y (by omega) (by decide)
                  have u1 : ∀ k : Option Mem, ck (nI (4 + 4 * B + 1)) 188 k = k := ck_y (by omega) (by decide)
                  have u2 : ∀ k : Option Mem, ck (nI (4 + 4 * B + 2)) 188 k = k := ck_y (by omega) (by decide)
                  have u3 : ∀ k : Option Mem, ck (nI (4 + 4 * B + 3)) 188 k = k := ck_y (by omega) (by decide)
                  have w0 : (nI (4 + 4 * B + 0)).toNatClampNeg = 4 + 4 * B + 0 := cl (by omega)
                  have w1 : (nI (4 + 4 * B + 1)).toNatClampNeg = 4 + 4 * B + 1 := cl (by omega)
                  have w2 : (nI (4 + 4 * B + 2)).toNatClampNeg = 4 + 4 * B + 2 := cl (by omega)
                  have w3 : (nI (4 + 4 * B + 3)).toNatClampNeg = 4 + 4 * B + 3 := cl (by omega)
                  have q0' : ((4 : Int32) + ((4 : Int32) * nI B)) + (0 : Int32) = nI (4 + 4 * B + 0) := q0
                  have q1' : ((4 : Int32) + ((4 : Int32) * nI B)) + (1 : Int32) = nI (4 + 4 * B + 1) := q1
                  have q2' : ((4 : Int32) + ((4 : Int32) * nI B)) + (2 : Int32) = nI (4 + 4 * B + 2) := q2
                  have q3' : ((4 : Int32) + ((4 : Int32) * nI B)) + (3 : Int32) = nI (4 + 4 * B + 3) := q3
                  simp only [b0, q0', q1', q2', q3', u0, u1, u2, u3, w0, w1, w2, w3, t4, nI_1]
                rw [pl8_y ha, z10, pl8_y hb, z10, if_neg hab, m3, z10, m4, z10]
                unfold f_X8_bridges
                rw [b0, if_neg (fun q => by have := (v_eq 8 8 (by omega)).mp q; omega), p8, Option.bind_some]
                show some (nI (B + 1) - 1, _) = _
                rw [show nI (B + 1) - (1 : Int32) = nI B by rw [← nI_1]; exact Int32.add_sub_cancel _ _]
              · exact ⟨a3.1, (F 1 (by omega) (by omega) (by omega)).trans a3.2⟩
              · exact ⟨a4.1, (F 2 (by omega) (by omega) (by omega)).trans a4.2⟩
              · intro k hk
                by_cases e : k = B
                · subst e
                  refine ⟨a, b, c, d, ha, hb, hc, hd, pk_us (f := M.1 2), ?_, pk_us (f := M.1 3), ?_, pk_us (f := M.1 4), ?_, pk_us (f := M.1 5), ?_⟩
                  · show upd (upd (upd (upd (upd (upd (M.1 64) (4 + 4 * k + 0) (nI a)) (4 + 4 * k + 1) (nI b)) (4 + 4 * k + 2) (nI c)) (4 + 4 * k + 3) (nI d)) 0 (nI (k + 1))) 3 0 (4 + 4 * k) = _
                    rw [pk_un (by omega), pk_un (by omega), pk_un (by omega), pk_un (by omega), pk_un (by omega)]; exact pk_us (f := M.1 64)
                  · show upd (upd (upd (upd (upd (upd (M.1 64) (4 + 4 * k + 0) (nI a)) (4 + 4 * k + 1) (nI b)) (4 + 4 * k + 2) (nI c)) (4 + 4 * k + 3) (nI d)) 0 (nI (k + 1))) 3 0 (4 + 4 * k + 1) = _
                    rw [pk_un (by omega), pk_un (by omega), pk_un (by omega), pk_un (by omega), pk_us]
                  · show upd (upd (upd (upd (upd (upd (M.1 64) (4 + 4 * k + 0) (nI a)) (4 + 4 * k + 1) (nI b)) (4 + 4 * k + 2) (nI c)) (4 + 4 * k + 3) (nI d)) 0 (nI (k + 1))) 3 0 (4 + 4 * k + 2) = _
                    rw [pk_un (by omega), pk_un (by omega), pk_un (by omega), pk_us]
                  · show upd (upd (upd (upd (upd (upd (M.1 64) (4 + 4 * k + 0) (nI a)) (4 + 4 * k + 1) (nI b)) (4 + 4 * k + 2) (nI c)) (4 + 4 * k + 3) (nI d)) 0 (nI (k + 1))) 3 0 (4 + 4 * k + 3) = _
                    rw [pk_un (by omega), pk_un (by omega), pk_us]
                · exact BR_c (a6 k (by omega)) (pk_un (f := M.1 2) e) (pk_un (f := M.1 3) e) (pk_un (f := M.1 4) e) (pk_un (f := M.1 5) e) (fun i h1 h2 => by show upd (upd (upd (upd (upd (upd (M.1 64) _ _) _ _) _ _) _ _) 0 _) 3 _ i = _; rw [pk_un (by omega), pk_un (by omega), pk_un (by omega), pk_un (by omega), pk_un (by omega), pk_un (by omega)])
              · intro k hk
                exact NT_c (a8 k hk) rfl rfl rfl rfl (fun i h1 h2 => by show upd (upd (upd (upd (upd (upd (M.1 64) _ _) _ _) _ _) _ _) 0 _) 3 _ i = _; rw [pk_un (by omega), pk_un (by omega), pk_un (by omega), pk_un (by omega), pk_un (by omega), pk_un (by omega)]) (fun _ _ _ => rfl)
            · refine s_full (v := -4) h ?_ ?_
              · unfold f_X7_bridge
                rw [k1, z10, k2, z10, if_neg hab, k5, z10, a2.1, if_neg (fun q => hB ((v_lt 8 8 (by omega)).mp q))]; rfl
              · unfold f_X8_bridge f_X8_bridges
                have b2 : (mF7 M).1 64 0 = nI B := a2.2
                rw [pl8_y ha, z10, pl8_y hb, z10, if_neg hab, m3, z10, m4, z10, b2, if_pos ((v_eq 8 8 (by omega)).mpr (by omega))]; rfl
          · exact s_bad (v := -2) h (by unfold f_X7_bridge f_X7_isRule; rw [k1, z10, k2, z10, if_neg hab, k3, z10, bel_n (v := 16) hw rfl (by decide)]; rfl) (by unfold f_X8_bridge; rw [pl8_y ha, z10, pl8_y hb, z10, if_neg hab, m3, z10, in_n hw (by decide)]; rfl)
        · exact s_bad (v := -2) h (by unfold f_X7_bridge f_X7_isRule; rw [k1, z10, k2, z10, if_neg hab, bel_n (v := 6) hz rfl (by decide)]; rfl) (by unfold f_X8_bridge; rw [pl8_y ha, z10, pl8_y hb, z10, if_neg hab, in_n hz (by decide)]; rfl)
    · exact s_bad (v := -2) h (by unfold f_X7_bridge; rw [k1, z10, bel_n (v := 6) hy rfl (by decide)]; rfl) (by unfold f_X8_bridge; rw [pl8_y ha, z10, pl8_n hy]; rfl)
  · exact s_bad (v := -2) h (by unfold f_X7_bridge; rw [bel_n (v := 6) hx rfl (by decide)]; rfl) (by unfold f_X8_bridge; rw [pl8_n hx]; rfl)
def zL (g : Nat → Int64) (i : Nat) : Nat → Int64 := fun t => if t < i then 0 else g t
def zI (g : Nat → Int32) (i : Nat) : Nat → Int32 := fun t => if t < i then 0 else g t
theorem zL_s (g : Nat → Int64) (i : Nat) : vp_updL (zL g i) i 0 = zL g (i + 1) := by
  funext t; unfold zL
  by_cases e : t = i
  · subst e; rw [pk_uLs, if_pos (by omega)]
  · rw [pk_uLn e]
    by_cases e2 : t < i
    · rw [if_pos e2, if_pos (by omega)]
    · rw [if_neg e2, if_neg (by omega)]
theorem zI_s (g : Nat → Int32) (i : Nat) : upd (zI g i) i 0 = zI g (i + 1) := by
  funext t; unfold zI
  by_cases e : t = i
  · subst e; rw [pk_us, if_pos (by omega)]
  · rw [pk_un e]
    by_cases e2 : t < i
    · rw [if_pos e2, if_pos (by omega)]
    · rw [if_neg e2, if_neg (by omega)]
theorem zL_0 (g : Nat → Int64) : zL g 0 = g := by funext t; unfold zL; rw [if_neg (by omega)]
theorem zI_0 (g : Nat → Int32) : zI g 0 = g := by funext t; unfold zI; rw [if_neg (by omega)]
theorem x7_rest {M : Mem} (x : Int32) (g : Nat → Int64) : ∀ (d i n : Nat), i + d = 4 → d < n → b_X4_restart_1_2 x n (nI i) (rL M 6 (zL g i)) = b_X4_restart_1_20 x (rL M 6 (zL g 4))
  | _, _, 0, _, hn => absurd hn (Nat.not_lt_zero _)
  | 0, i, n + 1, hi, _ => by
    rw [b_X4_restart_1_2.eq_2, if_pos ((v_ge 4 4 (by omega)).mpr (by omega)), show i = 4 by omega]
  | d + 1, i, n + 1, hi, hn => by
    have ih := x7_rest (M := M) x g d (i + 1) n (by omega) (by omega)
    rw [b_X4_restart_1_2.eq_2, if_neg (fun q => by have := (v_ge 4 4 (by omega)).mp q; omega), ck_y (by omega) (by decide), cl (by omega), mL_rL, zL_s, nI_1]
    exact ih
theorem x8_beg {M : Mem} (x : Int32) (g : Nat → Int32) : ∀ (d i n : Nat), i + d = 52 → d < n → b_X8_begin_64_2 x n (nI i) (rI M 64 (zI g i)) = some (mI (rI M 64 (zI g 52)) 64 1 x)
  | _, _, 0, _, hn => absurd hn (Nat.not_lt_zero _)
  | 0, i, n + 1, hi, _ => by
    rw [b_X8_begin_64_2.eq_2, if_pos ((v_ge 52 52 (by omega)).mpr (by omega)), show i = 52 by omega]
  | d + 1, i, n + 1, hi, hn => by
    have ih := x8_beg (M := M) x g d (i + 1) n (by omega) (by omega)
    rw [b_X8_begin_64_2.eq_2, if_neg (fun q => by have := (v_ge 52 52 (by omega)).mp q; omega), ck_y (by omega) (by decide), cl (by omega), mI_rI, zI_s, nI_1]
    exact ih
theorem x8_riv {M : Mem} (x : Int32) (g : Nat → Int64) : ∀ (d i n : Nat), i + d = 4 → d < n → b_X8_river_34 x n (nI i) (rL M 66 (zL g i)) = some (x, rL M 66 (zL g 4))
  | _, _, 0, _, hn => absurd hn (Nat.not_lt_zero _)
  | 0, i, n + 1, hi, _ => by
    rw [b_X8_river_34.eq_2, if_pos ((v_ge 4 4 (by omega)).mpr (by omega)), show i = 4 by omega]
  | d + 1, i, n + 1, hi, hn => by
    have ih := x8_riv (M := M) x g d (i + 1) n (by omega) (by omega)
    rw [b_X8_river_34.eq_2, if_neg (fun q => by have := (v_ge 4 4 (by omega)).mp q; omega), ck_y (by omega) (by decide), cl (by omega), mL_rL, zL_s, nI_1]
    exact ih
theorem e_river {M : Mem} (h : Inv M) (x : Int32) : Same (f_X7_river x) (f_X8_river x) M := by
  obtain ⟨⟨B, m, N, u, a1, a2, a3, a4, a5, a6, a7, a8, a9⟩, h2, h3, h4, h5, h6⟩ := id h
  have hf := fu_big
  rcases arg x 12 with ⟨a, ha, ha2, rfl⟩ | hx
  · have k1 : f_X7_isBelow (nI a) (12 : Int32) = 1 := bel_y ha rfl (by decide)
    have m1 : f_X8_in (nI a).toInt64 (0 : Int64) (11 : Int64) = 1 := in_y ha ha2 (by decide)
    have r7 := x7_rest (M := M) (nI a) (M.2 6) 4 0 fu (by omega) (by omega)
    rw [zL_0, rL_self] at r7
    refine ⟨nI B, mI (mI (mI (mI (rL M 6 (zL (M.2 6) 4)) 7 4 0) 1 6 0) 1 7 (nI a)) 1 8 0, rL (mI (rI (mI (mI (mI (mI (rL M 6 (zL (M.2 6) 4)) 7 4 0) 1 6 0) 1 7 (nI a)) 1 8 0) 64 (zI (M.1 64) 52)) 64 1 (nI a)) 66 (zL (M.2 66) 4), ?_, ?_, ⟨0, a, 0, 0, ⟨by omega, ha, by omega, by omega⟩, ⟨rfl, rfl⟩, ⟨rfl, rfl⟩, ⟨rfl, rfl⟩, ⟨rfl, rfl⟩, fun k hk => absurd hk (by omega), ?_, fun k hk => absurd hk (by omega), fun k hk => absurd hk (by omega)⟩, h2, h3, h4, h5, h6⟩
    · unfold f_X7_river f_X4_restart_1
      rw [k1, z10]
      refine (congrArg (fun q => Option.bind q _) r7).trans ?_
      show some (M.1 1 6, _) = _
      rw [a2.1]
    · unfold f_X8_river f_X8_begin_64
      rw [m1, z10]
      generalize hA : mI (mI (mI (mI (rL M 6 (zL (M.2 6) 4)) 7 4 0) 1 6 0) 1 7 (nI a)) 1 8 0 = A
      have e64 : A.1 64 = M.1 64 := by rw [← hA]; rfl
      have e66 : A.2 66 = M.2 66 := by rw [← hA]; rfl
      have r8 := x8_beg (M := A) (nI a) (A.1 64) 52 0 fu (by omega) (by omega)
      rw [zI_0, rI_self] at r8
      refine (congrArg (fun q => Option.bind q _) r8).trans ?_
      have r9 := x8_riv (M := mI (rI A 64 (zI (A.1 64) 52)) 64 1 (nI a)) (f_X8_bridges A) (A.2 66) 4 0 fu (by omega) (by omega)
      rw [zL_0] at r9
      have e7 : rL (mI (rI A 64 (zI (A.1 64) 52)) 64 1 (nI a)) 66 (A.2 66) = mI (rI A 64 (zI (A.1 64) 52)) 64 1 (nI a) := rL_self (mI (rI A 64 (zI (A.1 64) 52)) 64 1 (nI a)) 66
      rw [e7] at r9
      refine r9.trans ?_
      unfold f_X8_bridges
      rw [e64, e66, a2.2]
    · intro r hr
      show nr (zL (M.2 6) 4 r) (zL (M.2 66) 4 r)
      unfold zL
      rw [if_pos hr, if_pos hr]
      exact nr0
  · exact s_bad (v := -2) h (by unfold f_X7_river; rw [bel_n (v := 12) hx rfl (by decide)]; rfl) (by unfold f_X8_river; rw [in_n hx (by decide)]; rfl)
