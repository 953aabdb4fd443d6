/-! the law's start: the classes as the tables have them, the two objects, then the loop -/
theorem cl_L_7 : Cond.classLink R_law 7 RX7 ∈ TB := tb_at 63 (by decide +kernel) (by decide +kernel)
theorem it_X7 : Cond.instantiable RX7 12 ∈ TB := tb_at 64 (by decide +kernel) (by decide +kernel)
theorem ml_L_9 : Cond.methodLink R_law 9 yX7_init ∈ TB := tb_at 65 (by decide +kernel) (by decide +kernel)
theorem im_X7 : Cond.instanceMethod yX7_init ∈ TB := tb_at 66 (by decide +kernel) (by decide +kernel)
theorem ic_X7 : Cond.code yX7_init cX7_init 1 none ∈ TB := tb_at 67 (by decide +kernel) (by decide +kernel)
theorem ii_X7 : Cond.initialized RX7 ∈ TB := tb_at 48 (by decide +kernel) (by decide +kernel)
theorem cl_L_10 : Cond.classLink R_law 10 RX8 ∈ TB := tb_at 738 (by decide +kernel) (by decide +kernel)
theorem it_X8 : Cond.instantiable RX8 28 ∈ TB := tb_at 739 (by decide +kernel) (by decide +kernel)
theorem ml_L_12 : Cond.methodLink R_law 12 yX8_init ∈ TB := tb_at 740 (by decide +kernel) (by decide +kernel)
theorem im_X8 : Cond.instanceMethod yX8_init ∈ TB := tb_at 741 (by decide +kernel) (by decide +kernel)
theorem ic_X8 : Cond.code yX8_init cX8_init 1 none ∈ TB := tb_at 742 (by decide +kernel) (by decide +kernel)
theorem ii_X8 : Cond.initialized RX8 ∈ TB := tb_at 54 (by decide +kernel) (by decide +kernel)
theorem ar_of {s : State} {args : Array Value} {ty : FieldType} (hra : ∀ cA : ClassId, s.vm.findClass ("[" ++ ty.toString) = some cA → va_RA s cA ty) (h : (Cond.arrayClass ty).before args s = true) : ∃ cA : ClassId, ArrOfT s cA ty ∧ va_RA s cA ty := by
  obtain ⟨cA, kA, comp, hfind, hk, hkind⟩ := Cond.arrayClass_spec h
  exact ⟨cA, fun n z => ⟨fun k h => (by cases h), kA, hk, comp, hkind⟩, hra cA hfind⟩
theorem known7 {s : State} {args : Array Value} (hts : ∀ w ∈ TB, w.before args s = true) : ∃ D : va_G, ∀ (k : Nat) (q : vw_C), vwCl[k]? = some q → u_Kn s q.1 q.2.1 q.2.2 (D.1 k) (D.2 k) := by
  obtain ⟨c0, i0, h0⟩ := u_known (C := RX0) (T := TX0) (N := 2) hts inX0 (hts _ it_X0)
  obtain ⟨c1, i1, h1⟩ := u_known (C := RX2) (T := TX2) (N := 5) hts inX2 (hts _ it_X2)
  obtain ⟨c2, i2, h2⟩ := u_known (C := RX3) (T := TX3) (N := 6) hts inX3 (hts _ it_X3)
  obtain ⟨c3, i3, h3⟩ := u_known (C := RX4) (T := TX4) (N := 11) hts inX4 (hts _ it_X4)
  obtain ⟨c4, i4, h4⟩ := u_known (C := RX6) (T := TX6) (N := 6) hts inX6 (hts _ it_X6)
  obtain ⟨c5, i5, h5⟩ := u_known (C := RX7) (T := TX7) (N := 12) hts inX7 (hts _ it_X7)
  obtain ⟨c6, i6, h6⟩ := u_known (C := RX8) (T := TX8) (N := 28) hts inX8 (hts _ it_X8)
  refine ⟨(fun k => if k = 0 then c0 else if k = 1 then c1 else if k = 2 then c2 else if k = 3 then c3 else if k = 4 then c4 else if k = 5 then c5 else c6, fun k => if k = 0 then i0 else if k = 1 then i1 else if k = 2 then i2 else if k = 3 then i3 else if k = 4 then i4 else if k = 5 then i5 else i6), ?_⟩
  intro k q hq
  match k, hq with
  | 0, hq => cases hq; exact h0
  | 1, hq => cases hq; exact h1
  | 2, hq => cases hq; exact h2
  | 3, hq => cases hq; exact h3
  | 4, hq => cases hq; exact h4
  | 5, hq => cases hq; exact h5
  | 6, hq => cases hq; exact h6
  | k + 7, hq => simp [vwCl] at hq
theorem nwX7_same {U : State} {a : Array Value} {g : JFrame} {mk : MethodId} (h : nwX7 U) : nwX7 (U.calling g mk a) :=
  ⟨va_Nw.same rfl (u := U) rfl h.1, va_Nw.same rfl (u := U) rfl h.2.1, va_Nw.same rfl (u := U) rfl h.2.2.1, va_Nw.same rfl (u := U) rfl h.2.2.2.1, va_Nw.same rfl (u := U) rfl h.2.2.2.2.1, va_AO.moved (u := U) (U := U.calling g mk a) (Vm.Alike.refl U.vm) h.2.2.2.2.2⟩
theorem nwX7_warm {s U : State} (hW : s.WarmedH U.vm) (h : nwX7 s) : nwX7 U :=
  ⟨va_Nw.warmM hW h.1, va_Nw.warmM hW h.2.1, va_Nw.warmM hW h.2.2.1, va_Nw.warmM hW h.2.2.2.1, va_Nw.warmM hW h.2.2.2.2.1, va_AO.moved hW.alike h.2.2.2.2.2⟩
abbrev f7z : List Value := [.null, .null, .null, .null, .null, .null, .null, .null, .null, .int 0, .int 0, .int 0]
abbrev f8z : List Value := [.null, .null, .null, .null, .null, .null, .long 0, .long 0, .null, .null, .null, .null, .int 0, .null, .int 0, .int 0, .int 0, .null, .null, .null, .int 0, .int 0, .int 0, .int 0, .int 0, .null, .null, .null]
theorem f7z_ok : ∀ j, j < 12 → defaultValue (tyX7 j) = vp_V f7z j := fun j hj => by
  rcases (show j = 0 ∨ j = 1 ∨ j = 2 ∨ j = 3 ∨ j = 4 ∨ j = 5 ∨ j = 6 ∨ j = 7 ∨ j = 8 ∨ j = 9 ∨ j = 10 ∨ j = 11 by omega) with rfl | rfl | rfl | rfl | rfl | rfl | rfl | rfl | rfl | rfl | rfl | rfl <;> rfl
theorem f8z_ok : ∀ j, j < 28 → defaultValue (tyX8 j) = vp_V f8z j := fun j hj => by
  match j, hj with
  | 0, _ => rfl
  | 1, _ => rfl
  | 2, _ => rfl
  | 3, _ => rfl
  | 4, _ => rfl
  | 5, _ => rfl
  | 6, _ => rfl
  | 7, _ => rfl
  | 8, _ => rfl
  | 9, _ => rfl
  | 10, _ => rfl
  | 11, _ => rfl
  | 12, _ => rfl
  | 13, _ => rfl
  | 14, _ => rfl
  | 15, _ => rfl
  | 16, _ => rfl
  | 17, _ => rfl
  | 18, _ => rfl
  | 19, _ => rfl
  | 20, _ => rfl
  | 21, _ => rfl
  | 22, _ => rfl
  | 23, _ => rfl
  | 24, _ => rfl
  | 25, _ => rfl
  | 26, _ => rfl
  | 27, _ => rfl
  | k + 28, h => exact absurd h (by omega)
theorem av_of {D : va_G} {cI cJ cZ cR : ClassId} {a a2 : Nat → Nat} {sp : (Nat → Nat) × (Nat → Nat)} {A : Nat → Prop} (hD : va_D A (wl (EE D cI cJ cZ cR a a2 sp) M0)) : inj (EE D cI cJ cZ cR a a2 sp) ∧ ∀ q, Av (EE D cI cJ cZ cR a a2 sp) q → A q := by
  refine ⟨fun i j hi hj h => hD.1 i j _ _ (wl_get hi) (wl_get hj) h, fun q hq => ?_⟩
  obtain ⟨k, hk, rfl⟩ := hq
  exact hD.2 k _ (wl_get hk)
