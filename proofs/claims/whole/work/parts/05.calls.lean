/-! entry, calls, and how a pure function's value is followed -/
def sv : Slot → Option Value
  | .val v => some v
  | _ => none
def la (nL : Nat) (vs : List Value) : List (Option Value) := (lg_sl vs ++ List.replicate (nL - (lg_sl vs).length) Slot.unset).map sv
theorem la_lvr {nL : Nat} {vs : List Value} (h : (lg_sl vs).length ≤ nL) : lvr ((lg_sl vs ++ List.replicate (nL - (lg_sl vs).length) Slot.unset).toArray) nL (la nL vs) := by
  obtain ⟨h1, h2, -⟩ := lv_entry vs h
  refine ⟨h1, h2, fun i v hv => ?_⟩
  unfold la at hv
  rw [List.getElem?_map] at hv
  rw [List.getElem?_toArray]
  cases hs : (lg_sl vs ++ List.replicate (nL - (lg_sl vs).length) Slot.unset)[i]? with
  | none => rw [hs] at hv; cases hv
  | some z =>
    rw [hs] at hv
    cases z <;> simp [sv] at hv
    rw [hv]
theorem cn_of {l : Launch} {y : MethodName} {cc : ByteArray} {nL : Nat} {ret : Option FieldType} {fr lo : Nat} {As : En → List Value} {M : Mem} {res : Option Value × Mem} (own : String) (Lx : En → List (Option Value)) (hy : plainName y.cls = true) (hown : y.cls = own) (hlen : ∀ E, (lg_sl (As E)).length ≤ nL) (hL : ∀ E, la nL (As E) = Lx E)
    (body : ∀ X : Cx, X.meth.sig.returnType = ret → G X res own cc nL fr lo 0 (Lx X.1) [] M) : Cn l y cc nL ret fr lo As M res := by
  intro E
  refine Met.ofW (cc := cc) (maxL := nL) (ret := ret) hy rfl ?_
  intro p e s m args below meth c s₁ B hml hv
  obtain ⟨rfl, hP, hK, hinj, hSO⟩ := hv
  have K := body (E, p, l, e, rmOf fr lo, s, m, (As E).toArray, below, meth, c) B.returns
  have hts := atoms_spec (ws := Cond.code y cc nL ret :: TB) B.pre
  rw [lg_entry_eq]
  refine K ⟨B.exec, B.bytes, hml, ?_, fun w hw => hts w (List.mem_cons_of_mem _ hw), hK, hinj, hSO, Nat.le_refl _, Nat.le_refl _, B.notSynchronized⟩ s.heap [] _ hP va_S.rf ?_
  · rw [← hown]; exact findClass_of_methodNamed B.named
  · rw [← hL]; exact la_lvr (hlen E)
theorem ite_t {α : Type} {c : Prop} {i : Decidable c} {A B r : α} (hc : c) (hf : @ite α c i A B = r) : A = r := by rw [← hf, if_pos hc]
theorem ite_f {α : Type} {c : Prop} {i : Decidable c} {A B r : α} (hc : ¬ c) (hf : @ite α c i A B = r) : B = r := by rw [← hf, if_neg hc]
theorem bnd {α β : Type} {o : Option α} {k : α → Option β} {r : β} (h : o.bind k = some r) : ∃ a, o = some a ∧ k a = some r := by
  cases o with
  | none => cases h
  | some a => exact ⟨a, rfl, h⟩
def ck {α : Type} (i : Int32) (n : Nat) (k : Option α) : Option α := if i < 0 ∨ n ≤ i.toNatClampNeg then none else k
theorem ck_s {α : Type} {i : Int32} {n : Nat} {k : Option α} {r : α} (h : ck i n k = some r) : vp_in i n ∧ k = some r := by
  unfold ck at h
  split at h
  · cases h
  · rename_i q; exact ⟨q, h⟩
def ckB {α : Type} (v : Int32) (k : Option α) : Option α := if v = 0 ∨ v = 1 then k else none
theorem ckB_s {α : Type} {v : Int32} {k : Option α} {r : α} (h : ckB v k = some r) : (v = 0 ∨ v = 1) ∧ k = some r := by
  unfold ckB at h
  split at h
  · rename_i q; exact ⟨q, h⟩
  · cases h
def ckN {α : Type} (v : Int32) (k : Option α) : Option α := if v = 0 then none else k
theorem ckN_s {α : Type} {v : Int32} {k : Option α} {r : α} (h : ckN v k = some r) : (¬ v = 0) ∧ k = some r := by
  unfold ckN at h
  split at h
  · cases h
  · rename_i q; exact ⟨q, h⟩
def ckM {α : Type} (v : Int64) (k : Option α) : Option α := if v = 0 then none else k
theorem ckM_s {α : Type} {v : Int64} {k : Option α} {r : α} (h : ckM v k = some r) : (¬ v = 0) ∧ k = some r := by
  unfold ckM at h
  split at h
  · cases h
  · rename_i q; exact ⟨q, h⟩
theorem lsk {a : Option Value} {l l2 : List (Option Value)} (h : lsub l l2) : lsub (a :: l) (a :: l2) := ⟨Or.inr rfl, h⟩
theorem lsd {a : Option Value} {l l2 : List (Option Value)} (h : lsub l l2) : lsub (a :: l) (none :: l2) := ⟨Or.inl rfl, h⟩
theorem lsz : lsub [] [] := trivial
theorem g_weakr {X : Cx} {res : Option Value × Mem} {own : String} {cc : ByteArray} {nL fr lo pc : Nat} {L L2 : List (Option Value)} {st : List Value} {M : Mem} (k : G X res own cc nL fr lo pc L2 st M) (h : lsub L L2) : G X res own cc nL fr lo pc L st M := g_weak h k
/-- how often a loop may turn in what follows -/
def fu : Nat := 400000
/-- what the tables say of a call -/
def CWs (own : String) (index : Nat) (y : MethodName) (cc : ByteArray) (nL : Nat) (ret : Option FieldType) (n : Nat) : Prop :=
  Cond.methodLink own index y ∈ TB ∧ Cond.static y ∈ TB ∧ Cond.initialized y.cls ∈ TB ∧ Cond.code y cc nL ret ∈ TB ∧ (y.cls ≠ "java/lang/invoke/MethodHandle" ∧ y.cls ≠ "java/lang/invoke/VarHandle" ∧ (parseMethodDescriptor y.desc).map (fun d => d.parameters.length) = some n)
def CWv (own : String) (index : Nat) (y : MethodName) (cc : ByteArray) (nL : Nat) (ret : Option FieldType) (n : Nat) : Prop :=
  Cond.methodLink own index y ∈ TB ∧ Cond.instanceMethod y ∈ TB ∧ Cond.selects y.cls y y ∈ TB ∧ Cond.initialized y.cls ∈ TB ∧ Cond.code y cc nL ret ∈ TB ∧ (y.cls ≠ "java/lang/invoke/MethodHandle" ∧ y.cls ≠ "java/lang/invoke/VarHandle" ∧ (parseMethodDescriptor y.desc).map (fun d => d.parameters.length) = some n)
theorem tb_goodIn {y : MethodName} {cc : ByteArray} {nL : Nat} {ret : Option FieldType} (h : Cond.code y cc nL ret ∈ TB) : GoodIn TB (.code y cc nL ret :: TB) := fun w hw => by
  rcases List.mem_cons.mp hw with rfl | h2
  · exact ⟨h, tb_good h⟩
  · exact ⟨h2, tb_good h2⟩
theorem hol_blind {E : En} {M : Mem} {As : List Value} : FrameBlind (va_Pc As (Hol E M)) := by
  rintro a U g mk ⟨h1, h2, h3, h4, h5⟩
  exact ⟨h1, h2, va_K.moved (u := U) (U := U.calling g mk a) (Vm.Alike.refl U.vm) h3, h4, SO.same (s := U) (U := U.calling g mk a) rfl h5⟩
section GC
variable {X : Cx} {res : Option Value × Mem} {own : String} {cc : ByteArray} {nL fr lo pc : Nat} {L : List (Option Value)} {st stk : List Value} {M M1 : Mem}
theorem g_run {Qa : State → Outcome → State → Prop} {r : Option Value} {H : Heap} {locs : List Loc} {ls : Array Slot} (hQ : ∀ st t v, Qa st (.returned v) t → v = r ∧ va_P X.1.2.1 vwCl (wl X.1 M1) t.heap ∧ va_F (Av X.1) st t)
    (run : va_Run X.2.1 X.2.2.1 X.2.2.2.1 X.R X.s X.2.2.2.2.2.2.1 X.2.2.2.2.2.2.2.1 X.2.2.2.2.2.2.2.2.1 X.meth X.2.2.2.2.2.2.2.2.2.2 H locs 0 0 0 0 (F0 X.2.2.2.2.2.2.1 pc ls stk) st Qa (Av X.1)) (C : Ck X own cc nL fr lo) (hS : va_S (Av X.1) X.s.heap H locs) (hl : lvr ls nL L)
    (k : G X res own cc nL fr lo (pc + 3) L (r.toList ++ st) M1) : W X.2.1 X.2.2.1 X.2.2.2.1 X.R X.s X.2.2.2.2.2.2.1 X.2.2.2.2.2.2.2.1 X.2.2.2.2.2.2.2.2.1 X.meth X.2.2.2.2.2.2.2.2.2.2 H locs 0 0 (MQ X.2.2.2.2.2.2.2.2.1 (Qm X.1 res) X.2.2.2.2.2.2.2.1 X.s 0 0 (Av X.1)) (F0 X.2.2.2.2.2.2.1 pc ls stk) := by
  intro T hT XS
  obtain ⟨v, st₀, t, T', L', h0, X', hL, e1, e2, hq, go⟩ := run T hT XS
  obtain ⟨rfl, hP1, hz, hk⟩ := hQ _ _ _ hq
  rw [h0] at hz hk
  obtain ⟨t2, a1, b1⟩ := k C T'.heap (locs ++ L') ls (by rw [e1]; exact hP1) ⟨Nat.le_trans hS.1 (by rw [e1]; exact hz), fun q h1 h2 => by rw [e1, hk q (Nat.lt_of_lt_of_le h1 hS.1) h2]; exact hS.2.1 q h1 h2, fun q hq => by
      rcases List.mem_append.mp hq with h | h
      · exact hS.2.2 q h
      · exact hL q h⟩ hl T' rfl X'
  exact ⟨t2, go t2 a1, b1⟩
theorem hol_at {As : List Value} {H : Heap} {locs : List Loc} (C : Ck X own cc nL fr lo) (hP : va_P X.1.2.1 vwCl (wl X.1 M) H) (hS : va_S (Av X.1) X.s.heap H locs) : ∀ U : State, U.heap = H → X.s.WarmedH U.vm → va_Pc As (Hol X.1 M) As.toArray U := fun U hU hW =>
  ⟨rfl, by rw [hU]; exact hP, va_K.moved hW.alike C.2.2.2.2.2.1, C.2.2.2.2.2.2.1, by rw [hU]; exact SO.warm hW (C.2.2.2.2.2.2.2.1.kept hS.2.1)⟩
theorem g_callS {y : MethodName} {cc2 : ByteArray} {nL2 index n fr2 lo2 : Nat} {ret : Option FieldType} {As : En → List Value} {r : Option Value} (hM : Cn X.2.2.1 y cc2 nL2 ret fr2 lo2 As M (r, M1)) (hw : CWs own index y cc2 nL2 ret n) (hn : (As X.1).length = n) (hst : stk = (As X.1).reverse ++ st) (hR : fr2 + 1 ≤ fr ∧ 8 + (nL2 + 11) + lo2 ≤ lo) (hsum : (st.map fun v => v.category).sum ≤ 8) (d : decode cc pc = .ok (.invokestatic index, 3))
    (k : G X res own cc nL fr lo (pc + 3) L (r.toList ++ st) M1) : G X res own cc nL fr lo pc L stk M := fun C H locs ls hP hS hl => by
  have cb := callB_of (R := X.R) (s := X.s) (args := X.2.2.2.2.2.2.2.1) (own := own) (index := index) (y := y) (rm := rmOf fr2 lo2) (mc := 0) (ms := 0) n C.2.2.2.2.1 (tb_goodIn hw.2.2.2.1) rfl rfl rfl (C.2.2.2.2.1 _ hw.2.2.1) (C.2.2.2.2.1 _ hw.1) hw.2.2.2.2 ⟨Nat.le_trans hR.1 C.2.2.2.2.2.2.2.2.1, Nat.le_trans hR.2 C.2.2.2.2.2.2.2.2.2.1⟩
  exact g_run (r := r) (M1 := M1) (fun st t v h => ⟨Outcome.returned.inj h.1, h.2.1, h.2.2⟩) (va_runS (As := As X.1) (rest := st) ⟨C.1, C.2.1, C.2.2.1, C.2.2.2.1, C.2.2.2.2.1⟩ (hM X.1) ⟨cb, C.2.2.2.2.1 _ hw.2.1⟩ ⟨hol_blind, hol_at C hP hS⟩ rfl hn hl.1 hst (lv_room hsum) d ⟨Nat.zero_le _, Nat.zero_le _⟩) C hS hl k
theorem g_callW {y : MethodName} {cc2 : ByteArray} {nL2 index n fr2 lo2 b : Nat} {ret : Option FieldType} {As : En → List Value} {Bs : List Value} {r : Option Value} (hM : Cn X.2.2.1 y cc2 nL2 ret fr2 lo2 As M (r, M1)) (hw : CWv own index y cc2 nL2 ret n) (hA : As X.1 = .ref b :: Bs) (hn : Bs.length = n) (hst : stk = Bs.reverse ++ .ref b :: st) (hR : fr2 + 1 ≤ fr ∧ 8 + (nL2 + 11) + lo2 ≤ lo) (hsum : (st.map fun v => v.category).sum ≤ 8) (d : decode cc pc = .ok (.invokevirtual index, 3))
    (hrec : Ck X own cc nL fr lo → ∀ (H : Heap) (locs : List Loc), va_P X.1.2.1 vwCl (wl X.1 M) H → va_S (Av X.1) X.s.heap H locs → ∃ cell : Cell, H[b]? = some cell ∧ cell.vm.isStatics = false ∧ X.s.vm.findClass y.cls = some cell.cls)
    (k : G X res own cc nL fr lo (pc + 3) L (r.toList ++ st) M1) : G X res own cc nL fr lo pc L stk M := fun C H locs ls hP hS hl => by
  have cb := callB_of (R := X.R) (s := X.s) (args := X.2.2.2.2.2.2.2.1) (own := own) (index := index) (y := y) (rm := rmOf fr2 lo2) (mc := 0) (ms := 0) n C.2.2.2.2.1 (tb_goodIn hw.2.2.2.2.1) rfl rfl rfl (C.2.2.2.2.1 _ hw.2.2.2.1) (C.2.2.2.2.1 _ hw.1) hw.2.2.2.2.2 ⟨Nat.le_trans hR.1 C.2.2.2.2.2.2.2.2.1, Nat.le_trans hR.2 C.2.2.2.2.2.2.2.2.2.1⟩
  have hM1 := hM X.1
  rw [hA] at hM1
  exact g_run (r := r) (M1 := M1) (fun st t v h => ⟨Outcome.returned.inj h.1, h.2.1, h.2.2⟩) (va_runV (C := y.cls) (As := Bs) (rest := st) ⟨C.1, C.2.1, C.2.2.1, C.2.2.2.1, C.2.2.2.2.1⟩ hM1 ⟨cb, C.2.2.2.2.1 _ hw.2.1, C.2.2.2.2.1 _ hw.2.2.1⟩ ⟨hol_blind, hrec C H locs hP hS, hol_at C hP hS⟩ rfl hn hl.1 hst (lv_room hsum) d ⟨Nat.zero_le _, Nat.zero_le _⟩) C hS hl k
theorem gr_recv {kk ci N : Nat} {C0 : String} {T : u_T} {fs : List Value} (hk : kk < nCell) (hc : cel X.1 kk (M.1 kk) (M.2 kk) = .inr (ci, fs)) (hcl : vwCl[ci]? = some (C0, T, N)) (C : Ck X own cc nL fr lo) {H : Heap} (hP : va_P X.1.2.1 vwCl (wl X.1 M) H) : ∃ cell : Cell, H[X.1.1 kk]? = some cell ∧ cell.vm.isStatics = false ∧ X.s.vm.findClass C0 = some cell.cls :=
  va_recv (q := (C0, T, N)) C.2.2.2.2.2.1 hP hcl (show (wl X.1 M)[kk]? = some (X.1.1 kk, .inr (ci, fs)) by rw [wl_get hk, hc])
end GC
section GE
variable {X : Cx} {own : String} {cc : ByteArray} {nL fr lo pc : Nat} {L : List (Option Value)} {M M1 : Mem}
theorem g_iret_t {v r : Int32} (hr : X.meth.sig.returnType = some .int) (hf : v = r) (d : decode cc pc = .ok (.ireturn, 1)) : G X (some (.int r), M) own cc nL fr lo pc L [.int v] M := by subst hf; exact g_iret hr d
theorem g_iret_p {v r : Int32} (hr : X.meth.sig.returnType = some .int) (hf : some v = some r) (d : decode cc pc = .ok (.ireturn, 1)) : G X (some (.int r), M) own cc nL fr lo pc L [.int v] M := by cases hf; exact g_iret hr d
theorem g_iret_w {v r : Int32} (hr : X.meth.sig.returnType = some .int) (hf : some (v, M) = some (r, M1)) (d : decode cc pc = .ok (.ireturn, 1)) : G X (some (.int r), M1) own cc nL fr lo pc L [.int v] M := by cases hf; exact g_iret hr d
theorem g_lret_t {v r : Int64} (hr : X.meth.sig.returnType = some .long) (hf : v = r) (d : decode cc pc = .ok (.lreturn, 1)) : G X (some (.long r), M) own cc nL fr lo pc L [.long v] M := by subst hf; exact g_lret hr d
theorem g_lret_p {v r : Int64} (hr : X.meth.sig.returnType = some .long) (hf : some v = some r) (d : decode cc pc = .ok (.lreturn, 1)) : G X (some (.long r), M) own cc nL fr lo pc L [.long v] M := by cases hf; exact g_lret hr d
theorem g_lret_w {v r : Int64} (hr : X.meth.sig.returnType = some .long) (hf : some (v, M) = some (r, M1)) (d : decode cc pc = .ok (.lreturn, 1)) : G X (some (.long r), M1) own cc nL fr lo pc L [.long v] M := by cases hf; exact g_lret hr d
theorem g_zret_t {v r : Int32} (hr : X.meth.sig.returnType = some .boolean) (hv : v = 0 ∨ v = 1) (hf : v = r) (d : decode cc pc = .ok (.ireturn, 1)) : G X (some (.int r), M) own cc nL fr lo pc L [.int v] M := by subst hf; exact g_zret hr hv d
theorem g_zret_p {v r : Int32} (hr : X.meth.sig.returnType = some .boolean) (hv : v = 0 ∨ v = 1) (hf : some v = some r) (d : decode cc pc = .ok (.ireturn, 1)) : G X (some (.int r), M) own cc nL fr lo pc L [.int v] M := by cases hf; exact g_zret hr hv d
theorem g_zret_w {v r : Int32} (hr : X.meth.sig.returnType = some .boolean) (hv : v = 0 ∨ v = 1) (hf : some (v, M) = some (r, M1)) (d : decode cc pc = .ok (.ireturn, 1)) : G X (some (.int r), M1) own cc nL fr lo pc L [.int v] M := by cases hf; exact g_zret hr hv d
theorem g_vret_w (hr : X.meth.sig.returnType = none) (hf : some M = some M1) (d : decode cc pc = .ok (.return_, 1)) : G X (none, M1) own cc nL fr lo pc L [] M := by cases hf; exact g_vret hr d
end GE
