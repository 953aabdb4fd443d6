/-! what is made: rows for arrays of the three classes that are known, for an object by its constructor -/
abbrev ty3 (cI cJ cZ : ClassId) : List (ClassId × FieldType) := [(cI, .int), (cJ, .long), (cZ, .boolean)]
abbrev zi : Nat → Int32 := fun _ => 0
abbrev zl : Nat → Int64 := fun _ => 0
abbrev aI (cI : ClassId) (n : Nat) : va_E := .inl (cI, n, .inl zi)
abbrev aJ (cJ : ClassId) (n : Nat) : va_E := .inl (cJ, n, .inr (.inl zl))
theorem kq_i {D : va_G} {cl : List vw_C} {s : State} {cI cJ cZ cA : ClassId} (h : va_K D cl (ty3 cI cJ cZ ++ [(cA, .int)]) s) : cA = cI := by
  have h0 := (h.2 0 (cI, .int) rfl).2
  have h3 := (h.2 3 (cA, .int) rfl).2
  exact Option.some.inj (Eq.trans (Eq.symm h3) h0)
theorem kq_j {D : va_G} {cl : List vw_C} {s : State} {cI cJ cZ cA : ClassId} (h : va_K D cl (ty3 cI cJ cZ ++ [(cA, .long)]) s) : cA = cJ := by
  have h0 := (h.2 1 (cJ, .long) rfl).2
  have h3 := (h.2 3 (cA, .long) rfl).2
  exact Option.some.inj (Eq.trans (Eq.symm h3) h0)
theorem kq_z {D : va_G} {cl : List vw_C} {s : State} {cI cJ cZ cA : ClassId} (h : va_K D cl (ty3 cI cJ cZ ++ [(cA, .boolean)]) s) : cA = cZ := by
  have h0 := (h.2 2 (cZ, .boolean) rfl).2
  have h3 := (h.2 3 (cA, .boolean) rfl).2
  exact Option.some.inj (Eq.trans (Eq.symm h3) h0)
theorem tb_aI : Cond.arrayClass .int ∈ TB := tb_at 105 (by decide +kernel) (by decide +kernel)
theorem tb_aJ : Cond.arrayClass .long ∈ TB := tb_at 106 (by decide +kernel) (by decide +kernel)
theorem tb_aZ : Cond.arrayClass .boolean ∈ TB := tb_at 182 (by decide +kernel) (by decide +kernel)
theorem tb_oi : Cond.instanceMethod objectInit ∈ TB := tb_at 69 (by decide +kernel) (by decide +kernel)
theorem tb_oc : Cond.code objectInit ⟨#[0xb1]⟩ 1 none ∈ TB := tb_at 70 (by decide +kernel) (by decide +kernel)
section NW
variable {p : Program} {l : Launch} {e : Env} {R : Room} {s : State} {m : MethodId} {args : Array Value} {below : List Frame} {meth : Method} {c : Code} {H H0 : Heap} {locs : List Loc} {cells slots : Nat} {Q : State → Prop} {pc : Nat} {ls : Array Slot} {rest : List Value} {cc : ByteArray} {D : va_G} {A : Nat → Prop} {ws : va_W} {cI cJ cZ : ClassId}
theorem nw_i (hexec : p.tables.exec = Jvm.exec) (hb : c.code = cc) (hts : ∀ w ∈ TB, w.before args s = true) (hK : va_K D vwCl (ty3 cI cJ cZ) s) (hP : va_P D vwCl ws H) (hD : va_D A ws) (hS : va_S A H0 H locs) (hA : ∀ q, H0.size ≤ q → A q)
    {n : Int32} (N' : Nat) (hn : ¬ n < 0) (hN : n.toNatClampNeg = N') (hbytes : N' * componentBytes .int ≤ 536870912) (hcells : cells + 1 ≤ R.cells) (hslots : slots + N' ≤ R.slots) (hdg : decode cc pc = .ok (.newarray .int, 2))
    (kk : ∀ (q : Nat) (H1 : Heap), va_P D vwCl (ws ++ [(q, aI cI N')]) H1 → va_D A (ws ++ [(q, aI cI N')]) → va_S A H0 H1 locs →
      W p l e R s m args below meth c H1 locs (cells + 1) (slots + N') Q (F0 m (pc + 2) ls (.ref q :: rest))) : W p l e R s m args below meth c H locs cells slots Q (F0 m pc ls (.int n :: rest)) := by
  refine va_newa (atype := .int) (ty := .int) (a0 := (N', .inl zi)) hexec hb (hts _ tb_aI) rfl hK hP hD hS hA (fun _ => rfl) hn hN hbytes hcells hslots hdg (fun q cA H1 hK1 hP1 hD1 hS1 => ?_)
  have := kq_i hK1
  subst this
  exact kk q H1 hP1 hD1 hS1
theorem nw_j (hexec : p.tables.exec = Jvm.exec) (hb : c.code = cc) (hts : ∀ w ∈ TB, w.before args s = true) (hK : va_K D vwCl (ty3 cI cJ cZ) s) (hP : va_P D vwCl ws H) (hD : va_D A ws) (hS : va_S A H0 H locs) (hA : ∀ q, H0.size ≤ q → A q)
    {n : Int32} (N' : Nat) (hn : ¬ n < 0) (hN : n.toNatClampNeg = N') (hbytes : N' * componentBytes .long ≤ 536870912) (hcells : cells + 1 ≤ R.cells) (hslots : slots + N' ≤ R.slots) (hdg : decode cc pc = .ok (.newarray .long, 2))
    (kk : ∀ (q : Nat) (H1 : Heap), va_P D vwCl (ws ++ [(q, aJ cJ N')]) H1 → va_D A (ws ++ [(q, aJ cJ N')]) → va_S A H0 H1 locs →
      W p l e R s m args below meth c H1 locs (cells + 1) (slots + N') Q (F0 m (pc + 2) ls (.ref q :: rest))) : W p l e R s m args below meth c H locs cells slots Q (F0 m pc ls (.int n :: rest)) := by
  refine va_newa (atype := .long) (ty := .long) (a0 := (N', .inr (.inl zl))) hexec hb (hts _ tb_aJ) rfl hK hP hD hS hA (fun _ => rfl) hn hN hbytes hcells hslots hdg (fun q cA H1 hK1 hP1 hD1 hS1 => ?_)
  have := kq_j hK1
  subst this
  exact kk q H1 hP1 hD1 hS1
theorem nw_z (hexec : p.tables.exec = Jvm.exec) (hb : c.code = cc) (hts : ∀ w ∈ TB, w.before args s = true) (hK : va_K D vwCl (ty3 cI cJ cZ) s) (hP : va_P D vwCl ws H) (hD : va_D A ws) (hS : va_S A H0 H locs) (hA : ∀ q, H0.size ≤ q → A q)
    {n : Int32} (N' : Nat) (hn : ¬ n < 0) (hN : n.toNatClampNeg = N') (hbytes : N' * componentBytes .boolean ≤ 536870912) (hcells : cells + 1 ≤ R.cells) (hslots : slots + N' ≤ R.slots) (hdg : decode cc pc = .ok (.newarray .boolean, 2))
    (kk : ∀ (q : Nat) (H1 : Heap), va_P D vwCl (ws ++ [(q, aI cZ N')]) H1 → va_D A (ws ++ [(q, aI cZ N')]) → va_S A H0 H1 locs →
      W p l e R s m args below meth c H1 locs (cells + 1) (slots + N') Q (F0 m (pc + 2) ls (.ref q :: rest))) : W p l e R s m args below meth c H locs cells slots Q (F0 m pc ls (.int n :: rest)) := by
  refine va_newa (atype := .boolean) (ty := .boolean) (a0 := (N', .inl zi)) hexec hb (hts _ tb_aZ) rfl hK hP hD hS hA (fun _ => rfl) hn hN hbytes hcells hslots hdg (fun q cA H1 hK1 hP1 hD1 hS1 => ?_)
  have := kq_z hK1
  subst this
  exact kk q H1 hP1 hD1 hS1
end NW
theorem nd_of : ∀ l : List Nat, l.Nodup → va_nd l = true
  | [], _ => rfl
  | a :: l, h => by
    have h1 := List.nodup_cons.mp h
    unfold va_nd
    rw [nd_of l h1.2, decide_eq_true h1.1]; rfl
/-- behind a constructor's call: the rest, and what it made -/
theorem nj {A0 : Nat → Prop} {D : va_G} {cl : List vw_C} {ws w1 : va_W} {q : Nat} {e : va_E} {H H1 : Heap} (hP : va_P D cl (ws ++ [(q, e)]) H) (hD : va_D A0 (ws ++ [(q, e)]))
    (hk : ∀ r : Nat, r < H.size → ¬ va_A [(q, e)] H.size r → H1[r]? = H[r]?) (hF : ∀ r, va_A [(q, e)] H.size r → A0 r) (hP1 : va_P D cl w1 H1) (hD1 : va_D (va_A [(q, e)] H.size) w1) : va_P D cl (ws ++ w1) H1 ∧ va_D A0 (ws ++ w1) := by
  refine va_join (wc := [(q, e)]) hP hD [ws.length] (List.range ws.length) ?_ ?_ ?_ ?_ hk hF hP1 hD1
  · simp
  · apply List.ext_getElem?
    intro i
    by_cases hi : i < ws.length
    · simp [hi, List.getElem?_append_left]
    · simp [hi]
  · exact nd_of _ List.nodup_range
  · intro i hi
    simp at hi ⊢
    omega
theorem nf {A0 : Nat → Prop} {ws : va_W} {q : Nat} {e : va_E} {H0 H : Heap} {locs : List Loc} (hD : va_D A0 (ws ++ [(q, e)])) (hS : va_S A0 H0 H locs) (hA : ∀ q, H0.size ≤ q → A0 q) : ∀ r, va_A [(q, e)] H.size r → A0 r :=
  va_free hD hS hA [ws.length] (by simp)

/-- a constructor's contract: from its object's fields as they come, the world that it leaves -/
abbrev ctA (h0 ci sz : Nat) (fs0 : List Value) : Nat → Prop := va_A [(h0, .inr (ci, fs0))] sz
def CT (l : Launch) (y : MethodName) (cc : ByteArray) (fr lo mc ms ci : Nat) (fs0 : List Value) (NW : State → Prop) (Wf : (Nat → Nat) → va_W) (D : va_G) (cI cJ cZ : ClassId) : Prop :=
  ∀ h0 sz : Nat, Met l y (.code y cc 1 none :: TB) { frames := fr, cells := mc, slots := ms, locals := lo } (va_Pc [.ref h0] (fun U => U.heap.size = sz ∧ va_P D vwCl [(h0, .inr (ci, fs0))] U.heap ∧ va_K D vwCl (ty3 cI cJ cZ) U ∧ va_D (fun _ => True) [(h0, .inr (ci, fs0))] ∧ NW U))
    (va_Qv (fun _ : Unit => True) (fun _ t => ∃ a : Nat → Nat, a 0 = h0 ∧ va_P D vwCl (Wf a) t.heap ∧ va_D (ctA h0 ci sz fs0) (Wf a)) (ctA h0 ci sz fs0)) mc ms (ctA h0 ci sz fs0)
theorem ct_of {l : Launch} {y : MethodName} {cc : ByteArray} {fr lo mc ms ci : Nat} {fs0 : List Value} {NW : State → Prop} {Wf : (Nat → Nat) → va_W} {D : va_G} {cI cJ cZ : ClassId} (hy : plainName y.cls = true) (hyn : y.name = "<init>")
    (body : ∀ (p : Program) (e : Env) (s : State) (m : MethodId) (below : List Frame) (meth : Method) (c : Code) (h0 : Nat) (A : Nat → Prop) (ls : Array Slot), A = ctA h0 ci s.heap.size fs0 → p.tables.exec = Jvm.exec → c.code = cc → meth.sig.returnType = none → c.maxLocals = 1 → s.vm.findClass y.cls = some m.cls → (∀ w ∈ TB, w.before #[Value.ref h0] s = true) → meth.locks = false → meth.name = "<init>" → (∀ q : Nat, s.heap.size ≤ q → A q) → va_P D vwCl [(h0, .inr (ci, fs0))] s.heap → va_D A [(h0, .inr (ci, fs0))] → va_K D vwCl (ty3 cI cJ cZ) s → NW s → lv_has ls 1 [(0, .ref h0)] →
      W p l e { frames := fr, cells := mc, slots := ms, locals := lo } s m #[Value.ref h0] below meth c s.heap [] 0 0 (MQ below (va_Qv (fun _ : Unit => True) (fun _ t => ∃ a : Nat → Nat, a 0 = h0 ∧ va_P D vwCl (Wf a) t.heap ∧ va_D A (Wf a)) A) #[Value.ref h0] s mc ms A) (F0 m 0 ls [])) : CT l y cc fr lo mc ms ci fs0 NW Wf D cI cJ cZ := by
  intro h0 sz
  refine Met.ofW (cc := cc) (maxL := 1) (ret := none) hy rfl ?_
  intro p e s m args below meth c s₁ B hml hv
  obtain ⟨rfl, hsz, hP, hK, hD0, hN⟩ := hv
  have hts := atoms_spec (ws := Cond.code y cc 1 none :: TB) B.pre
  have hin : meth.name = "<init>" := (name_of_methodNamed B.named B.method).1.trans hyn
  subst hsz
  have hl := lv_entry ([.ref h0]) (n := 1) (Nat.le_of_ble_eq_true rfl)
  rw [lg_entry_eq]
  generalize (lg_sl ([.ref h0]) ++ List.replicate (1 - (lg_sl ([.ref h0])).length) Slot.unset).toArray = ls at hl ⊢
  exact body p e s m below meth c h0 _ ls rfl B.exec B.bytes B.returns hml (findClass_of_methodNamed B.named) (fun w hw => hts w (List.mem_cons_of_mem _ hw)) B.notSynchronized hin (fun q h => Or.inr h) hP (hD0.self (sz := s.heap.size)) hK hN hl
theorem ct_end {p : Program} {l : Launch} {e : Env} {R : Room} {s : State} {m : MethodId} {args : Array Value} {below : List Frame} {meth : Method} {c : Code} {H : Heap} {locs : List Loc} {cells slots pc : Nat} {ls : Array Slot} {cc : ByteArray} {D : va_G} {A : Nat → Prop} {Wf : (Nat → Nat) → va_W} {h0 : Nat} (hx : p.tables.exec = Jvm.exec) (hb : c.code = cc) (hr : meth.sig.returnType = none) (hlocks : meth.locks = false) (hS : va_S A s.heap H locs) (a : Nat → Nat) (ha : a 0 = h0) (hP : va_P D vwCl (Wf a) H) (hD : va_D A (Wf a)) (d : decode cc pc = .ok (.return_, 1)) :
    W p l e R s m args below meth c H locs cells slots (MQ below (va_Qv (fun _ : Unit => True) (fun _ t => ∃ a : Nat → Nat, a 0 = h0 ∧ va_P D vwCl (Wf a) t.heap ∧ va_D A (Wf a)) A) args s cells slots A) (F0 m pc ls []) :=
  W.vret hx hb hr (fun t ht _ => ⟨⟨(), rfl, trivial, a, ha, by rw [ht]; exact hP, hD⟩, hS.F ht⟩) hS.2.2 d hlocks
/-- new, dup, the constructor of a nest mate -/
theorem nw_obj {p : Program} {l : Launch} {e : Env} {R : Room} {s : State} {m : MethodId} {args : Array Value} {below : List Frame} {meth : Method} {c : Code} {H H0 : Heap} {locs : List Loc} {cells slots : Nat} {Q : State → Prop} {pc : Nat} {ls : Array Slot} {rest : List Value} {cc cc2 : ByteArray} {D : va_G} {A : Nat → Prop} {ws : va_W} {cI cJ cZ : ClassId} {own C : String} {T : u_T} {N ci i1 i2 fr2 lo2 mc ms : Nat} {ty : Nat → FieldType} {fs0 : List Value} {NW : State → Prop} {Wf : (Nat → Nat) → va_W}
    (hx : p.tables.exec = Jvm.exec) (hb : c.code = cc) (hml : c.maxLocals = 1) (hown : s.vm.findClass own = some m.cls) (hts : ∀ w ∈ TB, w.before args s = true) (hK : va_K D vwCl (ty3 cI cJ cZ) s) (hP : va_P D vwCl ws H) (hD : va_D A ws) (hS : va_S A H0 H locs) (hA : ∀ q, H0.size ≤ q → A q) (hsz : ls.size = 1)
    (CTy : CT l ⟨C, "<init>", "()V"⟩ cc2 fr2 lo2 mc ms ci fs0 NW Wf D cI cJ cZ) (hin : ∀ w ∈ u_ws C T N, w ∈ TB) (hty : ∀ k, k < N → parseFieldDescriptor (T k).2.2.1 = some (ty k)) (hcl : Cond.classLink own i1 C ∈ TB) (hinst : Cond.instantiable C N ∈ TB) (hini : Cond.initialized C ∈ TB) (hins : Cond.instanceMethod ⟨C, "<init>", "()V"⟩ ∈ TB) (hcode : Cond.code ⟨C, "<init>", "()V"⟩ cc2 1 none ∈ TB) (hc : vwCl[ci]? = some (C, T, N)) (hfs : ∀ j, j < N → defaultValue (ty j) = vp_V fs0 j)
    (hlink : va_Nw (.methodLinkNest own i2 ⟨C, "<init>", "()V"⟩ "BridgeNames") s) (hplain : C ≠ "java/lang/invoke/MethodHandle" ∧ C ≠ "java/lang/invoke/VarHandle" ∧ (parseMethodDescriptor "()V").map (fun d => d.parameters.length) = some 0) (hNs : NW s) (hNb : ∀ (U : State) (a : Array Value) (g : JFrame) (mk : MethodId), NW U → NW (U.calling g mk a)) (hNw : ∀ U : State, s.WarmedH U.vm → NW s → NW U)
    (hR : fr2 + 1 ≤ R.frames ∧ 8 + (1 + 11) + lo2 ≤ R.locals) (hcells : cells + 1 + mc ≤ R.cells) (hslots : slots + N + ms ≤ R.slots) (hsum : ∀ q : Nat, (((.ref q : Value) :: rest).map fun v => v.category).sum ≤ 8) (d0 : decode cc pc = .ok (.new i1, 3)) (d1 : decode cc (pc + 3) = .ok (.dup, 1)) (d2 : decode cc (pc + 4) = .ok (.invokespecial i2, 3))
    (kk : ∀ (a : Nat → Nat) (H1 : Heap) (locs1 : List Loc), va_P D vwCl (ws ++ Wf a) H1 → va_D A (ws ++ Wf a) → va_S A H0 H1 locs1 → W p l e R s m args below meth c H1 locs1 (cells + 1 + mc) (slots + N + ms) Q (F0 m (pc + 7) ls (.ref (a 0) :: rest))) :
    W p l e R s m args below meth c H locs cells slots Q (F0 m pc ls rest) := by
  refine va_new (ci := ci) (fs := fs0) (C := C) (T := T) (N := N) hx hb hts hin ty hty hown (hts _ hcl) (hts _ hinst) (hts _ hini) hK hP hD hS hA hc hfs (by omega) (by omega) d0 (fun q H hP hD hS => ?_)
  refine lv_dup hx hb d1 rfl ?_
  have hFc := nf hD hS hA
  have hPc : va_P D vwCl [(q, .inr (ci, fs0))] H := hP.sub [ws.length] (by simp)
  have hDc : va_D A [(q, .inr (ci, fs0))] := hD.sub [ws.length] rfl (by simp)
  refine va_callv (va_runIN (As := []) (rest := .ref q :: rest) ⟨hx, hb, hml, hown, hts⟩ (CTy q H.size) ⟨va_cnB 0 hts (tb_goodIn hcode) rfl rfl rfl hlink (hts _ hini) hplain hR, rfl, hts _ hins⟩ ⟨fun a U g mk h => by
      obtain ⟨q0, q1, qP, qK, qD, qN⟩ := h
      exact ⟨q0, q1, qP, va_K.moved (u := U) (U := U.calling g mk a) (Vm.Alike.refl U.vm) qK, qD, hNb U a g mk qN⟩, fun U hU hW => ⟨rfl, by rw [hU], by rw [hU]; exact hPc, va_K.moved hW.alike hK, hDc.weaken (fun _ _ _ _ => trivial), hNw U hW hNs⟩⟩ rfl rfl hsz rfl (lv_room (hsum q)) d2 ⟨by omega, by omega⟩) hS (fun q _ h => hFc q h) hFc (fun u t H1 locs1 ht hvm hw hB hz1 hk1 hS => ?_)
  obtain ⟨a, ha, hP1, hD1⟩ := hB
  rw [ht] at hP1
  obtain ⟨hP, hD⟩ := nj hP hD hk1 hFc hP1 hD1
  have := kk a H1 locs1 hP hD hS
  rw [ha] at this
  exact this
