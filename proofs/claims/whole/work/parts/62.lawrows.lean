/-! rows for the law's body -/
abbrev nwA (s : State) : Nat → Prop := fun q => s.heap.size ≤ q
def LC (E : En) (p : Program) (s : State) (m : MethodId) (meth : Method) (c : Code) (b L : Nat) (xs : Nat → Int32) : Prop :=
  p.tables.exec = Jvm.exec ∧ c.code = code ∧ meth.sig.returnType = ret ∧ c.maxLocals = 4 ∧ s.vm.findClass R_law = some m.cls ∧ (∀ w ∈ TB, w.before #[Value.ref b] s = true) ∧ va_X b L xs s s.heap ∧ b < s.heap.size ∧ meth.locks = false ∧ va_K E.2.1 vwCl (tysE E) s ∧ inj E ∧ SO E s s.heap ∧ (∀ q, Av E q → s.heap.size ≤ q)
section LR
variable {E : En} {p : Program} {l : Launch} {e : Env} {s : State} {m : MethodId} {below : List Frame} {meth : Method} {c : Code} {b L : Nat} {xs : Nat → Int32}
def GL (E : En) (p : Program) (l : Launch) (e : Env) (s : State) (m : MethodId) (below : List Frame) (meth : Method) (c : Code) (b : Nat) (pc : Nat) (Lc : List (Option Value)) (st : List Value) (M : Mem) : Prop :=
  ∀ (H : Heap) (locs : List Loc) (ls : Array Slot), va_P E.2.1 vwCl (wl E M) H → va_S (nwA s) s.heap H locs → lvr ls 4 Lc → W p l e room_1 s m #[Value.ref b] below meth c H locs 81 1795 (lw_Z below #[Value.ref b] s) (F0 m pc ls st)
abbrev Lo (E : En) (b i : Nat) : List (Option Value) := [some (.ref b), some (.ref (E.1 0)), some (.ref (E.1 63)), some (.int (nI i))]
variable {pc : Nat} {Lc : List (Option Value)} {st : List Value} {M M1 : Mem}
theorem l_aload_n (C : LC E p s m meth c b L xs) {i : Fin 4} {x : Nat} (d : decode code pc = .ok (.aload_n i, 1)) (hL : Lc[(i : Nat)]? = some (some (.ref x))) (k : GL E p l e s m below meth c b (pc + 1) Lc (.ref x :: st) M) : GL E p l e s m below meth c b pc Lc st M := fun H locs ls hP hS hl => lv_aload_n C.1 C.2.1 d rfl (hl.2.2 _ _ hL) (k H locs ls hP hS hl)
theorem l_iload_n (C : LC E p s m meth c b L xs) {i : Fin 4} {x : Int32} (d : decode code pc = .ok (.iload_n i, 1)) (hL : Lc[(i : Nat)]? = some (some (.int x))) (k : GL E p l e s m below meth c b (pc + 1) Lc (.int x :: st) M) : GL E p l e s m below meth c b pc Lc st M := fun H locs ls hP hS hl => lv_iload_n C.1 C.2.1 d rfl (hl.2.2 _ _ hL) (k H locs ls hP hS hl)
theorem l_iconst (C : LC E p s m meth c b L xs) {n : Int} {v : Int32} (d : decode code pc = .ok (.iconst n, 1)) (hv : Int32.ofInt n = v) (k : GL E p l e s m below meth c b (pc + 1) Lc (.int v :: st) M) : GL E p l e s m below meth c b pc Lc st M := fun H locs ls hP hS hl => lv_iconst C.1 C.2.1 d hv (k H locs ls hP hS hl)
theorem l_bipush (C : LC E p s m meth c b L xs) {n : Int} {v : Int32} (d : decode code pc = .ok (.bipush n, 2)) (hv : (Int8.ofInt n).toInt32 = v) (k : GL E p l e s m below meth c b (pc + 2) Lc (.int v :: st) M) : GL E p l e s m below meth c b pc Lc st M := fun H locs ls hP hS hl => lv_bipush C.1 C.2.1 d hv (k H locs ls hP hS hl)
theorem l_iadd (C : LC E p s m meth c b L xs) {x y : Int32} (d : decode code pc = .ok (.iadd, 1)) (k : GL E p l e s m below meth c b (pc + 1) Lc (.int (x + y) :: st) M) : GL E p l e s m below meth c b pc Lc (.int y :: .int x :: st) M := fun H locs ls hP hS hl => lv_iadd C.1 C.2.1 d (k H locs ls hP hS hl)
theorem l_isub (C : LC E p s m meth c b L xs) {x y : Int32} (d : decode code pc = .ok (.isub, 1)) (k : GL E p l e s m below meth c b (pc + 1) Lc (.int (x - y) :: st) M) : GL E p l e s m below meth c b pc Lc (.int y :: .int x :: st) M := fun H locs ls hP hS hl => lv_isub C.1 C.2.1 d (k H locs ls hP hS hl)
theorem l_iand (C : LC E p s m meth c b L xs) {x y : Int32} (d : decode code pc = .ok (.iand, 1)) (k : GL E p l e s m below meth c b (pc + 1) Lc (.int (x &&& y) :: st) M) : GL E p l e s m below meth c b pc Lc (.int y :: .int x :: st) M := fun H locs ls hP hS hl => lv_iand C.1 C.2.1 d (k H locs ls hP hS hl)
theorem l_lcmp (C : LC E p s m meth c b L xs) {x y : Int64} (d : decode code pc = .ok (.lcmp, 1)) (k : GL E p l e s m below meth c b (pc + 1) Lc (.int (lg_cmp x y) :: st) M) : GL E p l e s m below meth c b pc Lc (.long y :: .long x :: st) M := fun H locs ls hP hS hl => W.lcmp C.1 C.2.1 d (k H locs ls hP hS hl)
theorem l_if_eq (C : LC E p s m meth c b L xs) {x : Int32} {off : Int} {tgt : Nat} (d : decode code pc = .ok (.ifCond .eq off, 3)) (ht : (pc : Int) + off = (tgt : Int)) (kt : x = 0 → GL E p l e s m below meth c b tgt Lc st M) (kf : ¬ x = 0 → GL E p l e s m below meth c b (pc + 3) Lc st M) : GL E p l e s m below meth c b pc Lc (.int x :: st) M := fun H locs ls hP hS hl => lv_if_eq C.1 C.2.1 d ht (fun h => kt h H locs ls hP hS hl) (fun h => kf h H locs ls hP hS hl)
theorem l_icmp_eq (C : LC E p s m meth c b L xs) {x y : Int32} {off : Int} {tgt : Nat} (d : decode code pc = .ok (.if_icmp .eq off, 3)) (ht : (pc : Int) + off = (tgt : Int)) (kt : x = y → GL E p l e s m below meth c b tgt Lc st M) (kf : ¬ x = y → GL E p l e s m below meth c b (pc + 3) Lc st M) : GL E p l e s m below meth c b pc Lc (.int y :: .int x :: st) M := fun H locs ls hP hS hl => lv_icmp_eq C.1 C.2.1 d ht (fun h => kt h H locs ls hP hS hl) (fun h => kf h H locs ls hP hS hl)
theorem l_icmp_gt (C : LC E p s m meth c b L xs) {x y : Int32} {off : Int} {tgt : Nat} (d : decode code pc = .ok (.if_icmp .gt off, 3)) (ht : (pc : Int) + off = (tgt : Int)) (kt : y < x → GL E p l e s m below meth c b tgt Lc st M) (kf : ¬ y < x → GL E p l e s m below meth c b (pc + 3) Lc st M) : GL E p l e s m below meth c b pc Lc (.int y :: .int x :: st) M := fun H locs ls hP hS hl => lv_icmp_gt C.1 C.2.1 d ht (fun h => kt h H locs ls hP hS hl) (fun h => kf h H locs ls hP hS hl)
theorem l_goto (C : LC E p s m meth c b L xs) {off : Int} {tgt : Nat} (d : decode code pc = .ok (.goto off, 3)) (ht : (pc : Int) + off = (tgt : Int)) (k : GL E p l e s m below meth c b tgt Lc st M) : GL E p l e s m below meth c b pc Lc st M := fun H locs ls hP hS hl => lv_goto C.1 C.2.1 d ht (k H locs ls hP hS hl)
theorem l_iincg (C : LC E p s m meth c b L xs) {i : Nat} {n : Int} {x v : Int32} {L2 : List (Option Value)} (d : decode code pc = .ok (.iinc i n, 3)) (hn : i < 4) (hL : Lc[i]? = some (some (.int x))) (hv : x + Int32.ofInt n = v) (ho : lok1 Lc L2 i (.int v)) (k : GL E p l e s m below meth c b (pc + 3) L2 st M) : GL E p l e s m below meth c b pc Lc st M := fun H locs ls hP hS hl => by
  obtain ⟨q, hq⟩ := List.getElem?_of_mem (mem_lp.mpr hL)
  exact lv_iinc (k := q) C.1 C.2.1 d hl.has hq hv hn rfl (fun ls2 h2 => k H locs ls2 hP hS (lvr_st1 h2 ho))
theorem l_sld (C : LC E p s m meth c b L xs) {i : Int32} (hin : vp_in i L) (d : decode code pc = .ok (.iaload, 1)) (k : GL E p l e s m below meth c b (pc + 1) Lc (.int (xs i.toNatClampNeg) :: st) M) : GL E p l e s m below meth c b pc Lc (.int i :: .ref b :: st) M := fun H locs ls hP hS hl => va_sld C.1 C.2.1 C.2.2.2.2.2.2.1 C.2.2.2.2.2.2.2.1 (Nat.not_le.mpr C.2.2.2.2.2.2.2.1) hS hin d (k H locs ls hP hS hl)
theorem l_slen (C : LC E p s m meth c b L xs) (d : decode code pc = .ok (.arraylength, 1)) (k : GL E p l e s m below meth c b (pc + 1) Lc (.int (Int32.ofNat L) :: st) M) : GL E p l e s m below meth c b pc Lc (.ref b :: st) M := fun H locs ls hP hS hl => va_slen C.1 C.2.1 C.2.2.2.2.2.2.1 C.2.2.2.2.2.2.2.1 (Nat.not_le.mpr C.2.2.2.2.2.2.2.1) hS d (k H locs ls hP hS hl)
theorem l_arg (C : LC E p s m meth c b L xs) {i j : Nat} {n : Int} (hL : L ≤ 384) (hi : i + j < L) (hj : Int32.ofInt n = nI j) (d0 : decode code pc = .ok (.aload_n 0, 1)) (d1 : decode code (pc + 1) = .ok (.iload_n 3, 1)) (d2 : decode code (pc + 2) = .ok (.iconst n, 1)) (d3 : decode code (pc + 3) = .ok (.iadd, 1)) (d4 : decode code (pc + 4) = .ok (.iaload, 1)) (k : GL E p l e s m below meth c b (pc + 5) (Lo E b i) (.int (xs (i + j)) :: st) M) : GL E p l e s m below meth c b pc (Lo E b i) st M := by
  refine l_aload_n C d0 rfl (l_iload_n C d1 rfl (l_iconst C d2 hj (l_iadd C d3 ?_)))
  rw [nI_add]
  refine l_sld C (vp_in_nI hi (by omega)) d4 ?_
  rw [cl (by omega)]
  exact k
theorem l_table (C : LC E p s m meth c b L xs) {dflt lo hi : Int} {offs : Array Int} {len : Nat} {x : Int32} {off : Int} {tgt : Nat} (d : decode code pc = .ok (.tableswitch dflt lo hi offs, len)) (h1 : ¬ x.toInt < lo) (h2 : ¬ hi < x.toInt) (ho : offs[(x.toInt - lo).toNat]? = some off) (ht : (pc : Int) + off = (tgt : Int)) (k : GL E p l e s m below meth c b tgt Lc st M) : GL E p l e s m below meth c b pc Lc (.int x :: st) M := fun H locs ls hP hS hl => lv_tableIn C.1 C.2.1 d h1 h2 ho ht (k H locs ls hP hS hl)
theorem l_tableO (C : LC E p s m meth c b L xs) {dflt lo hi : Int} {offs : Array Int} {len : Nat} {x : Int32} {tgt : Nat} (d : decode code pc = .ok (.tableswitch dflt lo hi offs, len)) (h : x.toInt < lo ∨ hi < x.toInt) (ht : (pc : Int) + dflt = (tgt : Int)) (k : GL E p l e s m below meth c b tgt Lc st M) : GL E p l e s m below meth c b pc Lc (.int x :: st) M := fun H locs ls hP hS hl => lv_tableOut C.1 C.2.1 d h ht (k H locs ls hP hS hl)
theorem l_hol (C : LC E p s m meth c b L xs) {As : List Value} {H : Heap} {locs : List Loc} (hP : va_P E.2.1 vwCl (wl E M) H) (hS : va_S (nwA s) s.heap H locs) : ∀ U : State, U.heap = H → s.WarmedH U.vm → va_Pc As (Hol E M) As.toArray U := fun U hU hW =>
  ⟨rfl, by rw [hU]; exact hP, va_K.moved hW.alike C.2.2.2.2.2.2.2.2.2.1, C.2.2.2.2.2.2.2.2.2.2.1, by rw [hU]; exact SO.warm hW (C.2.2.2.2.2.2.2.2.2.2.2.1.kept (fun a h _ => hS.2.1 a h (Nat.not_le.mpr h)))⟩
theorem l_call (C : LC E p s m meth c b L xs) {y : MethodName} {cc2 : ByteArray} {nL2 index n fr2 lo2 kk ci N : Nat} {T : u_T} {fs : List Value} {rt : Option FieldType} {Bs stk : List Value} {r : Value} (hM : Cn l y cc2 nL2 rt fr2 lo2 (fun E => .ref (E.1 kk) :: Bs) M (some r, M1)) (hw : CWv R_law index y cc2 nL2 rt n) (hn : Bs.length = n) (hk : kk < nCell) (hc : cel E kk (M.1 kk) (M.2 kk) = .inr (ci, fs)) (hcl : vwCl[ci]? = some (y.cls, T, N)) (hst : stk = Bs.reverse ++ .ref (E.1 kk) :: st) (hR : fr2 + 1 ≤ 2048 ∧ 8 + (nL2 + 11) + lo2 ≤ 84000) (hsum : (st.map fun v => v.category).sum ≤ 8) (d : decode code pc = .ok (.invokevirtual index, 3))
    (k : GL E p l e s m below meth c b (pc + 3) Lc (r :: st) M1) : GL E p l e s m below meth c b pc Lc stk M := fun H locs ls hP hS hl => by
  have hts := C.2.2.2.2.2.1
  have cb := callB_of (R := room_1) (s := s) (args := #[Value.ref b]) (own := R_law) (index := index) (y := y) (rm := rmOf fr2 lo2) (mc := 0) (ms := 0) n hts (tb_goodIn hw.2.2.2.2.1) rfl rfl rfl (hts _ hw.2.2.2.1) (hts _ hw.1) hw.2.2.2.2.2 hR
  have run := va_runV (l := l) (e := e) (below := below) (meth := meth) (locs := locs) (cells := 81) (slots := 1795) (C := y.cls) (b := E.1 kk) (As := Bs) (rest := st) (g := F0 m pc ls stk) ⟨C.1, C.2.1, C.2.2.2.1, C.2.2.2.2.1, hts⟩ (hM E) ⟨cb, hts _ hw.2.1, hts _ hw.2.2.1⟩ ⟨hol_blind, va_recv (q := (y.cls, T, N)) C.2.2.2.2.2.2.2.2.2.1 hP hcl (show (wl E M)[kk]? = some (E.1 kk, .inr (ci, fs)) by rw [wl_get hk, hc]), l_hol C hP hS⟩ rfl hn hl.1 hst (lv_room hsum) d ⟨Nat.le_of_ble_eq_true rfl, Nat.le_of_ble_eq_true rfl⟩
  intro T0 hT XS
  obtain ⟨v, st₀, t, T', L', h0, X', hLL, e1, e2, hq, go⟩ := run T0 hT XS
  obtain ⟨hv, hP1, hz, hkk⟩ := hq
  have hv' : v = some r := Outcome.returned.inj hv
  subst hv'
  rw [h0] at hz hkk
  obtain ⟨t2, a1, b1⟩ := k T'.heap (locs ++ L') ls (by rw [e1]; exact hP1) ⟨Nat.le_trans hS.1 (by rw [e1]; exact hz), fun q h1 h2 => by
      rw [e1, hkk q (Nat.lt_of_lt_of_le h1 hS.1) (fun hq => h2 (C.2.2.2.2.2.2.2.2.2.2.2.2 q hq))]; exact hS.2.1 q h1 h2, fun q hq => by
      rcases List.mem_append.mp hq with h | h
      · exact hS.2.2 q h
      · exact C.2.2.2.2.2.2.2.2.2.2.2.2 _ (hLL q h)⟩ hl T' rfl X'
  exact ⟨t2, go t2 a1, b1⟩
/-- the law's end, true -/
theorem l_true (C : LC E p s m meth c b L xs) (d0 : decode code pc = .ok (.iconst 1, 1)) (d1 : decode code (pc + 1) = .ok (.ireturn, 1)) : GL E p l e s m below meth c b pc Lc [] M := fun H locs ls hP hS hl => by
  refine lv_iconst (v := 1) C.1 C.2.1 d0 (by decide) ?_
  refine va_forget hS.2.2 ?_
  refine W.widen (k := 600000) (n := 7302250) (Nat.le_of_ble_eq_true rfl) (Nat.le_of_ble_eq_true rfl) ?_
  exact lw_ret C.1 C.2.1 C.2.2.1 C.2.2.2.2.2.2.2.2.1 d1
end LR
theorem and63 (x : Int32) : ∃ k, k < 64 ∧ x &&& 63 = nI k := by
  refine ⟨x.toBitVec.toNat % 64, Nat.mod_lt _ (by decide), Int32.toBitVec_inj.mp (BitVec.eq_of_toNat_eq ?_)⟩
  show (x.toBitVec &&& 63#32).toNat = (BitVec.ofNat 32 (x.toBitVec.toNat % 64)).toNat
  rw [BitVec.toNat_and, BitVec.toNat_ofNat, BitVec.toNat_ofNat, show 63 % 2 ^ 32 = 2 ^ 6 - 1 from rfl, Nat.and_two_pow_sub_one_eq_mod, Nat.mod_eq_of_lt (Nat.lt_trans (Nat.mod_lt _ (by decide)) (by decide))]
