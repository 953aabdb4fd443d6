/-! the reference goes on -/
theorem x8_push {M M0 : Mem} {B m c0 b : Nat} {FR TO : Nat → Nat} {bhl : Nat → List Nat → List Nat} {l0 : List Nat} {p0 : Nat} {rp : List Nat} (hrc : RC M0 B m FR TO bhl) (hl : okN l0) (hs : St M M0 B TO (laR bhl l0) p0 rp c0) (hb : b < B) (h6 : rp.length < 6) : ∃ N, b_X8_goOn_76 (nI b) M = some (1, N) ∧ St N M0 B TO (laR bhl l0) p0 (b :: rp) 0 ∧ KX N M := by
  obtain ⟨s64, s12, s70, sSR, sB, s6, sc⟩ := hs
  have hB := hrc.1
  obtain ⟨t1, t2, t3⟩ := SR_top sSR
  obtain ⟨r1, r2, r3, r4, r5, r6⟩ := hrc.2.2.2.2.1 b hb
  have hok := la_ok hrc hl sB
  have hall : ∀ c ∈ b :: rp, c < B := fun c hc => by
    rcases List.mem_cons.mp hc with rfl | h
    · exact hb
    · exact sB c h
  have hok2 : okN (laR bhl l0 (b :: rp)) := la_ok hrc hl hall
  have hto := to_le hrc hl sB
  refine ⟨mI (mI (mI (mI (mL (mI M 70 rp.length (nI b)) 72 (rp.length + 1) (eM (laR bhl l0 (b :: rp)))) 71 (rp.length + 1) (nI (TO b))) 73 (rp.length + 1) (nI (toR (laR bhl l0) (b :: rp)))) 63 12 (nI (rp.length + 1))) 70 (rp.length + 1) (-1), ?_, ⟨s64, rfl, ?_, ⟨?_, ?_, ?_, ?_, ?_⟩, hall, by simp only [List.length_cons]; omega, by omega⟩, ?_, ?_, ?_⟩
  · have q1 : (mI M 70 rp.length (nI b)).1 63 12 = nI rp.length := s12
    have q2 : (mI M 70 rp.length (nI b)).2 72 rp.length = eM (laR bhl l0 rp) := t2
    have q3 : f_X8_behindBridge (mI M 70 rp.length (nI b)) (nI b) (eM (laR bhl l0 rp)) = some (eM (laR bhl l0 (b :: rp))) := (hrc.2.2.2.2.2 b _ hb hok).2.2 _ s64
    have q4 : (mL (mI M 70 rp.length (nI b)) 72 (rp.length + 1) (eM (laR bhl l0 (b :: rp)))).1 63 12 = nI rp.length := s12
    have q5 : f_X8_get (mL (mI M 70 rp.length (nI b)) 72 (rp.length + 1) (eM (laR bhl l0 (b :: rp)))) (nI b) (1 : Int32) = some (nI (TO b)) := (get8 (j := b) (w := 1) (by omega) (by decide)).trans (by rw [show (mL (mI M 70 rp.length (nI b)) 72 (rp.length + 1) (eM (laR bhl l0 (b :: rp)))).1 64 = M.1 64 from rfl, s64, r6])
    have q6 : (mI (mL (mI M 70 rp.length (nI b)) 72 (rp.length + 1) (eM (laR bhl l0 (b :: rp)))) 71 (rp.length + 1) (nI (TO b))).1 63 12 = nI rp.length := s12
    have q7 : (mI (mL (mI M 70 rp.length (nI b)) 72 (rp.length + 1) (eM (laR bhl l0 (b :: rp)))) 71 (rp.length + 1) (nI (TO b))).1 73 rp.length = nI (toR (laR bhl l0) rp) := t3
    have q8 : (mI (mL (mI M 70 rp.length (nI b)) 72 (rp.length + 1) (eM (laR bhl l0 (b :: rp)))) 71 (rp.length + 1) (nI (TO b))).2 72 (rp.length + 1) = eM (laR bhl l0 (b :: rp)) := pk_uLs (f := M.2 72)
    have q9 : (mI (mI (mL (mI M 70 rp.length (nI b)) 72 (rp.length + 1) (eM (laR bhl l0 (b :: rp)))) 71 (rp.length + 1) (nI (TO b))) 73 (rp.length + 1) (nI (toR (laR bhl l0) (b :: rp)))).1 63 12 = nI rp.length := s12
    have q10 : (mI (mI (mI (mL (mI M 70 rp.length (nI b)) 72 (rp.length + 1) (eM (laR bhl l0 (b :: rp)))) 71 (rp.length + 1) (nI (TO b))) 73 (rp.length + 1) (nI (toR (laR bhl l0) (b :: rp)))) 63 12 (nI (rp.length + 1))).1 63 12 = nI (rp.length + 1) := rfl
    have k1 : ∀ k : Option (Int32 × Mem), ck (nI rp.length) 7 k = k := ck_y (by omega) (by decide)
    have k2 : ∀ k : Option (Int32 × Mem), ck (nI (rp.length + 1)) 7 k = k := ck_y (by omega) (by decide)
    have c1 : (nI rp.length).toNatClampNeg = rp.length := cl (by omega)
    have c2 : (nI (rp.length + 1)).toNatClampNeg = rp.length + 1 := cl (by omega)
    have a1 : nI (toR (laR bhl l0) rp) + nI (laR bhl l0 (b :: rp)).length = nI (toR (laR bhl l0) (b :: rp)) := nI_add _ _
    unfold b_X8_goOn_76
    simp only [s12, k1, c1, q1, q2, q3, Option.bind_some, nI_1, k2, c2, q4, q5, q6, q7, q8, x8_many hok2, a1, q9, q10]
  · show upd (upd (M.1 70) rp.length (nI b)) (rp.length + 1) (-1) (rp.length + 1) + 1 = nI 0
    rw [pk_us]; rfl
  · show upd (upd (M.1 70) rp.length (nI b)) (rp.length + 1) (-1) rp.length = nI b
    rw [pk_un (by omega), pk_us]
  · exact pk_us (f := M.1 71)
  · exact pk_uLs (f := M.2 72)
  · exact pk_us (f := M.1 73)
  · refine SR_c sSR (fun i hi => ?_) (fun i hi => ⟨?_, ?_, ?_⟩)
    · show upd (upd (M.1 70) rp.length (nI b)) (rp.length + 1) (-1) i = _
      rw [pk_un (by omega), pk_un (by omega)]
    · exact pk_un (f := M.1 71) (by omega)
    · exact pk_uLn (f := M.2 72) (by omega)
    · exact pk_un (f := M.1 73) (by omega)
  · intro q h1 h2 h3 h4
    unfold mI
    rw [rI_ne h2, rI_ne h1, rI_ne h4, rI_ne h3]
    show (rI M 70 _).1 q = _
    rw [rI_ne h2]
  · intro q h1
    show (mL (mI M 70 rp.length (nI b)) 72 _ _).2 q = _
    unfold mL
    rw [rL_ne h1]; rfl
  · intro k hk
    show upd (M.1 63) 12 _ k = _
    rw [pk_un hk]
theorem x8_go {M0 : Mem} {B m : Nat} {FR TO : Nat → Nat} {bhl : Nat → List Nat → List Nat} {l0 : List Nat} {p0 : Nat} (hrc : RC M0 B m FR TO bhl) (hl : okN l0) (hp0 : p0 < 6) : ∀ (rp : List Nat) (c n : Nat) (M : Mem), St M M0 B TO (laR bhl l0) p0 rp c → rp.length + 2 ≤ n → (goA B (opn FR TO p0) rp c = none → ∃ N, b_X8_goOn_0 n M = some (0, N) ∧ KX N M) ∧ (∀ rp', goA B (opn FR TO p0) rp c = some rp' → ∃ N, b_X8_goOn_0 n M = some (1, N) ∧ St N M0 B TO (laR bhl l0) p0 rp' 0 ∧ KX N M) := by
  have hf := fu_big
  have hB := hrc.1
  have head : ∀ (rp : List Nat) (c n : Nat) (M : Mem), St M M0 B TO (laR bhl l0) p0 rp c → b_X8_goOn_0 (n + 1) M = match nx B (opn FR TO p0) rp c with
      | some b => b_X8_goOn_76 (nI b) M
      | none => b_X8_goOn_0 n (mI M 63 12 (nI rp.length - 1)) := by
    intro rp c n M hs
    have h19 := x8_go19 hrc hp0 hs (fun M_ => b_X8_goOn_0 n M_) (B - c) c fu (by have := hs.2.2.2.2.2.2; omega) (by omega)
    obtain ⟨s64, s12, s70, sSR, sB, s6, sc⟩ := hs
    have hb0 : f_X8_bridges M = nI B := by unfold f_X8_bridges; rw [s64]; exact hrc.2.2.2.1
    rw [b_X8_goOn_0.eq_2, s12, if_neg (nI_pos (by omega)), ck_y (by omega) (by decide), cl (by omega), s70]
    refine h19.trans ?_
    unfold b_X8_goOn_59 b_X8_goOn_185 nx
    rw [s12, hb0]
    by_cases h6 : rp.length < 6
    · rw [if_neg (fun q => by have := (v_ge 6 6 (by omega)).mp q; omega), if_pos h6]
      cases hfs : fstO (opn FR TO p0 rp) (B - c) c with
      | none =>
        rw [Option.getD_none, if_pos ((nI_leI (by omega) (by omega)).mpr (Nat.le_refl _))]
      | some b =>
        have := fstO_lt hfs
        rw [Option.getD_some, if_neg (fun q => by have := (nI_leI (by omega) (by omega)).mp q; omega)]
    · rw [if_pos ((v_ge 6 6 (by omega)).mpr (by omega)), if_neg h6]
  have kx12 : ∀ (M : Mem) (v : Int32), KX (mI M 63 12 v) M := fun M v => ⟨fun q h1 _ _ _ => rI_ne h1, fun _ _ => rfl, fun k hk => by show upd (M.1 63) 12 v k = _; rw [pk_un hk]⟩
  intro rp
  induction rp with
  | nil =>
    intro c n M hs hn
    obtain ⟨n1, rfl⟩ : ∃ n1, n = n1 + 1 + 1 := ⟨n - 2, by simp only [List.length_nil] at hn; omega⟩
    have hh := head [] c (n1 + 1) M hs
    cases hx : nx B (opn FR TO p0) [] c with
    | none =>
      rw [hx] at hh
      refine ⟨fun _ => ⟨mI M 63 12 (nI 0 - 1), ?_, kx12 _ _⟩, fun rp' h => ?_⟩
      · rw [hh]
        show b_X8_goOn_0 (n1 + 1) (mI M 63 12 (nI 0 - 1)) = _
        rw [b_X8_goOn_0.eq_2]
        show (if nI 0 - 1 < 0 then _ else _) = _
        rw [if_pos (by decide)]
      · rw [goA_pop0 hx] at h; cases h
    | some b =>
      rw [hx] at hh
      have hb : b < B := by
        unfold nx at hx; rw [if_pos (by simp)] at hx
        have := fstO_lt hx; have := hs.2.2.2.2.2.2; omega
      obtain ⟨N, p1, p2, p3⟩ := x8_push hrc hl hs hb (by simp)
      refine ⟨fun h => ?_, fun rp' h => ?_⟩
      · rw [goA_push hx] at h; cases h
      · rw [goA_push hx] at h; cases h
        exact ⟨N, hh.trans p1, p2, p3⟩
  | cons a r ih =>
    intro c n M hs hn
    obtain ⟨n1, rfl⟩ : ∃ n1, n = n1 + 1 := ⟨n - 1, by simp only [List.length_cons] at hn; omega⟩
    have hh := head (a :: r) c n1 M hs
    cases hx : nx B (opn FR TO p0) (a :: r) c with
    | none =>
      rw [hx] at hh
      have hs2 : St (mI M 63 12 (nI (a :: r).length - 1)) M0 B TO (laR bhl l0) p0 r (a + 1) := by
        obtain ⟨s64, s12, s70, sSR, sB, s6, sc⟩ := hs
        have hab := sB a (List.mem_cons_self ..)
        refine ⟨s64, ?_, ?_, SR_c sSR.2.2.2.2 (fun i hi => rfl) (fun i hi => ⟨rfl, rfl, rfl⟩), fun b hb => sB b (List.mem_cons_of_mem _ hb), by simp only [List.length_cons] at s6; omega, by omega⟩
        · show nI (r.length + 1) - 1 = nI r.length
          rw [← nI_1]; exact Int32.add_sub_cancel _ _
        · show M.1 70 r.length + 1 = _
          rw [sSR.1, nI_1]
      have := ih (a + 1) n1 _ hs2 (by simp only [List.length_cons] at hn; omega)
      rw [goA_pop1 hx, hh]
      refine ⟨fun h => ?_, fun rp' h => ?_⟩
      · obtain ⟨N, e1, e2⟩ := this.1 h
        exact ⟨N, e1, KX_t e2 (kx12 _ _)⟩
      · obtain ⟨N, e1, e2, e3⟩ := this.2 rp' h
        exact ⟨N, e1, e2, KX_t e3 (kx12 _ _)⟩
    | some b =>
      rw [hx] at hh
      have hlt : (a :: r).length < 6 := by
        by_cases q : (a :: r).length < 6
        · exact q
        · unfold nx at hx; rw [if_neg q] at hx; cases hx
      have hb : b < B := by
        unfold nx at hx; rw [if_pos hlt] at hx
        have := fstO_lt hx; have := hs.2.2.2.2.2.2; omega
      obtain ⟨N, p1, p2, p3⟩ := x8_push hrc hl hs hb hlt
      refine ⟨fun h => ?_, fun rp' h => ?_⟩
      · rw [goA_push hx] at h; cases h
      · rw [goA_push hx] at h; cases h
        exact ⟨N, hh.trans p1, p2, p3⟩
/-! the best way so far: found, taken, toll, by which bridges -/
abbrev Acc := Nat × Nat × Nat × (Nat → Nat)
def btr (rp : List Nat) (t : Nat) (a : Acc) : Bool := a.1 == 0 || decide (t < a.2.2.1) || (t == a.2.2.1 && decide (rp.length < a.2.1))
def arrv (rp : List Nat) (t : Nat) (a : Acc) : Acc := if btr rp t a = true then (a.1 + 1, rp.length, t, fun i => rp.reverse.getD i 0) else (a.1 + 1, a.2.1, a.2.2.1, a.2.2.2)
def visW (TO : Nat → Nat) (la : List Nat → List Nat) (p0 goal : Nat) (rp : List Nat) (a : Acc) : Acc := if plR TO p0 rp = goal then arrv rp (toR la rp) a else a
/-- the reference's best -/
def MR (M : Mem) (a : Acc) : Prop := M.1 63 16 = nI a.1 ∧ a.2.1 ≤ 6 ∧ a.2.2.1 ≤ 72 ∧ (a.1 = 0 → M.1 63 14 = -1) ∧ (a.1 ≠ 0 → M.1 63 14 = nI a.2.1 ∧ M.1 63 15 = nI a.2.2.1 ∧ ∀ i, i < a.2.1 → M.1 74 i = nI (a.2.2.2 i))
def KY (N M : Mem) : Prop := (∀ q, q ≠ 63 → q ≠ 70 → q ≠ 71 → q ≠ 73 → q ≠ 74 → N.1 q = M.1 q) ∧ (∀ q, q ≠ 72 → N.2 q = M.2 q) ∧ (∀ k, k ≠ 12 → k ≠ 14 → k ≠ 15 → k ≠ 16 → N.1 63 k = M.1 63 k)
theorem KY_x {N M : Mem} (h : KX N M) : KY N M := ⟨fun q a b c d _ => h.1 q a b c d, h.2.1, fun k a _ _ _ => h.2.2 k a⟩
theorem KY_r (M : Mem) : KY M M := KY_x (KX_r M)
theorem KY_t {P N M : Mem} (h : KY P N) (h2 : KY N M) : KY P M := ⟨fun q a b c d e => (h.1 q a b c d e).trans (h2.1 q a b c d e), fun q a => (h.2.1 q a).trans (h2.2.1 q a), fun k a b c d => (h.2.2 k a b c d).trans (h2.2.2 k a b c d)⟩
theorem MR_x {N M : Mem} {a : Acc} (h : KX N M) (hm : MR M a) : MR N a := by
  have e74 : N.1 74 = M.1 74 := h.1 74 (by decide) (by decide) (by decide) (by decide)
  obtain ⟨m1, m2, m3, m4, m5⟩ := hm
  refine ⟨(h.2.2 16 (by decide)).trans m1, m2, m3, fun q => (h.2.2 14 (by decide)).trans (m4 q), fun q => ?_⟩
  obtain ⟨p1, p2, p3⟩ := m5 q
  exact ⟨(h.2.2 14 (by decide)).trans p1, (h.2.2 15 (by decide)).trans p2, fun i hi => by rw [e74]; exact p3 i hi⟩
theorem SR_rev {M : Mem} {TO : Nat → Nat} {la : List Nat → List Nat} {p0 : Nat} : ∀ {rp : List Nat}, SR M TO la p0 rp → ∀ i, i < rp.length → M.1 70 i = nI (rp.reverse.getD i 0)
  | [], _, i, hi => absurd hi (by simp)
  | b :: r, h, i, hi => by
    simp only [List.length_cons] at hi
    rw [List.reverse_cons]
    by_cases e : i = r.length
    · subst e
      rw [h.1]
      congr 1
      rw [List.getD_eq_getElem?_getD, List.getElem?_append_right (by simp)]
      simp
    · rw [SR_rev h.2.2.2.2 i (by omega)]
      congr 1
      rw [List.getD_eq_getElem?_getD, List.getD_eq_getElem?_getD, List.getElem?_append_left (by simp; omega)]
def jR (S T : Nat → Int32) (c : Nat) : Nat → Int32 := fun i => if i < c then S i else T i
theorem jR_s (S T : Nat → Int32) (c : Nat) : upd (jR S T c) c (S c) = jR S T (c + 1) := by
  funext t; unfold jR
  by_cases e : t = c
  · subst e; rw [pk_us, if_pos (show t < t + 1 by omega)]
  · rw [pk_un e]
    by_cases e2 : t < c
    · rw [if_pos e2, if_pos (show t < c + 1 by omega)]
    · rw [if_neg e2, if_neg (show ¬ t < c + 1 by omega)]
theorem jR_0 (S T : Nat → Int32) : jR S T 0 = T := by funext t; unfold jR; rw [if_neg (by omega)]
theorem x8_jl {M : Mem} {d : Nat} (hd : d ≤ 6) (h12 : M.1 63 12 = nI d) (T : Nat → Int32) : ∀ (e i n : Nat), i + e = d → e < n → b_X8_judge_94 n (nI i) (rI M 74 (jR (M.1 70) T i)) = some (rI M 74 (jR (M.1 70) T d))
  | _, _, 0, _, hn => absurd hn (Nat.not_lt_zero _)
  | 0, i, n + 1, hi, _ => by
    have h12' : (rI M 74 (jR (M.1 70) T i)).1 63 12 = nI d := h12
    rw [b_X8_judge_94.eq_2, h12', if_pos ((nI_leI (by omega) (by omega)).mpr (by omega)), show i = d by omega]
  | e + 1, i, n + 1, hi, hn => by
    have ih := x8_jl hd h12 T e (i + 1) n (by omega) (by omega)
    have h12' : (rI M 74 (jR (M.1 70) T i)).1 63 12 = nI d := h12
    have h70 : (rI M 74 (jR (M.1 70) T i)).1 70 i = M.1 70 i := rfl
    rw [b_X8_judge_94.eq_2, h12', if_neg (fun q => by have := (nI_leI (by omega) (by omega)).mp q; omega), ck_y (by omega) (by decide), ck_y (by omega) (by decide), cl (by omega), h70, mI_rI, jR_s, nI_1]
    exact ih
theorem x8_judge {M M0 : Mem} {B : Nat} {TO : Nat → Nat} {la : List Nat → List Nat} {p0 : Nat} {rp : List Nat} {a : Acc} (hs : St M M0 B TO la p0 rp 0) (hto : toR la rp ≤ 72) (hm : MR M a) (ha : a.1 < 1000000) : ∃ N, f_X8_judge M = some N ∧ MR N (arrv rp (toR la rp) a) ∧ St N M0 B TO la p0 rp 0 ∧ KY N M := by
  have hf := fu_big
  obtain ⟨s64, s12, s70, sSR, sB, s6, sc⟩ := hs
  obtain ⟨m1, m2, m3, m4, m5⟩ := hm
  obtain ⟨t1, t2, t3⟩ := SR_top sSR
  have n12 : (mI M 63 16 (nI (a.1 + 1))).1 63 12 = nI rp.length := s12
  have n73 : (mI M 63 16 (nI (a.1 + 1))).1 73 rp.length = nI (toR la rp) := t3
  have e0 : mI M 63 16 (M.1 63 16 + 1) = mI M 63 16 (nI (a.1 + 1)) := by rw [m1, nI_1]
  have yes : btr rp (toR la rp) a = true → f_X8_judge M = b_X8_judge_66 1 (mI M 63 16 (nI (a.1 + 1))) := by
    intro hb
    unfold btr at hb
    unfold f_X8_judge
    rw [e0]
    have n14 : (mI M 63 16 (nI (a.1 + 1))).1 63 14 = M.1 63 14 := rfl
    have n15 : (mI M 63 16 (nI (a.1 + 1))).1 63 15 = M.1 63 15 := rfl
    show (if (mI M 63 16 (nI (a.1 + 1))).1 63 14 = (-1 : Int32) then _ else _) = _
    by_cases hz : a.1 = 0
    · rw [n14, m4 hz, if_pos rfl]
    · obtain ⟨p1, p2, p3⟩ := m5 hz
      rw [n14, p1, if_neg (fun q => by have := (fa_eq _ _).mp q; rw [nI_toInt (by omega), show (-1 : Int32).toInt = -1 by decide] at this; omega), n12, ck_y (by omega) (by decide), cl (by omega), n73, n15, p2]
      by_cases hlt : toR la rp < a.2.2.1
      · rw [if_pos ((nI_ltI (by omega) (by omega)).mpr hlt)]
      · rw [if_neg (fun q => hlt ((nI_ltI (by omega) (by omega)).mp q)), ck_y (by omega) (by decide)]
        have hand : toR la rp = a.2.2.1 ∧ rp.length < a.2.1 := by
          simpa [hz, hlt] using hb
        rw [if_pos (by rw [hand.1]), if_neg (fun q => by have := (nI_leI (by omega) (by omega)).mp q; omega)]
  have no : ¬ btr rp (toR la rp) a = true → f_X8_judge M = b_X8_judge_66 0 (mI M 63 16 (nI (a.1 + 1))) := by
    intro hb
    unfold btr at hb
    unfold f_X8_judge
    rw [e0]
    have n14 : (mI M 63 16 (nI (a.1 + 1))).1 63 14 = M.1 63 14 := rfl
    have n15 : (mI M 63 16 (nI (a.1 + 1))).1 63 15 = M.1 63 15 := rfl
    show (if (mI M 63 16 (nI (a.1 + 1))).1 63 14 = (-1 : Int32) then _ else _) = _
    have hz : ¬ a.1 = 0 := fun q => hb (by simp [q])
    obtain ⟨p1, p2, p3⟩ := m5 hz
    have hlt : ¬ toR la rp < a.2.2.1 := fun q => hb (by simp [q])
    rw [n14, p1, if_neg (fun q => by have := (fa_eq _ _).mp q; rw [nI_toInt (by omega), show (-1 : Int32).toInt = -1 by decide] at this; omega), n12, ck_y (by omega) (by decide), cl (by omega), n73, n15, p2, if_neg (fun q => hlt ((nI_ltI (by omega) (by omega)).mp q)), ck_y (by omega) (by decide)]
    by_cases he : toR la rp = a.2.2.1
    · have hle : ¬ rp.length < a.2.1 := fun q => hb (by simp [q, he])
      rw [if_pos (by rw [he]), if_pos ((nI_leI (by omega) (by omega)).mpr (by omega))]
    · rw [if_neg (fun q => he ((nI_eq (by omega) (by omega)).mp q))]
  by_cases hb : btr rp (toR la rp) a = true
  · have hj := x8_jl (M := mI (mI (mI M 63 16 (nI (a.1 + 1))) 63 14 (nI rp.length)) 63 15 (nI (toR la rp))) s6 s12 (M.1 74) rp.length 0 fu (by omega) (by omega)
    rw [jR_0] at hj
    have e74 : rI (mI (mI (mI M 63 16 (nI (a.1 + 1))) 63 14 (nI rp.length)) 63 15 (nI (toR la rp))) 74 (M.1 74) = mI (mI (mI M 63 16 (nI (a.1 + 1))) 63 14 (nI rp.length)) 63 15 (nI (toR la rp)) := rI_self (mI (mI (mI M 63 16 (nI (a.1 + 1))) 63 14 (nI rp.length)) 63 15 (nI (toR la rp))) 74
    rw [e74] at hj
    refine ⟨rI (mI (mI (mI M 63 16 (nI (a.1 + 1))) 63 14 (nI rp.length)) 63 15 (nI (toR la rp))) 74 (jR (M.1 70) (M.1 74) rp.length), ?_, ?_, ⟨s64, s12, s70, SR_c sSR (fun _ _ => rfl) (fun _ _ => ⟨rfl, rfl, rfl⟩), sB, s6, sc⟩, ?_, fun _ _ => rfl, ?_⟩
    · rw [yes hb]
      unfold b_X8_judge_66
      rw [if_neg (by decide), n12]
      have q1 : (mI (mI M 63 16 (nI (a.1 + 1))) 63 14 (nI rp.length)).1 63 12 = nI rp.length := s12
      have q2 : (mI (mI M 63 16 (nI (a.1 + 1))) 63 14 (nI rp.length)).1 73 rp.length = nI (toR la rp) := t3
      show ck ((mI (mI M 63 16 (nI (a.1 + 1))) 63 14 (nI rp.length)).1 63 12) 7 (b_X8_judge_94 fu 0 (mI (mI (mI M 63 16 (nI (a.1 + 1))) 63 14 (nI rp.length)) 63 15 ((mI (mI M 63 16 (nI (a.1 + 1))) 63 14 (nI rp.length)).1 73 ((mI (mI M 63 16 (nI (a.1 + 1))) 63 14 (nI rp.length)).1 63 12).toNatClampNeg))) = _
      rw [q1, ck_y (by omega) (by decide), cl (by omega), q2]
      exact hj
    · unfold arrv
      rw [if_pos hb]
      refine ⟨rfl, s6, hto, fun q => absurd q (by simp), fun _ => ⟨rfl, rfl, fun i hi => ?_⟩⟩
      show jR (M.1 70) (M.1 74) rp.length i = _
      unfold jR
      rw [if_pos hi]
      exact SR_rev sSR i hi
    · intro q h1 h2 h3 h4 h5
      rw [rI_ne h5]
      unfold mI
      rw [rI_ne h1, rI_ne h1, rI_ne h1]
    · intro k h1 h2 h3 h4
      show upd (upd (upd (M.1 63) 16 _) 14 _) 15 _ k = _
      rw [pk_un h3, pk_un h2, pk_un h4]
  · refine ⟨mI M 63 16 (nI (a.1 + 1)), ?_, ?_, ⟨s64, s12, s70, SR_c sSR (fun _ _ => rfl) (fun _ _ => ⟨rfl, rfl, rfl⟩), sB, s6, sc⟩, ?_, fun _ _ => rfl, ?_⟩
    · rw [no hb]; rfl
    · have hz : ¬ a.1 = 0 := fun q => hb (by unfold btr; simp [q])
      obtain ⟨p1, p2, p3⟩ := m5 hz
      unfold arrv
      rw [if_neg hb]
      exact ⟨rfl, m2, m3, fun q => absurd q (by simp), fun _ => ⟨p1, p2, p3⟩⟩
    · intro q h1 h2 h3 h4 h5
      exact rI_ne h1
    · intro k h1 h2 h3 h4
      show upd (M.1 63) 16 _ k = _
      rw [pk_un h4]
theorem arrv_1 (rp : List Nat) (t : Nat) (a : Acc) : (arrv rp t a).1 = a.1 + 1 := by unfold arrv; split <;> rfl
theorem vis_1 (TO : Nat → Nat) (la : List Nat → List Nat) (p0 goal : Nat) (rp : List Nat) (a : Acc) : (visW TO la p0 goal rp a).1 ≤ a.1 + 1 := by
  unfold visW; split
  · rw [arrv_1]; omega
  · omega
theorem x8_lay {M0 : Mem} {B m : Nat} {FR TO : Nat → Nat} {bhl : Nat → List Nat → List Nat} {l0 : List Nat} {p0 goal : Nat} (hrc : RC M0 B m FR TO bhl) (hl : okN l0) (hp0 : p0 < 6) (hg : goal < 6) : ∀ (n : Nat) (rp : List Nat) (a a' : Acc) (M : Mem), St M M0 B TO (laR bhl l0) p0 rp 0 → MR M a → a.1 + n < 1000000 → WB B (opn FR TO p0) (visW TO (laR bhl l0) p0 goal) n rp a = some a' → ∃ N, b_X8_layWays_29 (nI goal) (n + 1) 1 M = some N ∧ MR N a' ∧ KY N M := by
  have hf := fu_big
  intro n
  induction n with
  | zero => intro rp a a' M _ _ _ h; cases h
  | succ n ih =>
    intro rp a a' M hs hm ha h
    have hs' := hs
    obtain ⟨s64, s12, s70, sSR, sB, s6, sc⟩ := hs'
    obtain ⟨t1, t2, t3⟩ := SR_top sSR
    have hpl := pl_lt hrc hp0 sB
    have hto : toR (laR bhl l0) rp ≤ 72 := by have := to_le hrc hl sB; omega
    have hv1 := vis_1 TO (laR bhl l0) p0 goal rp a
    -- the visit
    obtain ⟨N, e1, e2, e3, e4⟩ : ∃ N, b_X8_layWays_29 (nI goal) (n + 1 + 1) 1 M = b_X8_layWays_51 (fun x4_ M_ => b_X8_layWays_29 (nI goal) (n + 1) x4_ M_) (nI goal) N ∧ MR N (visW TO (laR bhl l0) p0 goal rp a) ∧ St N M0 B TO (laR bhl l0) p0 rp 0 ∧ KY N M := by
      rw [b_X8_layWays_29.eq_2, if_neg (by decide), s12, ck_y (by omega) (by decide), cl (by omega), t1]
      unfold visW
      by_cases hp : plR TO p0 rp = goal
      · obtain ⟨N, j1, j2, j3, j4⟩ := x8_judge hs hto hm (by omega)
        refine ⟨N, ?_, ?_, j3, j4⟩
        · rw [if_pos (by rw [hp]), j1, Option.bind_some]
        · rw [if_pos hp]; exact j2
      · refine ⟨M, ?_, ?_, hs, KY_r M⟩
        · rw [if_neg (fun q => hp ((nI_eq (by omega) (by omega)).mp q))]
        · rw [if_neg hp]; exact hm
    have hgo := x8_go hrc hl hp0 rp 0 fu N e3 (by omega)
    rw [e1]
    unfold b_X8_layWays_51 f_X8_goOn
    unfold WB at h
    cases hga : goA B (opn FR TO p0) rp 0 with
    | none =>
      rw [hga] at h
      obtain ⟨N2, g1, g2⟩ := hgo.1 hga
      rw [g1, Option.bind_some]
      refine ⟨N2, ?_, ?_, KY_t (KY_x g2) e4⟩
      · show b_X8_layWays_29 (nI goal) (n + 1) 0 N2 = _
        rw [b_X8_layWays_29.eq_2, if_pos rfl]
      · cases h; exact MR_x g2 e2
    | some rp' =>
      rw [hga] at h
      obtain ⟨N2, g1, g2, g3⟩ := hgo.2 rp' hga
      rw [g1, Option.bind_some]
      obtain ⟨N3, f1, f2, f3⟩ := ih rp' _ a' N2 g2 (MR_x g3 e2) (by omega) h
      exact ⟨N3, f1, f2, KY_t f3 (KY_t (KY_x g3) e4)⟩
