/-! ways: gone through in the same order -/
def fstO (op : Nat → Bool) : Nat → Nat → Option Nat
  | 0, _ => none
  | k + 1, b => if op b = true then some b else fstO op k (b + 1)
def nx (B : Nat) (op : List Nat → Nat → Bool) (rp : List Nat) (c : Nat) : Option Nat := if rp.length < 6 then fstO (op rp) (B - c) c else none
def goA (B : Nat) (op : List Nat → Nat → Bool) : List Nat → Nat → Option (List Nat)
  | [], c => match nx B op [] c with
    | some b => some [b]
    | none => none
  | a :: r, c => match nx B op (a :: r) c with
    | some b => some (b :: a :: r)
    | none => goA B op r (a + 1)
def WB {A : Type} (B : Nat) (op : List Nat → Nat → Bool) (vis : List Nat → A → A) : Nat → List Nat → A → Option A
  | 0, _, _ => none
  | n + 1, rp, a => match goA B op rp 0 with
    | none => some (vis rp a)
    | some rp' => WB B op vis n rp' (vis rp a)
def WX {A : Type} (B : Nat) (op : List Nat → Nat → Bool) (vis : List Nat → A → A) (n : Nat) (rp : List Nat) (c : Nat) (a : A) : Option A := match goA B op rp c with
    | none => some a
    | some rp' => WB B op vis n rp' a
def WU {A : Type} (B : Nat) (op : List Nat → Nat → Bool) (vis : List Nat → A → A) (n : Nat) (rp : List Nat) (a : A) : Option A := match rp with
    | [] => some a
    | b :: r => WX B op vis n r (b + 1) a
def lpW {A : Type} (rc : Nat → A → A) (op : Nat → Bool) : Nat → Nat → A → A
  | 0, _, a => a
  | k + 1, b, a => lpW rc op k (b + 1) (if op b = true then rc b a else a)
def FV {A : Type} (B : Nat) (op : List Nat → Nat → Bool) (vis : List Nat → A → A) : Nat → List Nat → A → A
  | 0, rp, a => vis rp a
  | k + 1, rp, a => lpW (fun b a => FV B op vis k (b :: rp) a) (op rp) B 0 (vis rp a)
def LPW {A : Type} (B : Nat) (op : List Nat → Nat → Bool) (vis : List Nat → A → A) : Nat → List Nat → Nat → A → A
  | 0, _, _, a => a
  | k + 1, rp, c, a => lpW (fun b a => FV B op vis k (b :: rp) a) (op rp) (B - c) c a
theorem FV_LPW {A : Type} (B : Nat) (op : List Nat → Nat → Bool) (vis : List Nat → A → A) (k : Nat) (rp : List Nat) (a : A) : FV B op vis k rp a = LPW B op vis k rp 0 (vis rp a) := by
  cases k with
  | zero => rfl
  | succ k => rfl
def Nn : Nat → Nat
  | 0 => 0
  | k + 1 => 8 * (1 + Nn k)
def nd (B : Nat) : Nat → Nat → Nat
  | 0, _ => 0
  | k + 1, c => (B - c) * (1 + Nn k)
theorem nd_le {B : Nat} (hB : B ≤ 8) : ∀ k, nd B k 0 ≤ Nn k
  | 0 => Nat.le_refl _
  | k + 1 => Nat.mul_le_mul_right _ (by omega)
theorem goA_pop0 {B : Nat} {op : List Nat → Nat → Bool} {c : Nat} (h : nx B op [] c = none) : goA B op [] c = none := by
  unfold goA; rw [h]
theorem goA_pop1 {B : Nat} {op : List Nat → Nat → Bool} {a : Nat} {r : List Nat} {c : Nat} (h : nx B op (a :: r) c = none) : goA B op (a :: r) c = goA B op r (a + 1) := by
  rw [goA, h]
theorem goA_push {B : Nat} {op : List Nat → Nat → Bool} {rp : List Nat} {c b : Nat} (h : nx B op rp c = some b) : goA B op rp c = some (b :: rp) := by
  cases rp with
  | nil => unfold goA; rw [h]
  | cons a r => rw [goA, h]
theorem WX_pop {A : Type} {B : Nat} {op : List Nat → Nat → Bool} {vis : List Nat → A → A} {n : Nat} {rp : List Nat} {c : Nat} {a : A} (h : nx B op rp c = none) : WX B op vis n rp c a = WU B op vis n rp a := by
  cases rp with
  | nil => unfold WX; rw [goA_pop0 h]; rfl
  | cons b r => unfold WX; rw [goA_pop1 h]; rfl
theorem WX_main {A : Type} {B : Nat} (hB : B ≤ 8) (op : List Nat → Nat → Bool) (vis : List Nat → A → A) : ∀ (k : Nat) (rp : List Nat) (c : Nat) (a : A) (n K : Nat), k + rp.length = 6 → c ≤ B → K + nd B k c ≤ n → ∃ n', K ≤ n' ∧ WX B op vis n rp c a = WU B op vis n' rp (LPW B op vis k rp c a)
  | 0, rp, c, a, n, K, hk, hc, hn => by
    refine ⟨n, by unfold nd at hn; omega, ?_⟩
    exact WX_pop (by unfold nx; rw [if_neg (by omega)])
  | k + 1, rp, c, a, n, K, hk, hc, hn => by
    have inner : ∀ (e c : Nat) (a : A) (n : Nat), c + e = B → K + e * (1 + Nn k) ≤ n → ∃ n', K ≤ n' ∧ WX B op vis n rp c a = WU B op vis n' rp (lpW (fun b a => FV B op vis k (b :: rp) a) (op rp) e c a) := by
      intro e
      induction e with
      | zero =>
        intro c a n hc hn
        refine ⟨n, by omega, WX_pop ?_⟩
        unfold nx
        rw [if_pos (by omega), show B - c = 0 by omega]; rfl
      | succ e ih =>
        intro c a n hc hn
        have hx : nx B op rp c = if op rp c = true then some c else nx B op rp (c + 1) := by
          unfold nx
          have h6 : rp.length < 6 := by omega
          rw [if_pos h6, if_pos h6, show B - c = (B - (c + 1)) + 1 by omega]; rfl
        have hm : (e + 1) * (1 + Nn k) = e * (1 + Nn k) + (1 + Nn k) := Nat.succ_mul _ _
        unfold lpW
        by_cases ho : op rp c = true
        · rw [if_pos ho] at hx
          rw [if_pos ho]
          obtain ⟨n1, rfl⟩ : ∃ n1, n = n1 + 1 := ⟨n - 1, by omega⟩
          have e1 : WX B op vis (n1 + 1) rp c a = WX B op vis n1 (c :: rp) 0 (vis (c :: rp) a) := by
            unfold WX; rw [goA_push hx]; rfl
          have hnd := nd_le hB k
          obtain ⟨n2, h2, e2⟩ := WX_main hB op vis k (c :: rp) 0 (vis (c :: rp) a) n1 (K + e * (1 + Nn k)) (by simp only [List.length_cons]; omega) (by omega) (by omega)
          obtain ⟨n3, h3, e3⟩ := ih (c + 1) (FV B op vis k (c :: rp) a) n2 (by omega) h2
          refine ⟨n3, h3, ?_⟩
          rw [e1, e2, ← FV_LPW]
          exact e3
        · rw [if_neg ho] at hx
          rw [if_neg ho]
          obtain ⟨n3, h3, e3⟩ := ih (c + 1) a n (by omega) (by omega)
          refine ⟨n3, h3, ?_⟩
          rw [← e3]
          unfold WX
          have : goA B op rp c = goA B op rp (c + 1) := by
            cases rp with
            | nil => unfold goA; rw [hx]
            | cons b r => rw [goA, goA, hx]
          rw [this]
    unfold nd at hn
    obtain ⟨n', h1, h2⟩ := inner (B - c) c a n (by omega) hn
    exact ⟨n', h1, h2⟩
theorem WB_all {A : Type} {B : Nat} (hB : B ≤ 8) (op : List Nat → Nat → Bool) (vis : List Nat → A → A) (a : A) {n : Nat} (hn : 299593 ≤ n) : WB B op vis n [] a = some (FV B op vis 6 [] a) := by
  obtain ⟨n1, rfl⟩ : ∃ n1, n = n1 + 1 := ⟨n - 1, by omega⟩
  have h6 : Nn 6 = 299592 := by decide
  have hnd := nd_le hB 6
  obtain ⟨n', h1, h2⟩ := WX_main hB op vis 6 [] 0 (vis [] a) n1 0 rfl (by omega) (by omega)
  rw [FV_LPW]
  exact h2
/-! the river that they go along -/
def laR (bhl : Nat → List Nat → List Nat) (l0 : List Nat) : List Nat → List Nat
  | [] => l0
  | b :: r => bhl b (laR bhl l0 r)
def toR (la : List Nat → List Nat) : List Nat → Nat
  | [] => 0
  | b :: r => toR la r + (la (b :: r)).length
def plR (TO : Nat → Nat) (p0 : Nat) : List Nat → Nat
  | [] => p0
  | b :: _ => TO b
def opn (FR TO : Nat → Nat) (p0 : Nat) (rp : List Nat) (b : Nat) : Bool := FR b == plR TO p0 rp && !rp.contains b
/-- the river of a memory: bridges, month, where they lead, what they make of a name -/
def RC (M : Mem) (B m : Nat) (FR TO : Nat → Nat) (bhl : Nat → List Nat → List Nat) : Prop :=
  B ≤ 8 ∧ m < 12 ∧ M.1 1 6 = nI B ∧ M.1 64 0 = nI B ∧ (∀ b, b < B → FR b < 6 ∧ TO b < 6 ∧ M.1 2 b = nI (FR b) ∧ M.1 64 (4 + 4 * b) = nI (FR b) ∧ M.1 3 b = nI (TO b) ∧ M.1 64 (4 + 4 * b + 1) = nI (TO b)) ∧
  (∀ b l, b < B → okN l → okN (bhl b l) ∧ f_X4_behind_1 M (nI b) (eC l) = some (eC (bhl b l)) ∧ ∀ N : Mem, N.1 64 = M.1 64 → f_X8_behindBridge N (nI b) (eM l) = some (eM (bhl b l)))
theorem RC_of {M : Mem} {B m : Nat} (hB : B ≤ 8) (hm : m < 12) (b6 : M.1 1 6 = nI B) (b0 : M.1 64 0 = nI B) (m7 : M.1 1 7 = nI m) (m1 : M.1 64 1 = nI m) (hbr : ∀ k, k < B → BR (M.1 2) (M.1 3) (M.1 4) (M.1 5) (M.1 64) k) : RC M B m (fun b => (M.1 2 b).toNatClampNeg) (fun b => (M.1 3 b).toNatClampNeg) (bh (M.1 4) (M.1 5) m) := by
  refine ⟨hB, hm, b6, b0, fun b hb => ?_, fun b l hb hl => ?_⟩
  · obtain ⟨a, c, kd, n, h1, h2, -, -, e1, e2, e3, e4, -⟩ := hbr b hb
    have ca : (M.1 2 b).toNatClampNeg = a := by rw [e1]; exact cl (by omega)
    have cb : (M.1 3 b).toNatClampNeg = c := by rw [e3]; exact cl (by omega)
    show (M.1 2 b).toNatClampNeg < 6 ∧ (M.1 3 b).toNatClampNeg < 6 ∧ M.1 2 b = nI (M.1 2 b).toNatClampNeg ∧ M.1 64 (4 + 4 * b) = nI (M.1 2 b).toNatClampNeg ∧ M.1 3 b = nI (M.1 3 b).toNatClampNeg ∧ M.1 64 (4 + 4 * b + 1) = nI (M.1 3 b).toNatClampNeg
    rw [ca, cb]
    exact ⟨h1, h2, e1, e2, e3, e4⟩
  · obtain ⟨h1, h2⟩ := x7_bh hB m7 hm hb (hbr b hb) hl
    exact ⟨h2, h1, fun N hN => x8_bh hN hB m1 hm hb (hbr b hb) hl⟩
theorem la_ok {M : Mem} {B m : Nat} {FR TO : Nat → Nat} {bhl : Nat → List Nat → List Nat} (h : RC M B m FR TO bhl) {l0 : List Nat} (hl : okN l0) : ∀ {rp : List Nat}, (∀ b ∈ rp, b < B) → okN (laR bhl l0 rp)
  | [], _ => hl
  | b :: r, hr => (h.2.2.2.2.2 b _ (hr b (List.mem_cons_self ..)) (la_ok h hl (fun c hc => hr c (List.mem_cons_of_mem _ hc)))).1
theorem to_le {M : Mem} {B m : Nat} {FR TO : Nat → Nat} {bhl : Nat → List Nat → List Nat} (h : RC M B m FR TO bhl) {l0 : List Nat} (hl : okN l0) : ∀ {rp : List Nat}, (∀ b ∈ rp, b < B) → toR (laR bhl l0) rp ≤ 12 * rp.length
  | [], _ => Nat.le_refl _
  | b :: r, hr => by
    have h1 := (la_ok h hl hr).1
    have h2 := to_le h hl (rp := r) (fun c hc => hr c (List.mem_cons_of_mem _ hc))
    unfold toR
    simp only [List.length_cons]
    omega
theorem pl_lt {M : Mem} {B m : Nat} {FR TO : Nat → Nat} {bhl : Nat → List Nat → List Nat} (h : RC M B m FR TO bhl) {p0 : Nat} (hp : p0 < 6) : ∀ {rp : List Nat}, (∀ b ∈ rp, b < B) → plR TO p0 rp < 6
  | [], _ => hp
  | b :: _, hr => (h.2.2.2.2.1 b (hr b (List.mem_cons_self ..))).2.1
/-! the reference's stack -/
def SR (M : Mem) (TO : Nat → Nat) (la : List Nat → List Nat) (p0 : Nat) : List Nat → Prop
  | [] => M.1 71 0 = nI p0 ∧ M.2 72 0 = eM (la []) ∧ M.1 73 0 = nI 0
  | b :: r => M.1 70 r.length = nI b ∧ M.1 71 (r.length + 1) = nI (TO b) ∧ M.2 72 (r.length + 1) = eM (la (b :: r)) ∧ M.1 73 (r.length + 1) = nI (toR la (b :: r)) ∧ SR M TO la p0 r
theorem SR_top {M : Mem} {TO : Nat → Nat} {la : List Nat → List Nat} {p0 : Nat} : ∀ {rp : List Nat}, SR M TO la p0 rp → M.1 71 rp.length = nI (plR TO p0 rp) ∧ M.2 72 rp.length = eM (la rp) ∧ M.1 73 rp.length = nI (toR la rp)
  | [], h => h
  | _ :: _, h => ⟨h.2.1, h.2.2.1, h.2.2.2.1⟩
theorem SR_c {M N : Mem} {TO : Nat → Nat} {la : List Nat → List Nat} {p0 : Nat} : ∀ {rp : List Nat}, SR M TO la p0 rp → (∀ i, i < rp.length → N.1 70 i = M.1 70 i) → (∀ i, i ≤ rp.length → N.1 71 i = M.1 71 i ∧ N.2 72 i = M.2 72 i ∧ N.1 73 i = M.1 73 i) → SR N TO la p0 rp
  | [], h, _, h2 => by
    obtain ⟨q1, q2, q3⟩ := h2 0 (by simp)
    exact ⟨q1.trans h.1, q2.trans h.2.1, q3.trans h.2.2⟩
  | b :: r, h, h1, h2 => by
    simp only [List.length_cons] at h1 h2
    obtain ⟨q1, q2, q3⟩ := h2 (r.length + 1) (by omega)
    exact ⟨(h1 _ (by omega)).trans h.1, q1.trans h.2.1, q2.trans h.2.2.1, q3.trans h.2.2.2.1, SR_c h.2.2.2.2 (fun i hi => h1 i (by omega)) (fun i hi => h2 i (by omega))⟩
def KX (N M : Mem) : Prop := (∀ q, q ≠ 63 → q ≠ 70 → q ≠ 71 → q ≠ 73 → N.1 q = M.1 q) ∧ (∀ q, q ≠ 72 → N.2 q = M.2 q) ∧ (∀ k, k ≠ 12 → N.1 63 k = M.1 63 k)
theorem KX_r (M : Mem) : KX M M := ⟨fun _ _ _ _ _ => rfl, fun _ _ => rfl, fun _ _ => rfl⟩
theorem KX_t {P N M : Mem} (h : KX P N) (h2 : KX N M) : KX P M := ⟨fun q a b c d => (h.1 q a b c d).trans (h2.1 q a b c d), fun q a => (h.2.1 q a).trans (h2.2.1 q a), fun k a => (h.2.2 k a).trans (h2.2.2 k a)⟩
def St (M M0 : Mem) (B : Nat) (TO : Nat → Nat) (la : List Nat → List Nat) (p0 : Nat) (rp : List Nat) (c : Nat) : Prop := M.1 64 = M0.1 64 ∧ M.1 63 12 = nI rp.length ∧ M.1 70 rp.length + 1 = nI c ∧ SR M TO la p0 rp ∧ (∀ b ∈ rp, b < B) ∧ rp.length ≤ 6 ∧ c ≤ B
def gn (S : Nat → Int32) (x : Int32) : Nat → Bool
  | 0 => false
  | i + 1 => gn S x i || S i == x
theorem x8_gone {M : Mem} {d : Nat} {x : Int32} (hd : d ≤ 6) (h12 : M.1 63 12 = nI d) : ∀ (e i n : Nat), i + e = d → e < n → b_X8_isGone_4 M x n (if gn (M.1 70) x i = true then 1 else 0) (nI i) = some (if gn (M.1 70) x d = true then 1 else 0)
  | _, _, 0, _, hn => absurd hn (Nat.not_lt_zero _)
  | 0, i, n + 1, hi, _ => by
    rw [b_X8_isGone_4.eq_2, h12, if_pos ((nI_leI (by omega) (by omega)).mpr (by omega)), show i = d by omega]
    have hb : ∀ b : Bool, ckB (if b = true then (1 : Int32) else 0) (some (if b = true then (1 : Int32) else 0)) = some (if b = true then (1 : Int32) else 0) := by decide
    exact hb _
  | e + 1, i, n + 1, hi, hn => by
    have ih := x8_gone hd h12 (x := x) e (i + 1) n (by omega) (by omega)
    rw [b_X8_isGone_4.eq_2, h12, if_neg (fun q => by have := (nI_leI (by omega) (by omega)).mp q; omega)]
    rw [show gn (M.1 70) x (i + 1) = (gn (M.1 70) x i || M.1 70 i == x) from rfl] at ih
    unfold b_X8_isGone_31
    rw [nI_1]
    by_cases hg : gn (M.1 70) x i = true
    · rw [if_pos hg, if_neg (by decide)]
      rw [hg, Bool.true_or, if_pos rfl] at ih
      exact ih
    · rw [if_neg hg, if_pos rfl, ck_y (by omega) (by decide), cl (by omega)]
      have hg' : gn (M.1 70) x i = false := by simpa using hg
      rw [hg', Bool.false_or] at ih
      by_cases hs : M.1 70 i = x
      · rw [if_pos hs]
        rw [if_pos (by simp [hs])] at ih
        exact ih
      · rw [if_neg hs]
        rw [if_neg (by simp [hs])] at ih
        exact ih
theorem SR_gone {M : Mem} {TO : Nat → Nat} {la : List Nat → List Nat} {p0 b : Nat} (hb : b < 8) : ∀ {rp : List Nat}, SR M TO la p0 rp → (∀ c ∈ rp, c < 8) → gn (M.1 70) (nI b) rp.length = rp.contains b
  | [], _, _ => rfl
  | c :: r, h, hr => by
    have ih := SR_gone hb h.2.2.2.2 (fun c hc => hr c (List.mem_cons_of_mem _ hc))
    have hc := hr c (List.mem_cons_self ..)
    simp only [List.length_cons, List.contains_cons]
    unfold gn
    rw [ih, h.1]
    have : (nI c == nI b) = (b == c) := by
      by_cases e : b = c
      · subst e; rw [beq_self_eq_true, beq_self_eq_true]
      · have : ¬ nI c = nI b := fun q => e ((nI_eq (by omega) (by omega)).mp q).symm
        rw [beq_eq_false_iff_ne.mpr this, beq_eq_false_iff_ne.mpr e]
    rw [this, Bool.or_comm]
theorem x8_go19 {M M0 : Mem} {B m c0 : Nat} {FR TO : Nat → Nat} {bhl : Nat → List Nat → List Nat} {la : List Nat → List Nat} {p0 : Nat} {rp : List Nat} (hrc : RC M0 B m FR TO bhl) (hp0 : p0 < 6) (hs : St M M0 B TO la p0 rp c0) (k0 : Mem → Option (Int32 × Mem)) : ∀ (e c n : Nat), c + e = B → e < n → b_X8_goOn_19 k0 n (nI c) M = b_X8_goOn_59 k0 (nI ((fstO (opn FR TO p0 rp) e c).getD B)) M
  | _, _, 0, _, hn => absurd hn (Nat.not_lt_zero _)
  | 0, c, n + 1, hc, _ => by
    have hB := hrc.1
    have hb0 : f_X8_bridges M = nI B := by unfold f_X8_bridges; rw [hs.1]; exact hrc.2.2.2.1
    rw [b_X8_goOn_19.eq_2, hb0, if_pos ((nI_leI (by omega) (by omega)).mpr (by omega)), show c = B by omega]
    rfl
  | e + 1, c, n + 1, hc, hn => by
    have hf := fu_big
    have hB := hrc.1
    have hb0 : f_X8_bridges M = nI B := by unfold f_X8_bridges; rw [hs.1]; exact hrc.2.2.2.1
    have ih := x8_go19 hrc hp0 hs k0 e (c + 1) n (by omega) (by omega)
    obtain ⟨s64, s12, s70, sSR, sB, s6, sc⟩ := hs
    obtain ⟨r1, r2, r3, r4, r5, r6⟩ := hrc.2.2.2.2.1 c (by omega)
    have hg : f_X8_get M (nI c) (0 : Int32) = some (nI (FR c)) := (get8 (M := M) (j := c) (w := 0) (by omega) (by decide)).trans (by rw [s64, Nat.add_zero, r4])
    obtain ⟨t1, t2, t3⟩ := SR_top sSR
    have hpl := pl_lt hrc hp0 sB
    rw [b_X8_goOn_19.eq_2, hb0, if_neg (fun q => by have := (nI_leI (by omega) (by omega)).mp q; omega), hg, Option.bind_some, s12, ck_y (by omega) (by decide), cl (by omega), t1]
    unfold fstO opn
    unfold b_X8_goOn_53
    rw [nI_1]
    by_cases hfr : FR c = plR TO p0 rp
    · rw [if_pos (by rw [hfr])]
      have hgn := x8_gone (x := nI c) s6 s12 rp.length 0 fu (by omega) (by omega)
      have hgn' : f_X8_isGone M (nI c) = some (if rp.contains c = true then 1 else 0) := by
        rw [← SR_gone (by omega) sSR (fun c hc => by have := sB c hc; omega)]; exact hgn
      rw [hgn', Option.bind_some]
      by_cases hin : rp.contains c = true
      · rw [if_pos hin, if_neg (by decide), if_neg (by rw [hin]; simp)]
        exact ih
      · rw [if_neg hin, if_pos rfl, if_pos (by simp only [Bool.not_eq_true] at hin; rw [hin, hfr]; simp)]
        rfl
    · rw [if_neg (fun q => hfr ((nI_eq (by omega) (by omega)).mp q)), if_neg (by simp [hfr])]
      exact ih
theorem fstO_lt {op : Nat → Bool} : ∀ {e c b : Nat}, fstO op e c = some b → c ≤ b ∧ b < c + e ∧ op b = true
  | 0, _, _, h => by cases h
  | e + 1, c, b, h => by
    unfold fstO at h
    by_cases ho : op c = true
    · rw [if_pos ho] at h; cases h; exact ⟨by omega, by omega, ho⟩
    · rw [if_neg ho] at h
      have := fstO_lt h
      exact ⟨by omega, by omega, this.2.2⟩
