/-! what can be said; what is held -/
theorem b_1 : ∀ i, i < 32 → bt 1 i = decide (i = 0) := by decide +kernel
theorem b_x1 (x : Int32) : x &&& 1 = 1 ↔ bt x 0 = true := by
  constructor
  · intro h
    have h1 := b_and x 1 0
    rw [h, b_1 0 (by decide)] at h1
    simpa using h1.symm
  · intro h
    apply b_ext
    intro i hi
    rw [b_and, b_1 i hi]
    by_cases h0 : i = 0
    · subst h0; simp [h]
    · simp [h0]
theorem b_say (w : Int32) {s : Nat} (hs : s < 16) : ((w >>> (nI s &&& 31)) &&& 1) = 1 ↔ bt w s = true := by
  rw [b_x1, b_sshr s (by omega) w (by decide), if_pos (by omega)]
  rfl
def can (w : Int32) (l : List Nat) : Bool := l.all (fun s => decide (((w >>> (nI s &&& 31)) &&& 1) = 1))
theorem snd_bt : ∀ (l : List Nat) (b : Int32) (i : Nat), (∀ s ∈ l, s < 16) → i < 32 → bt (l.foldl (fun b s => b ||| ((1 : Int32) <<< (nI s &&& 31))) b) i = (bt b i || decide (i ∈ l))
  | [], b, i, _, _ => by simp
  | s :: t, b, i, h, hi => by
    have hs := h s List.mem_cons_self
    rw [List.foldl_cons, snd_bt t _ i (fun q hq => h q (List.mem_cons_of_mem _ hq)) hi, b_or, b_shl s (by omega) 1 hi]
    by_cases e : i = s
    · subst e
      rw [b_1 (i - i) (by omega)]
      simp
    · by_cases e2 : s ≤ i
      · rw [b_1 (i - s) (by omega)]
        simp [e, show ¬ i - s = 0 by omega]
      · simp [e, e2]
theorem x7_canSay {l : List Nat} (h : okN l) (w : Int32) : f_X7_canSay w (snd l) = if can w l then 1 else 0 := by
  unfold f_X7_canSay
  have hb : ∀ i, i < 32 → bt (snd l) i = decide (i ∈ l) := fun i hi => by
    unfold snd
    rw [snd_bt l 0 i h.2 hi, b_0]
    simp
  have hiff : (snd l &&& (w ^^^ (-1 : Int32))) = 0 ↔ can w l = true := by
    unfold can
    rw [List.all_eq_true]
    constructor
    · intro e s hs
      have h16 := h.2 s hs
      have h1 := b_and (snd l) (w ^^^ (-1)) s
      rw [e, b_0, hb s (by omega), b_xor, b_m1 s (by omega)] at h1
      rw [decide_eq_true_eq, b_say w h16]
      simpa [hs] using h1
    · intro e
      apply b_ext
      intro i hi
      rw [b_and, hb i hi, b_xor, b_m1 i hi, b_0]
      by_cases hm : i ∈ l
      · have h16 := h.2 i hm
        have := e i hm
        rw [decide_eq_true_eq, b_say w h16] at this
        simp [this]
      · simp [hm]
  by_cases hc : can w l = true
  · rw [if_pos (hiff.mpr hc), if_pos hc]
  · rw [if_neg (fun q => hc (hiff.mp q)), if_neg hc]
theorem all_snoc {l : List Nat} {i : Nat} (hi : i < l.length) (p : Nat → Bool) : (l.take (i + 1)).all p = ((l.take i).all p && p (l.getD i 0)) := by
  rw [← take_snoc hi, List.all_append]
  simp
theorem x8_canSayL {l : List Nat} (h : okN l) (w : Int32) : ∀ (k i n : Nat), i + k = l.length → k < n → b_X8_canSay_5 w (eM l) n (if can w (l.take i) then 1 else 0) (nI i) = some (if can w l then 1 else 0)
  | _, _, 0, _, hn => absurd hn (Nat.not_lt_zero _)
  | 0, i, n + 1, hi, _ => by
    have hl := h.1
    rw [b_X8_canSay_5.eq_2, x8_many h, if_pos ((nI_leI (by omega) (by omega)).mpr (by omega)), List.take_of_length_le (by omega)]
    unfold ckB
    by_cases hc : can w l = true
    · rw [if_pos hc]; rfl
    · rw [if_neg hc]; rfl
  | k + 1, i, n + 1, hi, hn => by
    have hl := h.1
    rw [b_X8_canSay_5.eq_2, x8_many h, if_neg (fun q => by have := (nI_leI (by omega) (by omega)).mp q; omega)]
    have ih := x8_canSayL h w k (i + 1) n (by omega) (by omega)
    have hs : can w (l.take (i + 1)) = (can w (l.take i) && decide (((w >>> (nI (l.getD i 0) &&& 31)) &&& 1) = 1)) := all_snoc (by omega) _
    rw [hs] at ih
    unfold b_X8_canSay_37
    by_cases hc : can w (l.take i) = true
    · rw [if_pos hc, if_neg (by decide), x8_syl h (by omega), nI_1]
      rw [hc, Bool.true_and] at ih
      by_cases hd : ((w >>> (nI (l.getD i 0) &&& 31)) &&& 1) = 1
      · rw [if_pos hd]
        rw [if_pos (decide_eq_true hd)] at ih
        exact ih
      · rw [if_neg hd]
        rw [if_neg (by simpa using hd)] at ih
        exact ih
    · rw [if_neg hc, if_pos rfl, nI_1]
      have hc2 : can w (l.take i) = false := by simpa using hc
      rw [hc2, Bool.false_and, if_neg (by decide)] at ih
      exact ih
theorem x8_canSay {l : List Nat} (h : okN l) (w : Int32) : f_X8_canSay w (eM l) = some (if can w l then 1 else 0) := by
  have hl := h.1
  have hf := fu_big
  unfold f_X8_canSay
  have := x8_canSayL h w l.length 0 fu (by omega) (by omega)
  rw [List.take_zero] at this
  exact this
theorem isAt_iff {l q : List Nat} {i : Nat} (hi : i + q.length ≤ l.length) : isAtL l q i = true ↔ ∀ t, t < q.length → l.getD (i + t) 0 = q.getD t 0 := by
  unfold isAtL
  rw [beq_iff_eq]
  constructor
  · intro h t ht
    have h1 : q[t]? = ((l.drop i).take q.length)[t]? := by rw [h]
    rw [List.getElem?_take, if_pos ht, List.getElem?_drop] at h1
    simp only [List.getD, h1]
  · intro h
    apply List.ext_getElem
    · simp; omega
    · intro t h1 h2
      have h3 := h t h2
      simp only [List.getD, List.getElem?_eq_getElem (show i + t < l.length by omega), List.getElem?_eq_getElem h2, Option.getD_some] at h3
      rw [List.getElem_take, List.getElem_drop]
      exact h3
def preL (l q : List Nat) (i j : Nat) : Bool := (List.range j).all (fun t => l.getD (i + t) 0 == q.getD t 0)
theorem preL_s (l q : List Nat) (i j : Nat) : preL l q i (j + 1) = (preL l q i j && (l.getD (i + j) 0 == q.getD j 0)) := by
  unfold preL
  rw [List.range_succ, List.all_append]
  simp
theorem preL_all {l q : List Nat} {i : Nat} (hi : i + q.length ≤ l.length) : preL l q i q.length = isAtL l q i := by
  rw [Bool.eq_iff_iff, isAt_iff hi]
  unfold preL
  rw [List.all_eq_true]
  constructor
  · intro h t ht; simpa using h t (List.mem_range.mpr ht)
  · intro h t ht; simpa using h t (List.mem_range.mp ht)
theorem x8_hasI {l q : List Nat} (h : okN l) (hq : okN q) {i : Nat} (hi : i + q.length ≤ l.length) (k6 : Int32 → Int32 → Option Int32) (x4 : Int32) : ∀ (k j n : Nat), j + k = q.length → k < n → b_X8_has_26 k6 (eM l) (eM q) x4 (nI i) n (if preL l q i j then 1 else 0) (nI j) = b_X8_has_71 k6 (eM l) (eM q) x4 (nI i) (if isAtL l q i then 1 else 0)
  | _, _, 0, _, hn => absurd hn (Nat.not_lt_zero _)
  | 0, j, n + 1, hj, _ => by
    have hl := hq.1
    rw [b_X8_has_26.eq_2, x8_many hq, if_pos ((nI_leI (by omega) (by omega)).mpr (by omega)), ← preL_all hi, show j = q.length by omega]
  | k + 1, j, n + 1, hj, hn => by
    have hl := h.1
    have hql := hq.1
    have ih := x8_hasI h hq hi k6 x4 k (j + 1) n (by omega) (by omega)
    rw [preL_s] at ih
    rw [b_X8_has_26.eq_2, x8_many hq, if_neg (fun z => by have := (nI_leI (by omega) (by omega)).mp z; omega)]
    unfold b_X8_has_63
    by_cases hc : preL l q i j = true
    · rw [if_pos hc, if_neg (by decide), nI_add, x8_syl h (by omega), x8_syl hq (by omega), nI_1]
      rw [hc, Bool.true_and] at ih
      have g1 := h.get (i + j)
      have g2 := hq.get j
      by_cases hd : l.getD (i + j) 0 = q.getD j 0
      · rw [if_pos (by rw [hd])]
        rw [if_pos (by simpa using hd)] at ih
        exact ih
      · rw [if_neg (fun z => hd ((nI_eq (by omega) (by omega)).mp z))]
        rw [if_neg (by simpa using hd)] at ih
        exact ih
    · rw [if_neg hc, if_pos rfl, nI_1]
      have hc2 : preL l q i j = false := by simpa using hc
      rw [hc2, Bool.false_and, if_neg (by decide)] at ih
      exact ih
theorem x8_hasL {l q : List Nat} (h : okN l) (hq : okN q) : ∀ (k i n : Nat), (q.length ≤ l.length → i + k = l.length + 1 - q.length) → (l.length < q.length → k = 0 ∧ i = 0) → k < n → b_X8_has_6 (eM l) (eM q) n (if (List.range i).any (fun j => isAtL l q j) then 1 else 0) (nI i) = some (if (List.range (i + k)).any (fun j => isAtL l q j) then 1 else 0)
  | _, _, 0, _, _, hn => absurd hn (Nat.not_lt_zero _)
  | 0, i, n + 1, h1, h2, _ => by
    have hl := h.1
    have hql := hq.1
    rw [b_X8_has_6.eq_2, x8_many h, x8_many hq, nI_add, if_pos ((nI_ltI (by omega) (by omega)).mpr (by omega))]
    unfold ckB
    by_cases hc : (List.range i).any (fun j => isAtL l q j) = true
    · rw [if_pos hc, if_pos (Or.inr rfl), Nat.add_zero, if_pos hc]
    · rw [if_neg hc, if_pos (Or.inl rfl), Nat.add_zero, if_neg hc]
  | k + 1, i, n + 1, h1, h2, hn => by
    have hl := h.1
    have hql := hq.1
    have hf := fu_big
    have hle : q.length ≤ l.length := by
      rcases Nat.lt_or_ge l.length q.length with z | z
      · have := (h2 z).1; omega
      · exact z
    have h3 := h1 hle
    rw [b_X8_has_6.eq_2, x8_many h, x8_many hq, nI_add, if_neg (fun z => by have := (nI_ltI (by omega) (by omega)).mp z; omega)]
    have e := x8_hasI h hq (i := i) (by omega) (fun x4_ x5_ => b_X8_has_6 (eM l) (eM q) n x4_ x5_) (if (List.range i).any (fun j => isAtL l q j) then 1 else 0) q.length 0 fu (by omega) (by omega)
    have e0 : preL l q i 0 = true := rfl
    rw [e0, if_pos rfl] at e
    rw [show nI 0 = (0 : Int32) from rfl] at e
    rw [e]
    have ih := x8_hasL h hq k (i + 1) n (fun _ => by omega) (fun z => by omega) (by omega)
    rw [show i + 1 + k = i + (k + 1) by omega] at ih
    rw [← ih, List.range_succ, List.any_append]
    unfold b_X8_has_71 b_X8_has_86
    by_cases hc : (List.range i).any (fun j => isAtL l q j) = true
    · rw [hc]
      simp only [if_true, Bool.true_or]
      rw [if_neg (by decide), nI_1]
    · have hc2 : (List.range i).any (fun j => isAtL l q j) = false := by simpa using hc
      rw [hc2]
      simp only [Bool.false_or, List.any_cons, List.any_nil, Bool.or_false]
      rw [if_pos (by decide)]
      by_cases hd : isAtL l q i = true
      · rw [if_pos hd, if_neg (by decide), nI_1]
      · rw [if_neg hd, if_pos rfl, nI_1]
theorem x8_has {l q : List Nat} (h : okN l) (hq : okN q) : f_X8_has (eM l) (eM q) = some (if hasL l q then 1 else 0) := by
  have hl := h.1
  have hf := fu_big
  unfold f_X8_has hasL
  rcases Nat.lt_or_ge l.length q.length with z | z
  · have := x8_hasL h hq 0 0 fu (fun _ => by omega) (fun _ => ⟨rfl, rfl⟩) (by omega)
    rw [show l.length + 1 - q.length = 0 by omega]
    exact this
  · have := x8_hasL h hq (l.length + 1 - q.length) 0 fu (fun _ => by omega) (fun _ => by omega) (by omega)
    rw [Nat.zero_add] at this
    exact this
