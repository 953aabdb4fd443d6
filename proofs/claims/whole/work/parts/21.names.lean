/-! the class's names -/
theorem eC_bd {l : List Nat} (h : okN l) : l.length + 16 * vL l < 4503599627370496 := by have := h.lt; have := h.1; omega
theorem eC_15 {l : List Nat} (h : okN l) : eC l &&& (15 : Int64) = lN l.length := by
  have h1 := eC_bd h
  have h2 := h.1
  show lN _ &&& lN (2 ^ 4 - 1) = _
  rw [wb_mask (by omega) (by decide)]
  exact lN_m _ _ (by omega)
theorem x1_len {l : List Nat} (h : okN l) : f_X1_length (eC l) = nI l.length := by
  unfold f_X1_length
  rw [eC_15 h, lN_i]
theorem k4 (i : Nat) : (4 : Int32) * (nI i + (1 : Int32)) = nI (4 * (i + 1)) := by
  rw [nI_1]; exact pk_mul 4 (i + 1)
theorem x1_syl {l : List Nat} (h : okN l) {i : Nat} (hi : i < 15) : f_X1_syllable (eC l) (nI i) = nI (l.getD i 0) := by
  have h1 := eC_bd h
  unfold f_X1_syllable eC
  rw [k4, wb_shr (by omega) (by omega)]
  have e : (l.length + 16 * vL l) / 2 ^ (4 * (i + 1)) = vL l / 16 ^ i := by
    rw [p16, Nat.pow_succ, Nat.mul_comm (16 ^ i) 16, ← Nat.div_div_eq_div_mul]
    congr 1
    have := h.1; omega
  rw [e]
  have h2 : vL l / 16 ^ i < 281474976710656 := Nat.lt_of_le_of_lt (Nat.div_le_self _ _) h.lt
  have e2 : lN (vL l / 16 ^ i) &&& (15 : Int64) = lN (vL l / 16 ^ i % 2 ^ 4) := wb_mask (k := 4) (by omega) (by decide)
  rw [e2, lN_i]
  congr 1
  exact vL_get h.2 i
theorem x1_longer {l : List Nat} (h : okN l) (hl : l.length < 12) {s : Nat} (hs : s < 16) : f_X1_longer (eC l) (nI s) = eC (l ++ [s]) := by
  have h1 := eC_bd h
  unfold f_X1_longer
  rw [eC_15 h, lN_i, if_pos (show nI l.length < (12 : Int32) from (nI_ltI (b := 12) (by omega) (by decide)).mpr hl), k4, nI_l (by omega), wb_shl s (by omega)]
  unfold eC
  have hp : 16 ^ (l.length + 1) ≤ 281474976710656 := p16_le (by omega)
  have hv := vL_lt h.2
  have hb : l.length + 16 * vL l < 16 ^ (l.length + 1) := by rw [Nat.pow_succ]; omega
  have hm : s * 16 ^ (l.length + 1) ≤ 15 * 16 ^ (l.length + 1) := Nat.mul_le_mul_right _ (by omega)
  rw [p16, g_or' (k := 4 * (l.length + 1)) (p16 _) hb (by omega), lN_1]
  refine lN_m _ _ ?_
  rw [vL_app, List.length_append]
  simp only [vL, List.length_cons, List.length_nil, Nat.pow_succ, Nat.mul_zero, Nat.add_zero]
  rw [Nat.mul_add, Nat.mul_comm (16 ^ l.length) s, Nat.mul_comm (16 ^ l.length) 16, Nat.mul_left_comm s 16]
  omega
theorem x1_longer12 {l : List Nat} (h : okN l) (hl : l.length = 12) (s : Int32) : f_X1_longer (eC l) s = eC l := by
  unfold f_X1_longer
  rw [eC_15 h, lN_i, if_neg (by rw [hl]; decide)]
theorem and16 {a : Nat} (h : a < 2 ^ 64) : lN a &&& (-16 : Int64) = lN (16 * (a / 16)) := by
  have e : (-16 : Int64) = lN (2 ^ 64 - 16) := by decide
  rw [e, wb_and h (by decide)]
  refine lN_m _ _ ?_
  apply Nat.eq_of_testBit_eq
  intro i
  have e1 : 2 ^ 64 - 16 = (2 ^ 60 - 1) <<< 4 := by decide
  have e2 : 16 * (a / 16) = (a >>> 4) <<< 4 := by rw [Nat.shiftLeft_eq, Nat.shiftRight_eq_div_pow, Nat.mul_comm]
  rw [Nat.testBit_and, e1, e2, Nat.testBit_shiftLeft, Nat.testBit_shiftLeft, Nat.testBit_shiftRight, Nat.testBit_two_pow_sub_one]
  by_cases h4 : i ≥ 4
  · simp only [h4, decide_true, Bool.true_and]
    rw [show 4 + (i - 4) = i by omega]
    by_cases h5 : i - 4 < 60
    · simp [h5]
    · have : a.testBit i = false := Nat.testBit_lt_two_pow (Nat.lt_of_lt_of_le h (Nat.pow_le_pow_right (by decide) (by omega)))
      simp [this]
  · simp [h4]
theorem x1_cut {l : List Nat} (h : okN l) {j : Nat} (hj : j < 2 ^ 20) : f_X1_cut (eC l) (nI j) = eC (l.take j) := by
  have h1 := eC_bd h
  have hl := h.1
  unfold f_X1_cut
  rw [eC_15 h, nI_l (by omega)]
  by_cases hc : j < l.length
  · rw [if_pos ((lg_lt0 _ _).mpr ((pk_lLT (by omega) (by omega)).mpr hc))]
    by_cases h0 : 0 < j
    · rw [if_pos (show (0 : Int32) < nI j from (nI_ltI (a := 0) (by decide) (by omega)).mpr h0), k4]
      have e1 : (1 : Int64) <<< ((nI (4 * (j + 1))).toInt64 &&& 63) = lN (1 * 2 ^ (4 * (j + 1))) := wb_shl 1 (by omega)
      have hpos : 0 < 2 ^ (4 * (j + 1)) := Nat.pow_pos (by decide)
      have e2 : lN (1 * 2 ^ (4 * (j + 1))) - (1 : Int64) = lN (2 ^ (4 * (j + 1)) - 1) := by
        rw [Nat.one_mul]; exact lN_sub (b := 1) hpos
      rw [e1, e2]
      unfold eC
      rw [wb_mask (by omega) (by omega), p16, and16 (Nat.lt_of_le_of_lt (Nat.mod_le _ _) (by omega)), lN_add]
      refine lN_m _ _ ?_
      have e3 : (l.length + 16 * vL l) % 16 ^ (j + 1) = l.length + 16 * (vL l % 16 ^ j) := by
        rw [Nat.pow_succ, Nat.mul_comm (16 ^ j) 16, Nat.mod_mul]
        rw [show (l.length + 16 * vL l) % 16 = l.length by omega, show (l.length + 16 * vL l) / 16 = vL l by omega]
      rw [e3, vL_mod j h.2, List.length_take]
      omega
    · have : j = 0 := by omega
      subst this
      rw [if_neg (by decide)]
      rfl
  · rw [if_neg (fun q => hc ((pk_lLT (by omega) (by omega)).mp ((lg_lt0 _ _).mp q))), List.take_of_length_le (by omega)]
theorem x1_cutN {l : List Nat} (h : okN l) {x : Int32} (hx : x < 0) : f_X1_cut (eC l) x = eC [] := by
  unfold f_X1_cut
  have hl := h.1
  rw [eC_15 h]
  have h1 : x.toInt64 < lN l.length := by
    rw [fa_lt64, lN_toInt (by omega), Int32.toInt_toInt64]
    have := (fa_lt _ _).mp hx
    have h0 : (0 : Int32).toInt = 0 := by decide
    omega
  rw [if_pos ((lg_lt0 _ _).mpr h1), if_neg (fun q => by
    have a := (fa_lt _ _).mp hx
    have b := (fa_lt _ _).mp q
    omega)]
  rfl
theorem x1_led {l : List Nat} (h : okN l) {s : Nat} (hs : s < 16) : f_X1_led (eC l) (nI s) = eC (s :: l.take 11) := by
  have ht := h.take 11
  have hl11 : (l.take 11).length ≤ 11 := List.length_take_le ..
  unfold f_X1_led
  have e0 : f_X1_cut (eC l) (11 : Int32) = eC (l.take 11) := x1_cut h (j := 11) (by decide)
  rw [e0, x1_len ht, nI_l (by omega), nI_l (by omega)]
  have hv : vL (l.take 11) < 17592186044416 := Nat.lt_of_lt_of_le (vL_lt ht.2) (Nat.le_trans (Nat.pow_le_pow_right (by decide) hl11) (by decide))
  have e1 : eC (l.take 11) &&& (-16 : Int64) = lN (16 * vL (l.take 11)) := by
    unfold eC
    rw [and16 (by omega)]
    exact lN_m _ _ (by omega)
  have e2 : lN (16 * vL (l.take 11)) <<< ((4 : Int32).toInt64 &&& 63) = lN (vL (l.take 11) * 256) := (wb_shl _ (k := 4) (by decide)).trans (lN_m _ _ (by omega))
  have e3 : lN s <<< ((4 : Int32).toInt64 &&& 63) = lN (s * 16) := wb_shl _ (k := 4) (by decide)
  rw [e1, e2, e3, g_or (k := 8) (p := 256) (by decide) (by omega) (by omega), lN_add, lN_1]
  refine lN_m _ _ ?_
  simp only [vL, List.length_cons]
  omega
theorem x1_turnedL {l : List Nat} (h : okN l) : ∀ (i n : Nat) (acc : List Nat), okN acc → acc.length + i ≤ 12 → i < n → b_X1_turned_10 (eC l) n (eC acc) (nI i - 1) = some (eC (acc ++ ((List.range i).map (fun k => l.getD (i - 1 - k) 0))))
  | _, 0, _, _, _, hn => absurd hn (Nat.not_lt_zero _)
  | 0, n + 1, acc, ha, _, _ => by
    rw [b_X1_turned_10.eq_2, if_pos (by decide)]
    simp
  | i + 1, n + 1, acc, ha, hl, hn => by
    rw [b_X1_turned_10.eq_2, nI_pred, if_neg (nI_pos (by omega)), x1_syl h (by omega), x1_longer ha (by omega) (h.get i), nI_m1, x1_turnedL h i n (acc ++ [l.getD i 0]) (ha.push (by omega) (h.get i)) (by simp; omega) (by omega)]
    congr 2
    rw [List.append_assoc, List.range_succ_eq_map]
    simp only [List.map_cons, List.map_map, List.singleton_append]
    congr 2
    apply List.map_congr_left
    intro k hk
    simp only [Function.comp]
    congr 1
    omega
theorem rev_get (l : List Nat) : (List.range l.length).map (fun k => l.getD (l.length - 1 - k) 0) = l.reverse := by
  apply List.ext_getElem
  · simp
  · intro i h1 h2
    simp at h1
    simp [List.getD, h1, show l.length - 1 - i < l.length by omega]
theorem okN.rev {l : List Nat} (h : okN l) : okN l.reverse := ⟨by simpa using h.1, fun s hs => h.2 s (List.mem_reverse.mp hs)⟩
theorem fu_big : 400000 ≤ fu := Nat.le_refl _
theorem x1_turned {l : List Nat} (h : okN l) : f_X1_turned (eC l) = some (eC l.reverse) := by
  have hl := h.1
  have hf := fu_big
  unfold f_X1_turned
  rw [x1_len h]
  have := x1_turnedL h l.length fu [] okN.nil (by simpa using hl) (by omega)
  rw [List.nil_append, rev_get] at this
  exact this
def raise (n : Nat) (l : List Nat) : List Nat := l.map (fun s => (s + n) % 16)
theorem okN_raise {l : List Nat} (h : okN l) (n : Nat) : okN (raise n l) := ⟨by simpa [raise] using h.1, fun s hs => by
  obtain ⟨a, -, rfl⟩ := List.mem_map.mp hs
  exact Nat.mod_lt _ (by decide)⟩
theorem raise_snoc {l : List Nat} {i : Nat} (hi : i < l.length) (n : Nat) : raise n (l.take i) ++ [(l.getD i 0 + n) % 16] = raise n (l.take (i + 1)) := by
  unfold raise
  rw [List.take_succ, List.map_append]
  simp [List.getD, hi]
theorem x1_raisedL {l : List Nat} (h : okN l) {m : Nat} (hm : m < 16) : ∀ (k i n : Nat), i + k = l.length → k < n → b_X1_raised_11 (eC l) (nI m) (nI l.length) n (eC (raise m (l.take i))) (nI i) = some (eC (raise m l))
  | _, _, 0, _, hn => absurd hn (Nat.not_lt_zero _)
  | 0, i, n + 1, hi, _ => by
    have hl := h.1
    rw [b_X1_raised_11.eq_2, if_pos ((nI_leI (by omega) (by omega)).mpr (by omega)), List.take_of_length_le (by omega)]
  | k + 1, i, n + 1, hi, hn => by
    have hl := h.1
    have ht := okN_raise (h.take i) m
    have hg := h.get i
    rw [b_X1_raised_11.eq_2, if_neg (fun q => by have := (nI_leI (by omega) (by omega)).mp q; omega), x1_syl h (by omega), nI_add]
    have e : nI (l.getD i 0 + m) - nI (l.getD i 0 + m) / (16 : Int32) * (16 : Int32) = nI ((l.getD i 0 + m) % 16) := pk_rem (d := 16) (by omega) (by decide) (by decide)
    rw [e, x1_longer ht (by simp [raise]; omega) (Nat.mod_lt _ (by decide)), raise_snoc (by omega), nI_1]
    exact x1_raisedL h hm k (i + 1) n (by omega) (by omega)
theorem x1_raised {l : List Nat} (h : okN l) {m : Nat} (hm : m < 16) : f_X1_raised (eC l) (nI m) = some (eC (raise m l)) := by
  have hl := h.1
  have hf := fu_big
  unfold f_X1_raised
  rw [x1_len h]
  exact x1_raisedL h hm l.length 0 fu (by omega) (by omega)
def snd (l : List Nat) : Int32 := l.foldl (fun b s => b ||| ((1 : Int32) <<< (nI s &&& 31))) 0
theorem snd_snoc {l : List Nat} {i : Nat} (hi : i < l.length) : snd (l.take i) ||| ((1 : Int32) <<< (nI (l.getD i 0) &&& 31)) = snd (l.take (i + 1)) := by
  unfold snd
  rw [List.take_succ, List.foldl_append]
  simp [List.getD, hi]
theorem x1_soundsL {l : List Nat} (h : okN l) : ∀ (k i n : Nat), i + k = l.length → k < n → b_X1_sounds_10 (eC l) (nI l.length) n (snd (l.take i)) (nI i) = some (snd l)
  | _, _, 0, _, hn => absurd hn (Nat.not_lt_zero _)
  | 0, i, n + 1, hi, _ => by
    have hl := h.1
    rw [b_X1_sounds_10.eq_2, if_pos ((nI_leI (by omega) (by omega)).mpr (by omega)), List.take_of_length_le (by omega)]
  | k + 1, i, n + 1, hi, hn => by
    have hl := h.1
    rw [b_X1_sounds_10.eq_2, if_neg (fun q => by have := (nI_leI (by omega) (by omega)).mp q; omega), x1_syl h (by omega), snd_snoc (by omega), nI_1]
    exact x1_soundsL h k (i + 1) n (by omega) (by omega)
theorem x1_sounds {l : List Nat} (h : okN l) : f_X1_sounds (eC l) = some (snd l) := by
  have hl := h.1
  have hf := fu_big
  unfold f_X1_sounds
  rw [x1_len h]
  exact x1_soundsL h l.length 0 fu (by omega) (by omega)
def isAtL (l q : List Nat) (i : Nat) : Bool := (l.drop i).take q.length == q
def hasL (l q : List Nat) : Bool := (List.range (l.length + 1 - q.length)).any (fun i => isAtL l q i)
theorem x1_isAt {l q : List Nat} (h : okN l) (hq : okN q) {i : Nat} (hi : i + q.length ≤ l.length) : f_X1_isAt (eC l) (nI i) (eC q) = if isAtL l q i then 1 else 0 := by
  have h1 := eC_bd h
  have h2 := eC_bd hq
  have hl := h.1
  unfold f_X1_isAt
  rw [x1_len hq, k4]
  have e0 : (4 : Int32) * nI q.length = nI (4 * q.length) := pk_mul 4 _
  have e1 : (1 : Int64) <<< ((nI (4 * q.length)).toInt64 &&& 63) = lN (1 * 2 ^ (4 * q.length)) := wb_shl 1 (by omega)
  have hpos : 0 < 2 ^ (4 * q.length) := Nat.pow_pos (by decide)
  have e2 : lN (1 * 2 ^ (4 * q.length)) - (1 : Int64) = lN (2 ^ (4 * q.length) - 1) := by
    rw [Nat.one_mul]; exact lN_sub (b := 1) hpos
  have e3 : ((eC q).toUInt64 >>> ((4 : Int32).toInt64.toUInt64 &&& Int64.toUInt64 63)).toInt64 = lN (vL q) := by
    unfold eC
    refine (wb_shr (k := 4) (by omega) (by decide)).trans (lN_m _ _ ?_)
    have := hq.1; omega
  have e4 : ((eC l).toUInt64 >>> ((nI (4 * (i + 1))).toInt64.toUInt64 &&& Int64.toUInt64 63)).toInt64 = lN (vL l / 16 ^ i) := by
    unfold eC
    rw [wb_shr (by omega) (by omega)]
    refine lN_m _ _ ?_
    rw [p16, Nat.pow_succ, Nat.mul_comm (16 ^ i) 16, ← Nat.div_div_eq_div_mul]
    congr 1
    omega
  have hv : vL l / 16 ^ i < 281474976710656 := Nat.lt_of_le_of_lt (Nat.div_le_self _ _) h.lt
  rw [e0, e1, e2, e3, e4, wb_mask (by omega) (by omega), p16, vL_div i h.2, vL_mod q.length (fun s hs => h.2 s (List.mem_of_mem_drop hs))]
  have hlen : ((l.drop i).take q.length).length = q.length := by simp; omega
  have hb : vL ((l.drop i).take q.length) < 281474976710656 := by
    have a1 := vL_lt (l := (l.drop i).take q.length) (fun s hs => h.2 s (List.mem_of_mem_drop (List.mem_of_mem_take hs)))
    rw [hlen] at a1
    exact Nat.lt_of_lt_of_le a1 (p16_le hq.1)
  have hbq := hq.lt
  unfold isAtL
  by_cases hc : (l.drop i).take q.length = q
  · rw [if_pos ((lg_eq0 _ _).mpr (by rw [hc])), if_pos (by rw [hc]; exact beq_self_eq_true q)]
  · rw [if_neg (fun e => hc (vL_inj (fun s hs => h.2 s (List.mem_of_mem_drop (List.mem_of_mem_take hs))) hq.2 hlen ((pk_lEQ (by omega) (by omega)).mp ((lg_eq0 _ _).mp e)))), if_neg (by simpa using hc)]
theorem x1_holdsL {l q : List Nat} (h : okN l) (hq : okN q) (hle : q.length ≤ l.length) : ∀ (k i n : Nat), i + k = l.length + 1 - q.length → k < n → b_X1_holds_14 (eC l) (eC q) (nI (l.length - q.length)) n (nI i) = some (if (List.range' i k).any (fun j => isAtL l q j) then 1 else 0)
  | _, _, 0, _, hn => absurd hn (Nat.not_lt_zero _)
  | 0, i, n + 1, hi, _ => by
    have hl := h.1
    rw [b_X1_holds_14.eq_2, if_pos ((nI_ltI (by omega) (by omega)).mpr (by omega))]
    simp
  | k + 1, i, n + 1, hi, hn => by
    have hl := h.1
    rw [b_X1_holds_14.eq_2, if_neg (fun z => by have := (nI_ltI (by omega) (by omega)).mp z; omega), x1_isAt h hq (by omega), List.range'_succ, List.any_cons]
    by_cases hc : isAtL l q i = true
    · rw [if_pos hc, if_neg (by decide), hc]
      simp
    · have hc2 : isAtL l q i = false := by simpa using hc
      rw [if_neg hc, if_pos rfl, nI_1, x1_holdsL h hq hle k (i + 1) n (by omega) (by omega), hc2, Bool.false_or]
theorem x1_holds {l q : List Nat} (h : okN l) (hq : okN q) : f_X1_holds (eC l) (eC q) = some (if hasL l q then 1 else 0) := by
  have hl := h.1
  have hql := hq.1
  have hf := fu_big
  unfold f_X1_holds hasL
  rw [x1_len h, x1_len hq]
  by_cases hle : q.length ≤ l.length
  · rw [pk_sub hle, List.range_eq_range']
    exact x1_holdsL h hq hle (l.length + 1 - q.length) 0 fu (by omega) (by omega)
  · obtain ⟨n, hn⟩ : ∃ n, fu = n + 1 := ⟨fu - 1, by omega⟩
    rw [hn, b_X1_holds_14.eq_2, if_pos (pk_sneg (by omega) (by omega)), show l.length + 1 - q.length = 0 by omega]
    simp
/-- the name that a number tells -/
def ofC (c : Nat) : List Nat := if c = 0 then [] else if c ≤ 16 then [c - 1] else [c / 17 - 1, c % 17 - 1]
def isC (c : Nat) : Bool := c == 0 || c % 17 != 0
theorem ofC_ok : ∀ c, c < 289 → isC c = true → okN (ofC c) ∧ f_X1_isCode (nI c) = 1 ∧ f_X1_ofCode (nI c) = eC (ofC c) ∧ f_X8_nameOf (nI c) = eM (ofC c) := by
  have : ∀ c, c < 289 → isC c = true → (decide ((ofC c).length ≤ 12) && (ofC c).all (fun s => decide (s < 16))) = true ∧ f_X1_isCode (nI c) = 1 ∧ f_X1_ofCode (nI c) = eC (ofC c) ∧ f_X8_nameOf (nI c) = eM (ofC c) := by decide +kernel
  intro c h1 h2
  obtain ⟨a, b⟩ := this c h1 h2
  refine ⟨?_, b⟩
  simp only [Bool.and_eq_true, decide_eq_true_eq, List.all_eq_true] at a
  exact ⟨a.1, a.2⟩
theorem ofC_no : ∀ c, c < 289 → isC c = false → f_X1_isCode (nI c) = 0 := by decide +kernel
