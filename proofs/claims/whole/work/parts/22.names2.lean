/-! the reference's names -/
/-! numbers against written ones -/
theorem v_eq {a : Nat} (v : Int32) (j : Nat) (ha : a < 2 ^ 31) (hv : nI j = v := by decide) (hj : j < 2 ^ 31 := by decide) : nI a = v ↔ a = j := by subst hv; exact nI_eq ha hj
theorem v_lt {a : Nat} (v : Int32) (j : Nat) (ha : a < 2 ^ 31) (hv : nI j = v := by decide) (hj : j < 2 ^ 31 := by decide) : nI a < v ↔ a < j := by subst hv; exact nI_ltI ha hj
theorem v_le {a : Nat} (v : Int32) (j : Nat) (ha : a < 2 ^ 31) (hv : nI j = v := by decide) (hj : j < 2 ^ 31 := by decide) : nI a ≤ v ↔ a ≤ j := by subst hv; exact nI_leI ha hj
theorem v_gt {a : Nat} (v : Int32) (j : Nat) (ha : a < 2 ^ 31) (hv : nI j = v := by decide) (hj : j < 2 ^ 31 := by decide) : v < nI a ↔ j < a := by subst hv; exact nI_ltI hj ha
theorem v_ge {a : Nat} (v : Int32) (j : Nat) (ha : a < 2 ^ 31) (hv : nI j = v := by decide) (hj : j < 2 ^ 31 := by decide) : v ≤ nI a ↔ j ≤ a := by subst hv; exact nI_leI hj ha
theorem eM_bd {l : List Nat} (h : okN l) : l.length * 281474976710656 + vL l < 3659174697238528 := by have := h.lt; have := h.1; omega
theorem x8_many {l : List Nat} (h : okN l) : f_X8_many (eM l) = nI l.length := by
  have h1 := eM_bd h
  have h2 := h.lt
  unfold f_X8_many eM
  rw [pf_shr (d := 48) (by decide) (by omega), lN_i]
  congr 1
  omega
theorem x8_syl {l : List Nat} (h : okN l) {i : Nat} (hi : i < 12) : f_X8_syllable (eM l) (nI i) = nI (l.getD i 0) := by
  have h1 := eM_bd h
  unfold f_X8_syllable eM
  have e0 : (4 : Int32) * nI i = nI (4 * i) := pk_mul 4 i
  rw [e0, wb_c (4 * i) (by omega), pf_shr (d := 4 * i) (by rw [wb_tb, wb_sm _ (by omega), BitVec.toNat_ofNat]; omega) (by omega)]
  have hb : (l.length * 2 ^ 48 + vL l) / 2 ^ (4 * i) < 4611686018427387904 := Nat.lt_of_le_of_lt (Nat.div_le_self _ _) (by omega)
  have e2 : lN ((l.length * 2 ^ 48 + vL l) / 2 ^ (4 * i)) &&& (15 : Int64) = lN ((l.length * 2 ^ 48 + vL l) / 2 ^ (4 * i) % 2 ^ 4) := wb_mask (k := 4) (by omega) (by decide)
  rw [e2, lN_i]
  congr 1
  rw [p16]
  have e3 : l.length * 2 ^ 48 = 16 ^ i * (16 * (l.length * 16 ^ (11 - i))) := by
    have : 2 ^ 48 = 16 ^ i * (16 * 16 ^ (11 - i)) := by
      rw [← Nat.mul_assoc, Nat.mul_comm (16 ^ i) 16, ← Nat.pow_succ', ← Nat.pow_add, show i.succ + (11 - i) = 12 by omega]
    rw [this, Nat.mul_left_comm, Nat.mul_left_comm l.length 16]
  rw [e3, Nat.mul_add_div (Nat.pow_pos (by decide)), ← vL_get h.2 i]
  omega
theorem x8_behind {l : List Nat} (h : okN l) (hl : l.length < 12) {s : Nat} (hs : s < 16) : f_X8_behind (eM l) (nI s) = eM (l ++ [s]) := by
  have h1 := eM_bd h
  unfold f_X8_behind
  rw [x8_many h]
  have e0 : (4 : Int32) * nI l.length = nI (4 * l.length) := pk_mul 4 _
  rw [e0, nI_l (by omega), wb_shl s (by omega)]
  unfold eM
  have e1 : lN (l.length * 2 ^ 48 + vL l) + (281474976710656 : Int64) = lN (l.length * 2 ^ 48 + vL l + 281474976710656) := lN_add _ 281474976710656
  rw [e1, lN_add, p16]
  refine lN_m _ _ ?_
  rw [vL_app, List.length_append]
  simp only [vL, List.length_cons, List.length_nil, Nat.mul_zero, Nat.add_zero]
  rw [Nat.mul_comm (16 ^ l.length) s]
  omega
theorem x8_first {l : List Nat} (h : okN l) {n : Nat} (hn : n ≤ l.length) : f_X8_firstOnes (eM l) (nI n) = eM (l.take n) := by
  have h1 := eM_bd h
  have hl := h.1
  unfold f_X8_firstOnes
  have e0 : (4 : Int32) * nI n = nI (4 * n) := pk_mul 4 _
  have e1 : (1 : Int64) <<< ((nI (4 * n)).toInt64 &&& 63) = lN (1 * 2 ^ (4 * n)) := wb_shl 1 (by omega)
  have hpos : 0 < 2 ^ (4 * n) := Nat.pow_pos (by decide)
  have e2 : lN (1 * 2 ^ (4 * n)) - (1 : Int64) = lN (2 ^ (4 * n) - 1) := by
    rw [Nat.one_mul]; exact lN_sub (b := 1) hpos
  have e3 : lN n <<< ((48 : Int32).toInt64 &&& 63) = lN (n * 2 ^ 48) := wb_shl n (k := 48) (by decide)
  rw [e0, e1, e2, nI_l (by omega), e3]
  unfold eM
  rw [wb_mask (by omega) (by omega), lN_add]
  refine lN_m _ _ ?_
  have e4 : l.length * 2 ^ 48 = 16 ^ n * (l.length * 16 ^ (12 - n)) := by
    have : 2 ^ 48 = 16 ^ n * 16 ^ (12 - n) := by rw [← Nat.pow_add, show n + (12 - n) = 12 by omega]
    rw [this, Nat.mul_left_comm]
  rw [p16, e4, Nat.mul_add_mod, vL_mod n h.2, List.length_take, Nat.min_eq_left hn]
theorem eM0 : eM [] = 0 := rfl
theorem eC0 : eC [] = 0 := rfl
theorem okN.len0 {l : List Nat} (h : okN l) : eM l = 0 ↔ l = [] := by
  constructor
  · intro e
    have h1 := eM_bd h
    have := (pk_lEQ (a := l.length * 2 ^ 48 + vL l) (b := 0) (by omega) (by decide)).mp e
    exact List.length_eq_zero_iff.mp (by omega)
  · intro e; subst e; rfl
theorem eM_lt {l : List Nat} (h : okN l) : l.length * 281474976710656 + vL l < 2 ^ 63 := Nat.lt_trans (eM_bd h) (by decide)
theorem eM_inj {a b : List Nat} (ha : okN a) (hb : okN b) : eM a = eM b ↔ a = b := by
  constructor
  · intro e
    have h7 : a.length * 281474976710656 + vL a = b.length * 281474976710656 + vL b := (pk_lEQ (eM_lt ha) (eM_lt hb)).mp e
    clear e
    have h3 := ha.lt
    have h4 := hb.lt
    exact vL_inj ha.2 hb.2 (by omega) (by omega)
  · intro e; rw [e]
theorem eC_inj {a b : List Nat} (ha : okN a) (hb : okN b) : eC a = eC b ↔ a = b := by
  constructor
  · intro e
    have h1 := eC_bd ha
    have h2 := eC_bd hb
    have h3 := ha.1
    have h4 := hb.1
    have := (pk_lEQ (a := a.length + 16 * vL a) (b := b.length + 16 * vL b) (by omega) (by omega)).mp e
    exact vL_inj ha.2 hb.2 (by omega) (by omega)
  · intro e; rw [e]
theorem x8_turnL {l : List Nat} (h : okN l) : ∀ (i n : Nat) (acc : List Nat), okN acc → acc.length + i ≤ 12 → i ≤ 12 → i < n → b_X8_turn_10 (eM l) n (eM acc) (nI i - 1) = some (eM (acc ++ ((List.range i).map (fun k => l.getD (i - 1 - k) 0))))
  | _, 0, _, _, _, _, hn => absurd hn (Nat.not_lt_zero _)
  | 0, n + 1, acc, ha, _, _, _ => by
    rw [b_X8_turn_10.eq_2, if_pos (by decide)]
    simp
  | i + 1, n + 1, acc, ha, hl, hi, hn => by
    rw [b_X8_turn_10.eq_2, nI_pred, if_neg (nI_pos (by omega)), x8_syl h (by omega), x8_behind ha (by omega) (h.get i), nI_m1, x8_turnL h i n (acc ++ [l.getD i 0]) (ha.push (by omega) (h.get i)) (by simp; omega) (by omega) (by omega)]
    congr 2
    rw [List.append_assoc, List.range_succ_eq_map]
    simp only [List.map_cons, List.map_map, List.singleton_append]
    congr 2
    apply List.map_congr_left
    intro k hk
    simp only [Function.comp]
    congr 1
    omega
theorem x8_turn {l : List Nat} (h : okN l) : f_X8_turn (eM l) = some (eM l.reverse) := by
  have hl := h.1
  have hf := fu_big
  unfold f_X8_turn
  rw [x8_many h]
  have := x8_turnL h l.length fu [] okN.nil (by simpa using hl) hl (by omega)
  rw [List.nil_append, rev_get] at this
  exact this
theorem x8_higherL {l : List Nat} (h : okN l) {m : Nat} (hm : m < 16) : ∀ (k i n : Nat), i + k = l.length → k < n → b_X8_higher_5 (eM l) (nI m) n (eM (raise m (l.take i))) (nI i) = some (eM (raise m l))
  | _, _, 0, _, hn => absurd hn (Nat.not_lt_zero _)
  | 0, i, n + 1, hi, _ => by
    have hl := h.1
    rw [b_X8_higher_5.eq_2, x8_many h, if_pos ((nI_leI (by omega) (by omega)).mpr (by omega)), List.take_of_length_le (by omega)]
  | k + 1, i, n + 1, hi, hn => by
    have hl := h.1
    have ht := okN_raise (h.take i) m
    have hg := h.get i
    rw [b_X8_higher_5.eq_2, x8_many h, if_neg (fun q => by have := (nI_leI (by omega) (by omega)).mp q; omega), x8_syl h (by omega), nI_add]
    have e : nI (l.getD i 0 + m) - nI (l.getD i 0 + m) / (16 : Int32) * (16 : Int32) = nI ((l.getD i 0 + m) % 16) := pk_rem (d := 16) (by omega) (by decide) (by decide)
    rw [e, x8_behind ht (by simp [raise]; omega) (Nat.mod_lt _ (by decide)), raise_snoc (by omega), nI_1]
    exact x8_higherL h hm k (i + 1) n (by omega) (by omega)
theorem x8_higher {l : List Nat} (h : okN l) {m : Nat} (hm : m < 16) : f_X8_higher (eM l) (nI m) = some (eM (raise m l)) := by
  have hl := h.1
  have hf := fu_big
  unfold f_X8_higher
  have e0 : eM (raise m (l.take 0)) = 0 := by rw [List.take_zero]; exact eM0
  have := x8_higherL h hm l.length 0 fu (by omega) (by omega)
  rw [e0] at this
  exact this
theorem take_snoc {l : List Nat} {i : Nat} (hi : i < l.length) : l.take i ++ [l.getD i 0] = l.take (i + 1) := by
  rw [List.take_succ]
  simp [List.getD, hi]
theorem x8_twiceL {l : List Nat} (h : okN l) (h0 : 0 < l.length) : ∀ (k i n : Nat), i + k = min l.length 11 → k < n → b_X8_twice_13 (eM l) n (eM (l.getD 0 0 :: l.take i)) (nI i) = some (eM (l.getD 0 0 :: l.take 11))
  | _, _, 0, _, hn => absurd hn (Nat.not_lt_zero _)
  | 0, i, n + 1, hi, _ => by
    have hl := h.1
    rw [b_X8_twice_13.eq_2, x8_many h]
    by_cases hc : l.length ≤ i
    · rw [if_pos ((nI_leI (by omega) (by omega)).mpr hc), List.take_of_length_le hc, List.take_of_length_le (by omega)]
    · rw [if_neg (fun q => hc ((nI_leI (by omega) (by omega)).mp q)), if_pos (show (11 : Int32) ≤ nI i from (nI_leI (a := 11) (by decide) (by omega)).mpr (by omega)), show i = 11 by omega]
  | k + 1, i, n + 1, hi, hn => by
    have hl := h.1
    have ht : okN (l.getD 0 0 :: l.take i) := ⟨by simp; omega, fun s hs => by
      rcases List.mem_cons.mp hs with rfl | hs
      · exact h.get 0
      · exact h.2 s (List.mem_of_mem_take hs)⟩
    rw [b_X8_twice_13.eq_2, x8_many h, if_neg (fun q => by have := (nI_leI (by omega) (by omega)).mp q; omega), if_neg (fun q => by have := (nI_leI (a := 11) (by decide) (by omega)).mp (show nI 11 ≤ nI i from q); omega), x8_syl h (by omega), x8_behind ht (by simp; omega) (h.get i), List.cons_append, take_snoc (by omega), nI_1]
    exact x8_twiceL h h0 k (i + 1) n (by omega) (by omega)
theorem x8_twice {l : List Nat} (h : okN l) (h0 : 0 < l.length) : f_X8_twice (eM l) = some (eM (l.getD 0 0 :: l.take 11)) := by
  have hl := h.1
  have hf := fu_big
  unfold f_X8_twice
  have e : f_X8_syllable (eM l) (0 : Int32) = nI (l.getD 0 0) := x8_syl h (i := 0) (by decide)
  have e2 : f_X8_behind (0 : Int64) (nI (l.getD 0 0)) = eM (l.getD 0 0 :: l.take 0) := x8_behind okN.nil (by decide) (h.get 0)
  rw [e, e2]
  exact x8_twiceL h h0 (min l.length 11) 0 fu (by omega) (by omega)
/-! the rules -/
def sweetL (l : List Nat) (n : Nat) : List Nat := l.take 11 ++ [n]
def dropL (l : List Nat) (n : Nat) : List Nat := l.take (l.length - (n % 3 + 1))
def rule (kd n mo : Nat) (l : List Nat) : List Nat :=
  if kd = 1 then sweetL l n else if kd = 2 then dropL l n else if kd = 3 then l.reverse else if kd = 4 then (sweetL l n).getD 0 0 :: (sweetL l n).take 11 else if kd = 5 then (if mo % 4 = 0 then dropL l n else raise n l) else l
theorem sweet_ok {l : List Nat} (h : okN l) {n : Nat} (hn : n < 16) : okN (sweetL l n) := (h.take 11).push (by simp; omega) hn
theorem rule_ok {l : List Nat} (h : okN l) {kd n mo : Nat} (hn : n < 16) : okN (rule kd n mo l) := by
  have hs := sweet_ok h hn
  unfold rule
  split
  · exact hs
  split
  · exact h.take _
  split
  · exact h.rev
  split
  · refine ⟨by simp; omega, fun s hq => ?_⟩
    rcases List.mem_cons.mp hq with rfl | hq
    · exact hs.get 0
    · exact hs.2 s (List.mem_of_mem_take hq)
  split
  · split
    · exact h.take _
    · exact okN_raise h n
  · exact h
theorem rem3 {n : Nat} (hn : n < 16) : nI n - nI n / (3 : Int32) * (3 : Int32) = nI (n % 3) := pk_rem (d := 3) (by omega) (by decide) (by decide)
theorem rem4 {n : Nat} (hn : n < 2 ^ 31) : nI n - nI n / (4 : Int32) * (4 : Int32) = nI (n % 4) := pk_rem (d := 4) hn (by decide) (by decide)
theorem x5_drop {l : List Nat} (h : okN l) {n : Nat} (hn : n < 16) : f_X5_drop (eC l) (nI n) = eC (dropL l n) := by
  have hl := h.1
  unfold f_X5_drop f_X5_plain dropL
  rw [x1_len h, rem3 hn, nI_1]
  by_cases hc : n % 3 + 1 ≤ l.length
  · rw [pk_sub hc, x1_cut h (by omega)]
  · rw [x1_cutN h (pk_sneg (by omega) (by omega)), show l.length - (n % 3 + 1) = 0 by omega, List.take_zero]
theorem x8_drop {l : List Nat} (h : okN l) {n : Nat} (hn : n < 16) : f_X8_drop (eM l) (nI n) = eM (dropL l n) := by
  have hl := h.1
  unfold f_X8_drop dropL
  rw [x8_many h, rem3 hn]
  by_cases hc : n % 3 + 1 ≤ l.length
  · have e : nI l.length - nI (n % 3) - (1 : Int32) = nI (l.length - (n % 3 + 1)) := by
      rw [pk_sub (by omega)]
      exact (pk_sub (b := 1) (by omega)).trans (by congr 1)
    rw [e, if_pos (nI_pos' (by omega)), x8_first h (by omega)]
  · have e : nI l.length - nI (n % 3) - (1 : Int32) < 0 := by
      rw [fa_lt]
      have e1 : (nI l.length - nI (n % 3)).toInt = (l.length : Int) - (n % 3 : Nat) := pk_sub_toInt (by omega) (by omega)
      have e2 : (1 : Int32).toInt = 1 := by decide
      rw [Int32.toInt_sub, e1, e2, show (0 : Int32).toInt = 0 by decide]
      rw [Int.bmod_eq_of_le (by omega) (by omega)]
      omega
    rw [if_neg (fun q => by rw [fa_lt] at e; rw [fa_le] at q; omega), show l.length - (n % 3 + 1) = 0 by omega]
    exact x8_first h (n := 0) (by omega)
theorem x5_sweet {l : List Nat} (h : okN l) {n : Nat} (hn : n < 16) : f_X5_sweet (eC l) (nI n) = eC (sweetL l n) := by
  unfold f_X5_sweet f_X5_plain sweetL
  have e : f_X1_cut (eC l) (11 : Int32) = eC (l.take 11) := x1_cut h (j := 11) (by decide)
  rw [e, x1_longer (h.take 11) (by simp; omega) hn]
theorem x8_sweet {l : List Nat} (h : okN l) {n : Nat} (hn : n < 16) : f_X8_sweet (eM l) (nI n) = eM (sweetL l n) := by
  have hl := h.1
  unfold f_X8_sweet sweetL
  rw [x8_many h]
  by_cases hc : l.length = 12
  · have e : f_X8_firstOnes (eM l) (11 : Int32) = eM (l.take 11) := x8_first h (n := 11) (by omega)
    rw [if_pos (by rw [hc]; decide), e, x8_behind (h.take 11) (by simp; omega) hn]
  · rw [if_neg (fun q => hc ((v_eq 12 12 (by omega)).mp q)), x8_behind h (by omega) hn, List.take_of_length_le (by omega)]
theorem x5_applied {l : List Nat} (h : okN l) {kd n mo : Nat} (hk : kd < 2 ^ 31) (hn : n < 16) (hm : mo < 2 ^ 31) : f_X5_applied (eC l) (nI kd) (nI n) (nI mo) = some (eC (rule kd n mo l)) := by
  have hs := sweet_ok h hn
  unfold f_X5_applied rule
  by_cases h1 : kd = 1
  · rw [if_pos ((v_eq 1 1 hk).mpr h1), if_pos h1, x5_sweet h hn]
  rw [if_neg (fun q => h1 ((v_eq 1 1 hk).mp q)), if_neg h1]
  by_cases h2 : kd = 2
  · rw [if_pos ((v_eq 2 2 hk).mpr h2), if_pos h2, x5_drop h hn]
  rw [if_neg (fun q => h2 ((v_eq 2 2 hk).mp q)), if_neg h2]
  by_cases h3 : kd = 3
  · rw [if_pos ((v_eq 3 3 hk).mpr h3), if_pos h3]
    unfold f_X5_turn f_X5_plain
    rw [x1_turned h]; rfl
  rw [if_neg (fun q => h3 ((v_eq 3 3 hk).mp q)), if_neg h3]
  by_cases h4 : kd = 4
  · rw [if_pos ((v_eq 4 4 hk).mpr h4), if_pos h4]
    unfold f_X5_twice
    have e : f_X1_syllable (eC (sweetL l n)) (0 : Int32) = nI ((sweetL l n).getD 0 0) := x1_syl hs (i := 0) (by decide)
    rw [x5_sweet h hn, e, x1_led hs (hs.get 0)]
  rw [if_neg (fun q => h4 ((v_eq 4 4 hk).mp q)), if_neg h4]
  by_cases h5 : kd = 5
  · rw [if_pos ((v_eq 5 5 hk).mpr h5), if_pos h5]
    unfold f_X5_feast
    rw [rem4 hm]
    by_cases h6 : mo % 4 = 0
    · rw [if_pos (show nI (mo % 4) = 0 by rw [h6]; rfl), if_pos h6]
      unfold b_X5_feast_11
      rw [if_neg (by decide), x5_drop h hn]; rfl
    · rw [if_neg (nI_ne0 (by omega) (by omega)), if_neg h6]
      unfold b_X5_feast_11
      rw [if_pos rfl, x1_raised h hn]; rfl
  rw [if_neg (fun q => h5 ((v_eq 5 5 hk).mp q)), if_neg h5]
  rfl
theorem x8_becomes {l : List Nat} (h : okN l) {kd n mo : Nat} (hk : kd < 2 ^ 31) (hn : n < 16) (hm : mo < 2 ^ 31) : f_X8_becomes (nI kd) (nI n) (nI mo) (eM l) = some (eM (rule kd n mo l)) := by
  have hs := sweet_ok h hn
  unfold f_X8_becomes rule
  by_cases h1 : kd = 1
  · rw [if_pos ((v_eq 1 1 hk).mpr h1), if_pos h1, x8_sweet h hn]
  rw [if_neg (fun q => h1 ((v_eq 1 1 hk).mp q)), if_neg h1]
  by_cases h2 : kd = 2
  · rw [if_pos ((v_eq 2 2 hk).mpr h2), if_pos h2, x8_drop h hn]
  rw [if_neg (fun q => h2 ((v_eq 2 2 hk).mp q)), if_neg h2]
  by_cases h3 : kd = 3
  · rw [if_pos ((v_eq 3 3 hk).mpr h3), if_pos h3, x8_turn h]; rfl
  rw [if_neg (fun q => h3 ((v_eq 3 3 hk).mp q)), if_neg h3]
  by_cases h4 : kd = 4
  · rw [if_pos ((v_eq 4 4 hk).mpr h4), if_pos h4, x8_sweet h hn, x8_twice hs (by simp [sweetL])]; rfl
  rw [if_neg (fun q => h4 ((v_eq 4 4 hk).mp q)), if_neg h4]
  by_cases h5 : kd = 5
  · rw [if_pos ((v_eq 5 5 hk).mpr h5), if_pos h5, rem4 hm]
    by_cases h6 : mo % 4 = 0
    · rw [if_pos (show nI (mo % 4) = 0 by rw [h6]; rfl), if_pos h6, x8_drop h hn]
    · rw [if_neg (nI_ne0 (by omega) (by omega)), if_neg h6, x8_higher h hn]; rfl
  rw [if_neg (fun q => h5 ((v_eq 5 5 hk).mp q)), if_neg h5]
