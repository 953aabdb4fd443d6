/-! the digest -/
def dG (l : List Nat) : Nat → Nat → Int64 → Int64
  | 0, _, h => h
  | d + 1, i, h => dG l d (i + 1) ((31 : Int64) * h + (nI (l.getD i 0)).toInt64)
theorem x7_mixL {l : List Nat} (hl : okN l) : ∀ (d i n : Nat) (h : Int64), i + d = l.length → d < n → b_X7_mixedName_18 (eC l) (nI l.length) n h (nI i) = some (dG l d i h)
  | _, _, 0, _, _, hn => absurd hn (Nat.not_lt_zero _)
  | 0, i, n + 1, h, hi, _ => by
    have := hl.1
    rw [b_X7_mixedName_18.eq_2, if_pos ((nI_leI (by omega) (by omega)).mpr (by omega))]; rfl
  | d + 1, i, n + 1, h, hi, hn => by
    have := hl.1
    rw [b_X7_mixedName_18.eq_2, if_neg (fun q => by have := (nI_leI (by omega) (by omega)).mp q; omega), x1_syl hl (by omega), nI_1, x7_mixL hl d (i + 1) n _ (by omega) (by omega)]
    rfl
theorem x8_mixL {l : List Nat} (hl : okN l) : ∀ (d i n : Nat) (h : Int64), i + d = l.length → d < n → b_X8_nameIn_16 (eM l) n h (nI i) = some (dG l d i h)
  | _, _, 0, _, _, hn => absurd hn (Nat.not_lt_zero _)
  | 0, i, n + 1, h, hi, _ => by
    have := hl.1
    rw [b_X8_nameIn_16.eq_2, x8_many hl, if_pos ((nI_leI (by omega) (by omega)).mpr (by omega))]; rfl
  | d + 1, i, n + 1, h, hi, hn => by
    have := hl.1
    rw [b_X8_nameIn_16.eq_2, x8_many hl, if_neg (fun q => by have := (nI_leI (by omega) (by omega)).mp q; omega), x8_syl hl (by omega), nI_1, x8_mixL hl d (i + 1) n _ (by omega) (by omega)]
    rfl
def dN (l : List Nat) (h : Int64) : Int64 := dG l l.length 0 ((31 : Int64) * h + (nI l.length).toInt64)
theorem x7_mix {l : List Nat} (hl : okN l) (h : Int64) : f_X7_mixedName h (eC l) = some (dN l h) := by
  have hf := fu_big
  have := hl.1
  unfold f_X7_mixedName
  rw [x1_len hl]
  exact x7_mixL hl l.length 0 fu _ (by omega) (by omega)
theorem x8_mix {l : List Nat} (hl : okN l) (h : Int64) : f_X8_nameIn h (eM l) = some (dN l h) := by
  have hf := fu_big
  have := hl.1
  unfold f_X8_nameIn
  rw [x8_many hl]
  exact x8_mixL hl l.length 0 fu _ (by omega) (by omega)
/-- the notes -/
theorem d_notes {M : Mem} {N : Nat} (hN : N ≤ 8) (e7 : M.1 7 4 = nI N) (e8 : M.1 64 2 = nI N) (hp : M.2 60 0 = M.2 63 6 ∧ M.2 60 1 = M.2 63 7) (hnt : ∀ k, k < N → NT (M.1 8) (M.1 9) (M.1 64) (M.2 10) (M.2 11) (M.2 66) k) : ∀ (d k n : Nat) (h : Int64), k + d = N → d < n → ∃ r, b_X7_digest_136 n h (nI k) M = some (r, M) ∧ b_X8_digest_90 M n h (nI k) = some r
  | _, _, 0, _, _, hn => absurd hn (Nat.not_lt_zero _)
  | 0, k, n + 1, h, hk, _ => by
    refine ⟨(31 : Int64) * ((31 : Int64) * h + M.2 63 6) + M.2 63 7, ?_, ?_⟩
    · rw [b_X7_digest_136.eq_2, e7, if_pos ((nI_leI (by omega) (by omega)).mpr (by omega))]
      unfold f_X7_mixed
      rw [hp.1, hp.2]
    · rw [b_X8_digest_90.eq_2, e8, if_pos ((nI_leI (by omega) (by omega)).mpr (by omega))]
      rfl
  | d + 1, k, n + 1, h, hk, hn => by
    obtain ⟨⟨b, q, hb, hq, n1, n2, n3, n4⟩, ⟨l1, hl1, n5, n6⟩, ⟨l2, hl2, n7, n8⟩⟩ := hnt k (by omega)
    obtain ⟨r, i7, i8⟩ := d_notes hN e7 e8 hp hnt d (k + 1) n (dN l2 (dN l1 ((31 : Int64) * ((31 : Int64) * h + (nI b).toInt64) + (nI q).toInt64))) (by omega) (by omega)
    refine ⟨r, ?_, ?_⟩
    · rw [b_X7_digest_136.eq_2, e7, if_neg (fun q => by have := (nI_leI (by omega) (by omega)).mp q; omega), ck_y (by omega) (by decide), ck_y (by omega) (by decide), ck_y (by omega) (by decide), cl (by omega), n1, n3, n5, n7, x7_mix hl1, Option.bind_some, ck_y (by omega) (by decide), x7_mix hl2, Option.bind_some, nI_1]
      exact i7
    · rw [b_X8_digest_90.eq_2, e8, if_neg (fun q => by have := (nI_leI (by omega) (by omega)).mp q; omega), ix36, ixn, nI_1, nI_1, ck_y (by omega) (by decide), ck_y (by omega) (by decide), ck_y (by omega) (by decide), cl (by omega), cl (by omega), cl (by omega), n2, n4, n6, x8_mix hl1, Option.bind_some, ck_y (by omega) (by decide), cl (by omega), n8, x8_mix hl2, Option.bind_some, nI_1]
      exact i8
/-- the rows -/
theorem d_rows {M : Mem} (K7 : Int64 → Option (Int64 × Mem)) (K8 : Int64 → Option Int64) (e7 : ∀ h, b_X7_digest_134 h M = K7 h) (e8 : ∀ h, b_X8_digest_88 M h = K8 h) (hK : ∀ h, ∃ r, K7 h = some (r, M) ∧ K8 h = some r) (hr : ∀ r, r < 4 → nr (M.2 6 r) (M.2 66 r)) : ∀ (d k n : Nat) (h : Int64), k + d = 4 → d < n → ∃ r, b_X7_digest_109 n h (nI k) M = some (r, M) ∧ b_X8_digest_66 M n h (nI k) = some r
  | _, _, 0, _, _, hn => absurd hn (Nat.not_lt_zero _)
  | 0, k, n + 1, h, hk, _ => by
    rw [b_X7_digest_109.eq_2, b_X8_digest_66.eq_2, if_pos ((v_ge 4 4 (by omega)).mpr (by omega)), if_pos ((v_ge 4 4 (by omega)).mpr (by omega)), e7, e8]
    exact hK h
  | d + 1, k, n + 1, h, hk, hn => by
    obtain ⟨l, hl, n1, n2⟩ := hr k (by omega)
    have ih := d_rows K7 K8 e7 e8 hK hr d (k + 1) n (dN l h) (by omega) (by omega)
    rw [b_X7_digest_109.eq_2, b_X8_digest_66.eq_2, if_neg (fun q => by have := (v_ge 4 4 (by omega)).mp q; omega), if_neg (fun q => by have := (v_ge 4 4 (by omega)).mp q; omega), ck_y (by omega) (by decide), ck_y (by omega) (by decide), cl (by omega), n1, n2, x7_mix hl, x8_mix hl, Option.bind_some, Option.bind_some, nI_1]
    exact ih
theorem d_br8 {M : Mem} {B : Nat} (hB : B ≤ 8) (e8 : M.1 64 0 = nI B) : ∀ (i n : Nat) (h : Int64), i < 4 * B → b_X8_digest_32 M (n + 1) h (nI i) = b_X8_digest_32 M n ((31 : Int64) * h + (M.1 64 (4 + i)).toInt64) (nI (i + 1)) := by
  intro i n h hi
  have e : (4 : Int32) * nI B = nI (4 * B) := pk_mul 4 B
  have e2 : (4 : Int32) + nI i = nI (4 + i) := nI_add 4 i
  rw [b_X8_digest_32.eq_2]
  unfold f_X8_bridges
  rw [e8, e, if_neg (fun q => by have := (nI_leI (by omega) (by omega)).mp q; omega), e2, ck_y (by omega) (by decide), cl (by omega), nI_1]
theorem d_brs {M : Mem} {B : Nat} (K7 : Int64 → Option (Int64 × Mem)) (K8 : Int64 → Option Int64) (k7 : ∀ h, b_X7_digest_107 h M = K7 h) (k8 : ∀ h, b_X8_digest_64 M h = K8 h) (hK : ∀ h, ∃ r, K7 h = some (r, M) ∧ K8 h = some r) (hB : B ≤ 8) (e7 : M.1 1 6 = nI B) (e8 : M.1 64 0 = nI B) (hb : ∀ k, k < B → BR (M.1 2) (M.1 3) (M.1 4) (M.1 5) (M.1 64) k) : ∀ (d k n n2 : Nat) (h : Int64), k + d = B → d < n → 4 * d < n2 → ∃ r, b_X7_digest_30 n h (nI k) M = some (r, M) ∧ b_X8_digest_32 M n2 h (nI (4 * k)) = some r
  | _, _, 0, _, _, _, hn, _ => absurd hn (Nat.not_lt_zero _)
  | _, _, _, 0, _, _, _, hn => absurd hn (Nat.not_lt_zero _)
  | 0, k, n + 1, n2 + 1, h, hk, _, _ => by
    have e : (4 : Int32) * nI B = nI (4 * B) := pk_mul 4 B
    rw [b_X7_digest_30.eq_2, b_X8_digest_32.eq_2]
    unfold f_X8_bridges
    rw [e7, e8, e, if_pos ((nI_leI (by omega) (by omega)).mpr (by omega)), if_pos ((nI_leI (by omega) (by omega)).mpr (by omega)), k7, k8]
    exact hK h
  | d + 1, k, n + 1, n2 + 1, h, hk, hn, hn2 => by
    obtain ⟨a, b, kd, q, -, -, -, -, b1, c1, b2, c2, b3, c3, b4, c4⟩ := hb k (by omega)
    obtain ⟨n3, rfl⟩ : ∃ n3, n2 = n3 + 3 := ⟨n2 - 3, by omega⟩
    have ih := d_brs K7 K8 k7 k8 hK hB e7 e8 hb d (k + 1) n n3 ((31 : Int64) * ((31 : Int64) * ((31 : Int64) * ((31 : Int64) * h + (nI a).toInt64) + (nI b).toInt64) + (nI kd).toInt64) + (nI q).toInt64) (by omega) (by omega) (by omega)
    rw [b_X7_digest_30.eq_2, e7, if_neg (fun q => by have := (nI_leI (by omega) (by omega)).mp q; omega), ck_y (by omega) (by decide), ck_y (by omega) (by decide), ck_y (by omega) (by decide), ck_y (by omega) (by decide), cl (by omega), b1, b2, b3, b4, nI_1]
    rw [d_br8 hB e8 _ _ _ (by omega), d_br8 hB e8 _ _ _ (by omega), d_br8 hB e8 _ _ _ (by omega), d_br8 hB e8 _ _ _ (by omega)]
    rw [show 4 + (4 * k + 1) = 4 + 4 * k + 1 by omega, show 4 + (4 * k + 1 + 1) = 4 + 4 * k + 2 by omega, show 4 + (4 * k + 1 + 1 + 1) = 4 + 4 * k + 3 by omega, c1, c2, c3, c4]
    rw [show 4 * k + 1 + 1 + 1 + 1 = 4 * (k + 1) by omega]
    exact ih
theorem d_cnt {M : Mem} {c : Nat → Int32} (K7 : Int64 → Option (Int64 × Mem)) (K8 : Int64 → Option Int64) (k7 : ∀ h, b_X7_digest_28 h M = K7 h) (k8 : ∀ h, b_X8_digest_30 M h = K8 h) (hK : ∀ h, ∃ r, K7 h = some (r, M) ∧ K8 h = some r) (h7 : ∀ i, i < 5 → f_X7_count (nI i) M = some (c i, M)) (h8 : ∀ i, i < 5 → f_X8_counted M (nI i) = some (c i)) : ∀ (d k n : Nat) (h : Int64), k + d = 5 → d < n → ∃ r, b_X7_digest_6 n h (nI k) M = some (r, M) ∧ b_X8_digest_6 M n h (nI k) = some r
  | _, _, 0, _, _, hn => absurd hn (Nat.not_lt_zero _)
  | 0, k, n + 1, h, hk, _ => by
    rw [b_X7_digest_6.eq_2, b_X8_digest_6.eq_2, if_pos ((v_ge 5 5 (by omega)).mpr (by omega)), if_pos ((v_ge 5 5 (by omega)).mpr (by omega)), k7, k8]
    exact hK h
  | d + 1, k, n + 1, h, hk, hn => by
    have ih := d_cnt K7 K8 k7 k8 hK h7 h8 d (k + 1) n ((31 : Int64) * h + (c k).toInt64) (by omega) (by omega)
    rw [b_X7_digest_6.eq_2, b_X8_digest_6.eq_2, if_neg (fun q => by have := (v_ge 5 5 (by omega)).mp q; omega), if_neg (fun q => by have := (v_ge 5 5 (by omega)).mp q; omega), h7 k (by omega), h8 k (by omega), Option.bind_some, Option.bind_some, nI_1]
    exact ih
theorem e_digest {M : Mem} (h : Inv M) : ∃ r, f_X7_digest M = some (r, M) ∧ f_X8_digest M = some r := by
  obtain ⟨⟨B, m, N, u, a1, a2, a3, a4, a5, a6, a7, a8, a9⟩, ⟨n, hn, ha, hc, hd⟩, h3, h4, h5, h6⟩ := id h
  have hf := fu_big
  have t1 : ∀ h, ∃ r, b_X7_digest_134 h M = some (r, M) ∧ b_X8_digest_88 M h = some r := fun h => d_notes a1.2.2.1 a4.1 a4.2 h5 a8 N 0 fu h (by omega) (by omega)
  have t2 : ∀ h, ∃ r, b_X7_digest_107 h M = some (r, M) ∧ b_X8_digest_64 M h = some r := fun h => d_rows (fun h => b_X7_digest_134 h M) (fun h => b_X8_digest_88 M h) (fun _ => rfl) (fun _ => rfl) t1 a7 4 0 fu h (by omega) (by omega)
  have t3 : ∀ h, ∃ r, b_X7_digest_28 h M = some (r, M) ∧ b_X8_digest_30 M h = some r := fun h => d_brs (fun h => b_X7_digest_107 h M) (fun h => b_X8_digest_64 M h) (fun _ => rfl) (fun _ => rfl) t2 a1.1 a2.1 a2.2 a6 B 0 fu fu h (by omega) (by have := a1.1; omega) (by have := a1.1; omega)
  refine d_cnt (c := fun i => if i = 0 then nI B else if i = 1 then nI m else if i = 2 then nI N else if i = 3 then nI u else nI n) (fun h => b_X7_digest_28 h M) (fun h => b_X8_digest_30 M h) (fun _ => rfl) (fun _ => rfl) t3 ?_ ?_ 5 0 fu 1009 (by omega) (by omega)
  · intro i hi
    rcases (show i = 0 ∨ i = 1 ∨ i = 2 ∨ i = 3 ∨ i = 4 by omega) with rfl | rfl | rfl | rfl | rfl
    · show some (M.1 1 6, M) = some (nI B, M); rw [a2.1]
    · show some (M.1 1 7, M) = some (nI m, M); rw [a3.1]
    · show some (M.1 7 4, M) = some (nI N, M); rw [a4.1]
    · show some (M.1 1 8, M) = some (nI u, M); rw [a5.1]
    · show some (M.1 55 0, M) = some (nI n, M); rw [ha]
  · intro i hi
    rcases (show i = 0 ∨ i = 1 ∨ i = 2 ∨ i = 3 ∨ i = 4 by omega) with rfl | rfl | rfl | rfl | rfl
    · show some (M.1 64 0) = some (nI B); rw [a2.2]
    · show some (M.1 64 1) = some (nI m); rw [a3.2]
    · show some (M.1 64 2) = some (nI N); rw [a4.2]
    · show some (M.1 64 3) = some (nI u); rw [a5.2]
    · show some (M.1 63 20) = some (nI n); rw [hc]
