/-! renamed; boats and floods -/
def renL (kd n m : Nat) (l0 : List Nat) : Nat → Nat → List Nat → Int32
  | 0, _, _ => -1
  | d + 1, i, l => if rule kd n ((m + i) % 12) l = l0 then nI i + 1 else renL kd n m l0 d (i + 1) (rule kd n ((m + i) % 12) l)
theorem rem12 {m i : Nat} (h : m + i < 2 ^ 31) : (nI m + nI i) - (nI m + nI i) / (12 : Int32) * (12 : Int32) = nI ((m + i) % 12) := by
  rw [nI_add]; exact pk_rem (d := 12) h (by decide) (by decide)
theorem x7_renL {M : Mem} {k kd n0 m : Nat} {l0 : List Nat} (hk : k < 8) (h4 : M.1 4 k = nI kd) (h5 : M.1 5 k = nI n0) (hm : M.1 1 7 = nI m) (hkd : kd < 6) (hn0 : n0 < 16) (hm2 : m < 12) (h0 : okN l0) : ∀ (d i n : Nat) (l : List Nat), okN l → i + d = 60 → d < n → b_X7_renamed_38 (nI k) (eC l0) n (eC l) (nI i) M = some (renL kd n0 m l0 d i l, M)
  | _, _, 0, _, _, _, hn => absurd hn (Nat.not_lt_zero _)
  | 0, i, n + 1, l, hl, hi, _ => by
    rw [b_X7_renamed_38.eq_2, if_pos ((v_ge 60 60 (by omega)).mpr (by omega))]; rfl
  | d + 1, i, n + 1, l, hl, hi, hn => by
    have ho := rule_ok (kd := kd) (mo := (m + i) % 12) hl hn0
    rw [b_X7_renamed_38.eq_2, if_neg (fun q => by have := (v_ge 60 60 (by omega)).mp q; omega), ck_y hk (by decide), ck_y hk (by decide), cl (by omega), h4, h5, hm, rem12 (by omega), x5_applied hl (by omega) hn0 (by omega), Option.bind_some, nI_1]
    unfold renL
    by_cases hc : rule kd n0 ((m + i) % 12) l = l0
    · rw [if_pos ((lg_eq0 _ _).mpr (by rw [hc])), if_pos hc, nI_1]
    · rw [if_neg (fun q => hc ((eC_inj ho h0).mp ((lg_eq0 _ _).mp q))), if_neg hc]
      exact x7_renL hk h4 h5 hm hkd hn0 hm2 h0 d (i + 1) n _ ho (by omega) (by omega)
theorem x8_renL {M : Mem} {j k kd n0 m : Nat} {l0 : List Nat} (hj : j < 4) (hk : k < 8) (h4 : M.1 64 (4 + 4 * k + 2) = nI kd) (h5 : M.1 64 (4 + 4 * k + 3) = nI n0) (hm : M.1 64 1 = nI m) (hkd : kd < 6) (hn0 : n0 < 16) (hm2 : m < 12) (h0 : okN l0) (hl0 : M.2 66 j = eM l0) : ∀ (d i n : Nat) (l : List Nat), okN l → i + d = 60 → d < n → b_X8_renamed_32 (nI j) (nI k) n (eM l) (nI i) M = some (renL kd n0 m l0 d i l, M)
  | _, _, 0, _, _, _, hn => absurd hn (Nat.not_lt_zero _)
  | 0, i, n + 1, l, hl, hi, _ => by
    rw [b_X8_renamed_32.eq_2, if_pos ((v_ge 60 60 (by omega)).mpr (by omega))]; rfl
  | d + 1, i, n + 1, l, hl, hi, hn => by
    have ho := rule_ok (kd := kd) (mo := (m + i) % 12) hl hn0
    have g2 : f_X8_get M (nI k) (2 : Int32) = some (nI kd) := (get8 (M := M) (j := k) (w := 2) hk (by decide)).trans (by rw [h4])
    have g3 : f_X8_get M (nI k) (3 : Int32) = some (nI n0) := (get8 (M := M) (j := k) (w := 3) hk (by decide)).trans (by rw [h5])
    rw [b_X8_renamed_32.eq_2, if_neg (fun q => by have := (v_ge 60 60 (by omega)).mp q; omega), g2, g3]
    simp only [Option.bind_some]
    rw [hm, rem12 (by omega), x8_becomes hl (by omega) hn0 (by omega), Option.bind_some, ck_y (by omega) (by decide), cl (by omega), hl0, nI_1]
    unfold renL
    by_cases hc : rule kd n0 ((m + i) % 12) l = l0
    · rw [if_pos ((lg_eq0 _ _).mpr (by rw [hc])), if_pos hc, nI_1]
    · rw [if_neg (fun q => hc ((eM_inj ho h0).mp ((lg_eq0 _ _).mp q))), if_neg hc]
      exact x8_renL hj hk h4 h5 hm hkd hn0 hm2 h0 hl0 d (i + 1) n _ ho (by omega) (by omega)
theorem e_renamed {M : Mem} (h : Inv M) (x y : Int32) : Same (f_X7_renamed x y) (f_X8_renamed x y) M := by
  obtain ⟨⟨B, m, N, u, a1, a2, a3, a4, a5, a6, a7, a8, a9⟩, -⟩ := id h
  have hf := fu_big
  rcases arg x 4 with ⟨j, hj, hj2, rfl⟩ | hx
  · rcases arg y B with ⟨a, ha, ha2, rfl⟩ | hy
    · obtain ⟨l, hl, e1, e2⟩ := a7 j hj
      obtain ⟨_, _, kd, n, -, -, hkd, hn, -, -, -, -, b3, c3, b4, c4⟩ := a6 a ha
      have c7 := x7_renL (M := M) (by omega) b3 b4 a3.1 hkd hn a1.2.1 hl 60 0 fu l hl (by omega) (by omega)
      have c8 := x8_renL (M := M) hj (by omega) c3 c4 a3.2 hkd hn a1.2.1 hl e2 60 0 fu l hl (by omega) (by omega)
      refine ⟨renL kd n m l 60 0 l, M, M, ?_, ?_, h⟩
      · (first | unfold f_X7_renamed | unfold f_X8_renamed); rw [row7_y hj, z10, br7_y a2.1 ha a1.1, z10, ck_y hj (by decide), cl hj2, e1]; exact c7
      · (first | unfold f_X7_renamed | unfold f_X8_renamed); rw [row8_y hj, z10, br8_y a2.2 ha a1.1, z10, ck_y (by omega) (by decide), cl hj2, e2]; exact c8
    · exact s_bad (v := -2) h (by (first | unfold f_X7_renamed | unfold f_X8_renamed); rw [row7_y hj, z10, br7_n a2.1 hy a1.1]; rfl) (by (first | unfold f_X7_renamed | unfold f_X8_renamed); rw [row8_y hj, z10, br8_n (show (mB7 M).1 64 0 = nI B from a2.2) hy a1.1]; rfl)
  · exact s_bad (v := -2) h (by (first | unfold f_X7_renamed | unfold f_X8_renamed); rw [row7_n hx]; rfl) (by (first | unfold f_X7_renamed | unfold f_X8_renamed); rw [row8_n hx]; rfl)
/-! boats: all that is said under way -/
theorem x7_canSay2 {l : List Nat} (h : ∀ s ∈ l, s < 16) (w : Int32) : f_X7_canSay w (snd l) = if can w l then 1 else 0 := by
  unfold f_X7_canSay
  have hb : ∀ i, i < 32 → bt (snd l) i = decide (i ∈ l) := fun i hi => by
    unfold snd
    rw [snd_bt l 0 i h hi, b_0]
    simp
  have hiff : (snd l &&& (w ^^^ (-1 : Int32))) = 0 ↔ can w l = true := by
    unfold can
    rw [List.all_eq_true]
    constructor
    · intro e s hs
      have h16 := h s hs
      have h1 := b_and (snd l) (w ^^^ (-1)) s
      rw [e, b_0, hb s (by omega), b_xor, b_m1 s (by omega)] at h1
      rw [decide_eq_true_eq, b_say w h16]
      simpa [hs] using h1
    · intro e
      apply b_ext
      intro i hi
      rw [b_and, hb i hi, b_xor, b_m1 i hi, b_0]
      by_cases hm : i ∈ l
      · have h16 := h i hm
        have := e i hm
        rw [decide_eq_true_eq, b_say w h16] at this
        simp [this]
      · simp [hm]
  by_cases hc : can w l = true
  · rw [if_pos (hiff.mpr hc), if_pos hc]
  · rw [if_neg (fun q => hc (hiff.mp q)), if_neg hc]
theorem snd_app {a b : List Nat} (ha : ∀ s ∈ a, s < 16) (hb : ∀ s ∈ b, s < 16) : snd a ||| snd b = snd (a ++ b) := by
  apply b_ext
  intro i hi
  rw [b_or]
  unfold snd
  rw [snd_bt a 0 i ha hi, snd_bt b 0 i hb hi, snd_bt (a ++ b) 0 i (fun s hs => by
    rcases List.mem_append.mp hs with q | q
    · exact ha s q
    · exact hb s q) hi, b_0]
  simp
/-- all that is said, bridge by bridge, two being in each other's stead -/
def exch (a b k : Nat) : Nat := if k = a then b else if k = b then a else k
def allL (g : Nat → List Nat → List Nat) (e : Nat → Nat) : Nat → Nat → List Nat → List Nat
  | 0, _, _ => []
  | d + 1, k, l => g (e k) l ++ allL g e d (k + 1) (g (e k) l)
theorem x7_allL {M : Mem} {B m a b : Nat} (hB : B ≤ 8) (hB7 : M.1 1 6 = nI B) (hm : M.1 1 7 = nI m) (hm2 : m < 12) (hbr : ∀ k, k < B → BR (M.1 2) (M.1 3) (M.1 4) (M.1 5) (M.1 64) k) (ha : a < B ∨ a = b) (hb : b < B ∨ a = b) (ha9 : a < 9) (hb9 : b < 9) : ∀ (d k n : Nat) (l acc : List Nat), okN l → (∀ s ∈ acc, s < 16) → k + d = B → d < n → b_X4_allSounds_1_9 M (nI a) (nI b) n (eC l) (snd acc) (nI k) = some (snd (acc ++ allL (bh (M.1 4) (M.1 5) m) (exch a b) d k l)) ∧ ∀ s ∈ allL (bh (M.1 4) (M.1 5) m) (exch a b) d k l, s < 16
  | _, _, 0, _, _, _, _, _, hn => absurd hn (Nat.not_lt_zero _)
  | 0, k, n + 1, l, acc, hl, hacc, hk, _ => by
    rw [b_X4_allSounds_1_9.eq_2, hB7, if_pos ((nI_leI (by omega) (by omega)).mpr (by omega))]
    exact ⟨by simp [allL], fun s hs => by cases hs⟩
  | d + 1, k, n + 1, l, acc, hl, hacc, hk, hn => by
    have hkB : exch a b k < B := by
      unfold exch
      split
      · rename_i q; subst q; rcases hb with z | z
        · exact z
        · subst z; omega
      · split
        · rename_i q1 q; subst q; rcases ha with z | z
          · exact z
          · exact absurd z.symm q1
        · omega
    obtain ⟨e, ho⟩ := x7_bh hB hm hm2 hkB (hbr _ hkB) hl
    have ih := x7_allL hB hB7 hm hm2 hbr ha hb ha9 hb9 d (k + 1) n (bh (M.1 4) (M.1 5) m (exch a b k) l) (acc ++ bh (M.1 4) (M.1 5) m (exch a b k) l) ho (fun s hs => by
      rcases List.mem_append.mp hs with q | q
      · exact hacc s q
      · exact ho.2 s q) (by omega) (by omega)
    have key : b_X4_allSounds_1_42 (fun x5_ x7_ x8_ => b_X4_allSounds_1_9 M (nI a) (nI b) n x5_ x7_ x8_) M (nI a) (nI b) (eC l) (snd acc) (nI k) (nI (exch a b k)) = some (snd (acc ++ allL (bh (M.1 4) (M.1 5) m) (exch a b) (d + 1) k l)) := by
      unfold b_X4_allSounds_1_42
      rw [e, Option.bind_some, x1_sounds ho, Option.bind_some, snd_app hacc ho.2, nI_1]
      refine ih.1.trans ?_
      rw [List.append_assoc]
      rfl
    refine ⟨?_, fun s hs => ?_⟩
    · rw [b_X4_allSounds_1_9.eq_2, hB7, if_neg (fun q => by have := (nI_leI (by omega) (by omega)).mp q; omega)]
      by_cases q1 : k = a
      · rw [if_pos (by rw [q1])]
        have : exch a b k = b := by unfold exch; rw [if_pos q1]
        rw [this] at key
        exact key
      · rw [if_neg (fun q => q1 ((nI_eq (by omega) (by omega)).mp q))]
        by_cases q2 : k = b
        · rw [if_pos (by rw [q2])]
          have : exch a b k = a := by unfold exch; rw [if_neg q1, if_pos q2]
          rw [this] at key
          exact key
        · rw [if_neg (fun q => q2 ((nI_eq (by omega) (by omega)).mp q))]
          have : exch a b k = k := by unfold exch; rw [if_neg q1, if_neg q2]
          rw [this] at key
          exact key
    · rcases List.mem_append.mp hs with q | q
      · exact ho.2 s q
      · exact ih.2 s q
def nxt (x : Int64) : Int64 := ((x * (1103515245 : Int64)) + (12345 : Int64)) - ((x * (1103515245 : Int64)) + (12345 : Int64)) / (2147483648 : Int64) * (2147483648 : Int64)
def wrd (x : Int64) : Int32 := ((x / (32768 : Int64)) - (x / (32768 : Int64)) / (65536 : Int64) * (65536 : Int64)).toInt32
def cntL (p : Int32 → Bool) : Nat → Int64 → Int32 → Int32
  | 0, _, c => c
  | d + 1, x, c => cntL p d (nxt x) (c + if p (wrd (nxt x)) then 1 else 0)
theorem x7_boatsL {L : List Nat} (hL : ∀ s ∈ L, s < 16) {t : Nat} (ht : t ≤ 60) : ∀ (d i n : Nat) (x : Int64) (c : Int32), i + d = t → d < n → b_X7_boatsSaying_9 (snd L) (nI t) n x c (nI i) = some (cntL (fun w => can w L) d x c)
  | _, _, 0, _, _, _, hn => absurd hn (Nat.not_lt_zero _)
  | 0, i, n + 1, x, c, hi, _ => by
    rw [b_X7_boatsSaying_9.eq_2, if_pos ((nI_leI (by omega) (by omega)).mpr (by omega))]; rfl
  | d + 1, i, n + 1, x, c, hi, hn => by
    have ih := x7_boatsL hL ht d (i + 1) n (nxt x) (c + if can (wrd (nxt x)) L then 1 else 0) (by omega) (by omega)
    rw [b_X7_boatsSaying_9.eq_2, if_neg (fun q => by have := (nI_leI (by omega) (by omega)).mp q; omega)]
    show (if f_X7_canSay (wrd (nxt x)) (snd L) = 0 then b_X7_boatsSaying_57 _ (snd L) (nI t) (nxt x) (nI i) 0 c else b_X7_boatsSaying_57 _ (snd L) (nI t) (nxt x) (nI i) 1 c) = some (cntL (fun w => can w L) d (nxt x) (c + if can (wrd (nxt x)) L then 1 else 0))
    rw [← ih, x7_canSay2 hL]
    unfold b_X7_boatsSaying_57
    by_cases hc : can (wrd (nxt x)) L = true
    · simp only [hc, if_true]
      rw [if_neg (by decide), nI_1]
    · have hc2 : can (wrd (nxt x)) L = false := by simpa using hc
      simp only [hc2, if_true, Bool.false_eq_true, if_false]
      rw [nI_1]
theorem can_app (w : Int32) (a b : List Nat) : can w (a ++ b) = (can w a && can w b) := by unfold can; exact List.all_append
theorem x8_inL {M : Mem} {B m : Nat} {e : Nat → Nat} {xa xb : Int32} (k10 : Int64 → Int32 → Int32 → Option Int32) (x1 x3 x8 x9 w : Int32) (x6 : Int64) (hB : B ≤ 8) (hB8 : M.1 64 0 = nI B) (hm7 : M.1 1 7 = nI m) (hm : M.1 64 1 = nI m) (hm2 : m < 12) (hbr : ∀ k, k < B → BR (M.1 2) (M.1 3) (M.1 4) (M.1 5) (M.1 64) k) (he : ∀ k, k < B → f_X8_exchanged (nI k) xa xb = nI (e k) ∧ e k < B) : ∀ (d k n : Nat) (l : List Nat), okN l → k + d = B → d < n → b_X8_boatsBy_59 k10 M x1 x3 xa xb x6 x8 x9 w n (eM l) 1 (nI k) = b_X8_boatsBy_105 k10 M x1 x3 xa xb x6 x8 x9 (if can w (allL (bh (M.1 4) (M.1 5) m) e d k l) then 1 else 0)
  | _, _, 0, _, _, _, hn => absurd hn (Nat.not_lt_zero _)
  | 0, k, n + 1, l, hl, hk, _ => by
    rw [b_X8_boatsBy_59.eq_2, show f_X8_bridges M = nI B from hB8, if_pos ((nI_leI (by omega) (by omega)).mpr (by omega))]; rfl
  | d + 1, k, n + 1, l, hl, hk, hn => by
    obtain ⟨e1, e2⟩ := he k (by omega)
    obtain ⟨-, ho⟩ := x7_bh hB hm7 hm2 e2 (hbr _ e2) hl
    have e3 := x8_bh (N := M) rfl hB hm hm2 e2 (hbr _ e2) hl
    rw [b_X8_boatsBy_59.eq_2, show f_X8_bridges M = nI B from hB8, if_neg (fun q => by have := (nI_leI (by omega) (by omega)).mp q; omega), if_neg (by decide), e1, e3, Option.bind_some, x8_canSay ho, Option.bind_some, nI_1]
    unfold allL
    rw [can_app]
    by_cases hc : can w (bh (M.1 4) (M.1 5) m (e k) l) = true
    · rw [if_pos hc, hc, Bool.true_and]
      exact x8_inL k10 x1 x3 x8 x9 w x6 hB hB8 hm7 hm hm2 hbr he d (k + 1) n _ ho (by omega) (by omega)
    · have hc2 : can w (bh (M.1 4) (M.1 5) m (e k) l) = false := by simpa using hc
      obtain ⟨n', rfl⟩ : ∃ n', n = n' + 1 := ⟨n - 1, by omega⟩
      rw [if_neg hc, hc2, Bool.false_and, if_neg (by decide), b_X8_boatsBy_59.eq_2]
      split
      · rfl
      · rw [if_pos rfl]
theorem x8_boatsL {M : Mem} {B m j t : Nat} {e : Nat → Nat} {xa xb : Int32} {l : List Nat} (hj : j < 4) (hl0 : M.2 66 j = eM l) (hl : okN l) (ht : t ≤ 60) (hB : B ≤ 8) (hB8 : M.1 64 0 = nI B) (hm7 : M.1 1 7 = nI m) (hm : M.1 64 1 = nI m) (hm2 : m < 12) (hbr : ∀ k, k < B → BR (M.1 2) (M.1 3) (M.1 4) (M.1 5) (M.1 64) k) (he : ∀ k, k < B → f_X8_exchanged (nI k) xa xb = nI (e k) ∧ e k < B) : ∀ (d i n : Nat) (x : Int64) (c : Int32), i + d = t → d < n → b_X8_boatsBy_10 M (nI j) (nI t) xa xb n x c (nI i) = some (cntL (fun w => can w (allL (bh (M.1 4) (M.1 5) m) e B 0 l)) d x c)
  | _, _, 0, _, _, _, hn => absurd hn (Nat.not_lt_zero _)
  | 0, i, n + 1, x, c, hi, _ => by
    rw [b_X8_boatsBy_10.eq_2, if_pos ((nI_leI (by omega) (by omega)).mpr (by omega))]; rfl
  | d + 1, i, n + 1, x, c, hi, hn => by
    have hf := fu_big
    have ih := x8_boatsL hj hl0 hl ht hB hB8 hm7 hm hm2 hbr he d (i + 1) n (nxt x) (c + if can (wrd (nxt x)) (allL (bh (M.1 4) (M.1 5) m) e B 0 l) then 1 else 0) (by omega) (by omega)
    have key := x8_inL (fun x6_ x8_ x9_ => b_X8_boatsBy_10 M (nI j) (nI t) xa xb n x6_ x8_ x9_) (nI j) (nI t) c (nI i) (wrd (nxt x)) (nxt x) hB hB8 hm7 hm hm2 hbr he B 0 fu l hl (by omega) (by omega)
    rw [b_X8_boatsBy_10.eq_2, if_neg (fun q => by have := (nI_leI (by omega) (by omega)).mp q; omega), ck_y (by omega) (by decide), cl (by omega), hl0]
    refine key.trans ?_
    show _ = some (cntL (fun w => can w (allL (bh (M.1 4) (M.1 5) m) e B 0 l)) d (nxt x) (c + if can (wrd (nxt x)) (allL (bh (M.1 4) (M.1 5) m) e B 0 l) then 1 else 0))
    rw [← ih]
    unfold b_X8_boatsBy_105 b_X8_boatsBy_117
    by_cases hc : can (wrd (nxt x)) (allL (bh (M.1 4) (M.1 5) m) e B 0 l) = true
    · simp only [hc, if_true]
      rw [if_neg (by decide), nI_1]
    · have hc2 : can (wrd (nxt x)) (allL (bh (M.1 4) (M.1 5) m) e B 0 l) = false := by simpa using hc
      simp only [hc2, if_true, Bool.false_eq_true, if_false]
      rw [nI_1]
theorem allL_cong {g : Nat → List Nat → List Nat} {e e2 : Nat → Nat} : ∀ (d k : Nat) (l : List Nat), (∀ i, k ≤ i → i < k + d → e i = e2 i) → allL g e d k l = allL g e2 d k l
  | 0, _, _, _ => rfl
  | d + 1, k, l, h => by
    unfold allL
    rw [h k (by omega) (by omega), allL_cong d (k + 1) _ (fun i h1 h2 => h i (by omega) (by omega))]

theorem fleet_y {s t : Nat} (hs : s < 1000000) (ht : t < 61) : f_X7_isFleet (nI s) (nI t) = 1 ∧ f_X8_areBoats (nI s) (nI t) = 1 := by
  have b7 : f_X7_isBelow (nI s) (1000000 : Int32) = 1 := bel_y hs rfl (by decide)
  have b8 : f_X8_in (nI s).toInt64 (0 : Int64) (999999 : Int64) = 1 := in_y hs (by omega) (by decide)
  have c8 : f_X8_in (nI t).toInt64 (0 : Int64) (60 : Int64) = 1 := in_y ht (by omega) (by decide)
  unfold f_X7_isFleet f_X8_areBoats
  rw [b7, z10, if_neg (nI_pos (by omega)), if_neg (fun q => by have := (v_gt 60 60 (by omega)).mp q; omega), b8, z10, c8, z10]
  exact ⟨rfl, rfl⟩
theorem fleet_n {x y : Int32} (h : OUT x 1000000 ∨ OUT y 61) : f_X7_isFleet x y = 0 ∧ f_X8_areBoats x y = 0 := by
  unfold f_X7_isFleet f_X8_areBoats
  rcases arg x 1000000 with ⟨s, hs, hs2, rfl⟩ | hx
  · have b7 : f_X7_isBelow (nI s) (1000000 : Int32) = 1 := bel_y hs rfl (by decide)
    have b8 : f_X8_in (nI s).toInt64 (0 : Int64) (999999 : Int64) = 1 := in_y hs (by omega) (by decide)
    have hy : OUT y 61 := by
      rcases h with h | h
      · exact absurd rfl (out_ne h hs hs2)
      · exact h
    rw [b7, z10, b8, z10, in_n hy (by decide), z00]
    refine ⟨?_, rfl⟩
    by_cases q : y < 0
    · rw [if_pos q]
    · rw [if_neg q, if_pos ((fa_lt _ _).mpr (by
        rcases hy with hy | hy
        · exact absurd ((fa_lt _ _).mpr (by rw [show (0 : Int32).toInt = 0 by decide]; exact hy)) q
        · rw [show (60 : Int32).toInt = 60 by decide]; omega))]
  · rw [bel_n (v := 1000000) hx rfl (by decide), z00, in_n hx (by decide), z00]
    exact ⟨rfl, rfl⟩
theorem bothB {M : Mem} {B m j s t a b : Nat} {l : List Nat} {xa xb : Int32} (hj : j < 4) (hs : s < 1000000) (ht : t < 61) (hl : okN l) (e2 : M.2 66 j = eM l) (hB : B ≤ 8) (a2 : M.1 1 6 = nI B ∧ M.1 64 0 = nI B) (a3 : M.1 1 7 = nI m ∧ M.1 64 1 = nI m) (hm2 : m < 12) (a6 : ∀ k, k < B → BR (M.1 2) (M.1 3) (M.1 4) (M.1 5) (M.1 64) k) (ha : a < B ∨ a = b) (hb : b < B ∨ a = b) (ha9 : a < 9) (hb9 : b < 9) (he : ∀ k, k < B → f_X8_exchanged (nI k) xa xb = nI (exch a b k) ∧ exch a b k < B) : ∃ q c : Int32, f_X4_allSounds_1 M (eC l) (nI a) (nI b) = some q ∧ f_X7_boatsSaying q (nI s) (nI t) = some c ∧ f_X8_boatsBy M (nI j) (nI s) (nI t) xa xb = some c := by
  have hf := fu_big
  obtain ⟨c7, hL⟩ := x7_allL hB a2.1 a3.1 hm2 a6 ha hb ha9 hb9 B 0 fu l [] hl (fun s hs => by cases hs) (by omega) (by omega)
  rw [List.nil_append] at c7
  have d7 := x7_boatsL hL (t := t) (by omega) t 0 fu (nI s).toInt64 0 (by omega) (by omega)
  have d8 := x8_boatsL (xa := xa) (xb := xb) hj e2 hl (t := t) (by omega) hB a2.2 a3.1 a3.2 hm2 a6 he t 0 fu (nI s).toInt64 0 (by omega) (by omega)
  exact ⟨_, _, c7, d7, d8⟩
theorem exId {B : Nat} (hB : B ≤ 8) : ∀ k, k < B → f_X8_exchanged (nI k) (-1) (-1) = nI (exch 0 0 k) ∧ exch 0 0 k < B := by
  intro k hk
  have hne : ¬ nI k = -1 := fun q => nI_pos (n := k) (by omega) (by rw [q]; decide)
  unfold f_X8_exchanged exch
  rw [if_neg hne, if_neg hne]
  by_cases h0 : k = 0
  · subst h0; exact ⟨rfl, hk⟩
  · rw [if_neg h0, if_neg h0]; exact ⟨rfl, hk⟩
theorem exAB {B a b : Nat} (hB : B ≤ 8) (ha : a < B) (hb : b < B) : ∀ k, k < B → f_X8_exchanged (nI k) (nI a) (nI b) = nI (exch a b k) ∧ exch a b k < B := by
  intro k hk
  unfold f_X8_exchanged exch
  by_cases h0 : k = a
  · rw [if_pos (by rw [h0]), if_pos h0]; exact ⟨rfl, hb⟩
  · rw [if_neg (fun q => h0 ((nI_eq (by omega) (by omega)).mp q)), if_neg h0]
    by_cases h1 : k = b
    · rw [if_pos (by rw [h1]), if_pos h1]; exact ⟨rfl, ha⟩
    · rw [if_neg (fun q => h1 ((nI_eq (by omega) (by omega)).mp q)), if_neg h1]; exact ⟨rfl, hk⟩
theorem e_boats {M : Mem} (h : Inv M) (x y z : Int32) : Same (f_X7_boats x y z) (f_X8_boats x y z) M := by
  obtain ⟨⟨B, m, N, u, a1, a2, a3, a4, a5, a6, a7, a8, a9⟩, -⟩ := id h
  rcases arg x 4 with ⟨j, hj, hj2, rfl⟩ | hx
  · rcases arg y 1000000 with ⟨s, hs, hs2, rfl⟩ | hy
    · rcases arg z 61 with ⟨t, ht, ht2, rfl⟩ | hz
      · obtain ⟨l, hl, e1, e2⟩ := a7 j hj
        obtain ⟨q, c, c1, c2, c3⟩ := bothB (xa := -1) (xb := -1) (a := 0) (b := 0) hj hs ht hl e2 a1.1 a2 a3 a1.2.1 a6 (Or.inr rfl) (Or.inr rfl) (by decide) (by decide) (exId a1.1)
        refine ⟨c, M, M, ?_, ?_, h⟩
        · (first | unfold f_X7_boats | unfold f_X8_boats); rw [row7_y hj, z10, (fleet_y hs ht).1, z10, ck_y hj (by decide), cl hj2, e1, show (0 : Int32) = nI 0 from rfl, c1, Option.bind_some, c2]; rfl
        · (first | unfold f_X7_boats | unfold f_X8_boats); rw [row8_y hj, z10, (fleet_y hs ht).2, z10, c3]; rfl
      · exact s_bad (v := -2) h (by (first | unfold f_X7_boats | unfold f_X8_boats); rw [row7_y hj, z10, (fleet_n (Or.inr hz)).1]; rfl) (by (first | unfold f_X7_boats | unfold f_X8_boats); rw [row8_y hj, z10, (fleet_n (Or.inr hz)).2]; rfl)
    · exact s_bad (v := -2) h (by (first | unfold f_X7_boats | unfold f_X8_boats); rw [row7_y hj, z10, (fleet_n (Or.inl hy)).1]; rfl) (by (first | unfold f_X7_boats | unfold f_X8_boats); rw [row8_y hj, z10, (fleet_n (Or.inl hy)).2]; rfl)
  · exact s_bad (v := -2) h (by (first | unfold f_X7_boats | unfold f_X8_boats); rw [row7_n hx]; rfl) (by (first | unfold f_X7_boats | unfold f_X8_boats); rw [row8_n hx]; rfl)
theorem e_flood {M : Mem} (h : Inv M) (x y z v w : Int32) : Same (f_X7_flood x y z v w) (f_X8_flood x y z v w) M := by
  obtain ⟨⟨B, m, N, u, a1, a2, a3, a4, a5, a6, a7, a8, a9⟩, -⟩ := id h
  have hB := (show (mB7 M).1 64 0 = nI B from a2.2)
  rcases arg x 4 with ⟨j, hj, hj2, rfl⟩ | hx
  · rcases arg y 1000000 with ⟨s, hs, hs2, rfl⟩ | hy
    · rcases arg z 61 with ⟨t, ht, ht2, rfl⟩ | hz
      · rcases arg v B with ⟨a, ha, ha2, rfl⟩ | hv
        · rcases arg w B with ⟨b, hb, hb2, rfl⟩ | hw
          · obtain ⟨l, hl, e1, e2⟩ := a7 j hj
            obtain ⟨q, c, c1, c2, c3⟩ := bothB (xa := -1) (xb := -1) (a := 0) (b := 0) hj hs ht hl e2 a1.1 a2 a3 a1.2.1 a6 (Or.inr rfl) (Or.inr rfl) (by decide) (by decide) (exId a1.1)
            obtain ⟨q2, d, d1, d2, d3⟩ := bothB (xa := nI a) (xb := nI b) (a := a) (b := b) hj hs ht hl e2 a1.1 a2 a3 a1.2.1 a6 (Or.inl ha) (Or.inl hb) (by omega) (by omega) (exAB a1.1 ha hb)
            refine ⟨d - c, M, M, ?_, ?_, h⟩
            · (first | unfold f_X7_flood | unfold f_X8_flood); rw [row7_y hj, z10, (fleet_y hs ht).1, z10, br7_y a2.1 ha a1.1, z10, br7_y a2.1 hb a1.1, z10, ck_y hj (by decide), cl hj2, e1, show (0 : Int32) = nI 0 from rfl, c1, Option.bind_some, c2, Option.bind_some, ck_y hj (by decide), d1, Option.bind_some, d2]; rfl
            · (first | unfold f_X7_flood | unfold f_X8_flood); rw [row8_y hj, z10, (fleet_y hs ht).2, z10, br8_y a2.2 ha a1.1, z10, br8_y a2.2 hb a1.1, z10, d3, Option.bind_some, c3]; rfl
          · exact s_bad (v := -100) h (by (first | unfold f_X7_flood | unfold f_X8_flood); rw [row7_y hj, z10, (fleet_y hs ht).1, z10, br7_y a2.1 ha a1.1, z10, br7_n a2.1 hw a1.1]; rfl) (by (first | unfold f_X7_flood | unfold f_X8_flood); rw [row8_y hj, z10, (fleet_y hs ht).2, z10, br8_y hB ha a1.1, z10, br8_n hB hw a1.1]; rfl)
        · exact s_bad (v := -100) h (by (first | unfold f_X7_flood | unfold f_X8_flood); rw [row7_y hj, z10, (fleet_y hs ht).1, z10, br7_n a2.1 hv a1.1]; rfl) (by (first | unfold f_X7_flood | unfold f_X8_flood); rw [row8_y hj, z10, (fleet_y hs ht).2, z10, br8_n hB hv a1.1]; rfl)
      · exact s_bad (v := -100) h (by (first | unfold f_X7_flood | unfold f_X8_flood); rw [row7_y hj, z10, (fleet_n (Or.inr hz)).1]; rfl) (by (first | unfold f_X7_flood | unfold f_X8_flood); rw [row8_y hj, z10, (fleet_n (Or.inr hz)).2]; rfl)
    · exact s_bad (v := -100) h (by (first | unfold f_X7_flood | unfold f_X8_flood); rw [row7_y hj, z10, (fleet_n (Or.inl hy)).1]; rfl) (by (first | unfold f_X7_flood | unfold f_X8_flood); rw [row8_y hj, z10, (fleet_n (Or.inl hy)).2]; rfl)
  · exact s_bad (v := -100) h (by (first | unfold f_X7_flood | unfold f_X8_flood); rw [row7_n hx]; rfl) (by (first | unfold f_X7_flood | unfold f_X8_flood); rw [row8_n hx]; rfl)
