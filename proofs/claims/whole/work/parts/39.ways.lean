/-! way, ways: the class -/
def CR (M : Mem) (goal : Nat) (a : Acc) : Prop := M.1 57 5 = nI goal ∧ M.1 57 3 = nI a.1 ∧ a.2.1 ≤ 6 ∧ a.2.2.1 ≤ 72 ∧ (a.1 ≠ 0 → M.1 57 1 = nI a.2.1 ∧ M.1 57 2 = nI a.2.2.1 ∧ ∀ i, i < a.2.1 → M.1 58 i = nI (a.2.2.2 i))
def PR (M : Mem) : List Nat → Prop
  | [] => True
  | b :: r => M.1 59 r.length = nI b ∧ PR M r
theorem PR_c {M N : Mem} : ∀ {rp : List Nat}, PR M rp → (∀ i, i < rp.length → N.1 59 i = M.1 59 i) → PR N rp
  | [], _, _ => trivial
  | b :: r, h, h1 => by
    simp only [List.length_cons] at h1
    exact ⟨(h1 _ (by omega)).trans h.1, PR_c h.2 (fun i hi => h1 i (by omega))⟩
theorem PR_rev {M : Mem} : ∀ {rp : List Nat}, PR M rp → ∀ i, i < rp.length → M.1 59 i = nI (rp.reverse.getD i 0)
  | [], _, i, hi => absurd hi (by simp)
  | b :: r, h, i, hi => by
    simp only [List.length_cons] at hi
    rw [List.reverse_cons]
    by_cases e : i = r.length
    · subst e
      rw [h.1]
      congr 1
      rw [List.getD_eq_getElem?_getD, List.getElem?_append_right (by simp)]
      simp
    · rw [PR_rev h.2 i (by omega)]
      congr 1
      rw [List.getD_eq_getElem?_getD, List.getD_eq_getElem?_getD, List.getElem?_append_left (by simp; omega)]
def KC (N M : Mem) : Prop := (∀ q, q ≠ 57 → q ≠ 58 → q ≠ 59 → N.1 q = M.1 q) ∧ N.2 = M.2
theorem KC_r (M : Mem) : KC M M := ⟨fun _ _ _ _ => rfl, rfl⟩
theorem KC_t {P N M : Mem} (h : KC P N) (h2 : KC N M) : KC P M := ⟨fun q a b c => (h.1 q a b c).trans (h2.1 q a b c), h.2.trans h2.2⟩
theorem RC_k {N M : Mem} {B m : Nat} {FR TO : Nat → Nat} {bhl : Nat → List Nat → List Nat} (h : RC M B m FR TO bhl) (k1 : N.1 1 = M.1 1) (k2 : N.1 2 = M.1 2) (k3 : N.1 3 = M.1 3) (k4 : N.1 4 = M.1 4) (k5 : N.1 5 = M.1 5) (k64 : N.1 64 = M.1 64) : RC N B m FR TO bhl := by
  unfold RC
  rw [k1, k2, k3, k64]
  have e : ∀ x y, f_X4_behind_1 N x y = f_X4_behind_1 M x y := fun x y => by unfold f_X4_behind_1; rw [k1, k4, k5]
  refine ⟨h.1, h.2.1, h.2.2.1, h.2.2.2.1, h.2.2.2.2.1, fun b l hb hl => ?_⟩
  rw [e]
  exact h.2.2.2.2.2 b l hb hl
theorem RC_kc {N M : Mem} {B m : Nat} {FR TO : Nat → Nat} {bhl : Nat → List Nat → List Nat} (h : RC M B m FR TO bhl) (k : KC N M) : RC N B m FR TO bhl :=
  RC_k h (k.1 1 (by decide) (by decide) (by decide)) (k.1 2 (by decide) (by decide) (by decide)) (k.1 3 (by decide) (by decide) (by decide)) (k.1 4 (by decide) (by decide) (by decide)) (k.1 5 (by decide) (by decide) (by decide)) (k.1 64 (by decide) (by decide) (by decide))
theorem mask_or : ∀ mk, mk < 256 → ∀ c, c < 8 → (nI mk ||| ((1 : Int32) <<< (nI c &&& 31))) = nI (mk ||| 2 ^ c) ∧ (mk ||| 2 ^ c) < 256 := by decide +kernel
theorem mask_in : ∀ mk, mk < 256 → ∀ b, b < 8 → ((nI mk >>> (nI b &&& 31)) &&& (1 : Int32)) = if mk.testBit b = true then 1 else 0 := by decide +kernel
def MK (mk : Nat) (rp : List Nat) : Prop := mk < 256 ∧ ∀ b, b < 8 → mk.testBit b = rp.contains b
theorem MK_0 : MK 0 [] := ⟨by decide, fun b _ => by rw [Nat.zero_testBit]; rfl⟩
theorem MK_s {mk c : Nat} {rp : List Nat} (h : MK mk rp) (hc : c < 8) : MK (mk ||| 2 ^ c) (c :: rp) := by
  refine ⟨(mask_or mk h.1 c hc).2, fun b hb => ?_⟩
  rw [Nat.testBit_or, h.2 b hb, Nat.testBit_two_pow, List.contains_cons, Bool.or_comm]
  congr 1
  by_cases e : c = b
  · subst e; simp
  · have e' : ¬ b = c := fun q => e q.symm
    simp [e, e']
theorem x6_open {M : Mem} {FR TO : Nat → Nat} {p0 B b mk : Nat} {rp : List Nat} (hB : B ≤ 8) (hb : b < B) (hfr : FR b < 6 ∧ M.1 2 b = nI (FR b)) (hpl : plR TO p0 rp < 6) (hmk : MK mk rp) : f_X6_isOpen_1 M (nI b) (nI (plR TO p0 rp)) (nI mk) = some (if opn FR TO p0 rp b = true then 1 else 0) := by
  unfold f_X6_isOpen_1
  rw [ck_y (by omega) (by decide), cl (by omega), hfr.2, mask_in mk hmk.1 b (by omega), hmk.2 b (by omega)]
  unfold opn
  by_cases h1 : FR b = plR TO p0 rp
  · rw [if_pos (by rw [h1])]
    by_cases h2 : rp.contains b = true
    · rw [if_pos h2, if_neg (by decide), if_neg (by rw [h2]; simp)]
    · rw [if_neg h2, if_pos rfl, if_pos (by simp only [Bool.not_eq_true] at h2; rw [h2, h1]; simp)]
  · rw [if_neg (fun q => h1 ((nI_eq (by omega) (by omega)).mp q)), if_neg (by simp [h1])]
theorem x6_arrive {M : Mem} {goal t : Nat} {rp : List Nat} {a : Acc} (hr : rp.length ≤ 6) (ht : t ≤ 72) (hc : CR M goal a) (hp : PR M rp) (ha : a.1 < 1000000) : ∃ N, f_X6_arrive (nI rp.length) (nI t) M = some N ∧ CR N goal (arrv rp t a) ∧ PR N rp ∧ KC N M := by
  obtain ⟨c5, c3, c1, c2, cb⟩ := hc
  have yes : btr rp t a = true → f_X6_arrive (nI rp.length) (nI t) M = b_X6_arrive_41 (nI rp.length) (nI t) M := by
    intro hb
    by_cases hz : a.1 = 0
    · have e0 : ∀ t0, b_X6_arrive_29 (nI rp.length) (nI t) t0 M = b_X6_arrive_41 (nI rp.length) (nI t) M := fun t0 => by
        unfold b_X6_arrive_29; rw [c3, hz, if_pos (by decide)]
      unfold f_X6_arrive
      rw [e0, e0]
      split
      · rfl
      · split
        · split <;> rfl
        · rfl
    · obtain ⟨p1, p2, p3⟩ := cb hz
      have e1 : b_X6_arrive_29 (nI rp.length) (nI t) 1 M = b_X6_arrive_41 (nI rp.length) (nI t) M := by
        unfold b_X6_arrive_29; rw [c3, if_neg (fun q => hz ((v_eq 0 0 (by omega)).mp q)), if_neg (by decide)]
      unfold btr at hb
      unfold f_X6_arrive
      rw [p1, p2]
      by_cases hlt : t < a.2.2.1
      · rw [if_pos ((nI_ltI (by omega) (by omega)).mpr hlt), e1]
      · have hand : t = a.2.2.1 ∧ rp.length < a.2.1 := by simpa [hz, hlt] using hb
        rw [if_neg (fun q => hlt ((nI_ltI (by omega) (by omega)).mp q)), if_pos (by rw [hand.1]), if_neg (fun q => by have := (nI_leI (by omega) (by omega)).mp q; omega), e1]
  have no : ¬ btr rp t a = true → f_X6_arrive (nI rp.length) (nI t) M = some (mI M 57 3 (nI (a.1 + 1))) := by
    intro hb
    unfold btr at hb
    have hz : ¬ a.1 = 0 := fun q => hb (by simp [q])
    have hlt : ¬ t < a.2.2.1 := fun q => hb (by simp [q])
    obtain ⟨p1, p2, p3⟩ := cb hz
    have e1 : b_X6_arrive_29 (nI rp.length) (nI t) 0 M = some (mI M 57 3 (nI (a.1 + 1))) := by
      unfold b_X6_arrive_29; rw [c3, if_neg (fun q => hz ((v_eq 0 0 (by omega)).mp q)), if_pos rfl, nI_1]
    unfold f_X6_arrive
    rw [p1, p2, if_neg (fun q => hlt ((nI_ltI (by omega) (by omega)).mp q))]
    by_cases he : t = a.2.2.1
    · have hle : ¬ rp.length < a.2.1 := fun q => hb (by simp [q, he])
      rw [if_pos (by rw [he]), if_pos ((nI_leI (by omega) (by omega)).mpr (by omega)), e1]
    · rw [if_neg (fun q => he ((nI_eq (by omega) (by omega)).mp q)), e1]
  unfold arrv
  by_cases hb : btr rp t a = true
  · rw [if_pos hb, yes hb]
    refine ⟨mI (rI (mI (mI M 57 2 (nI t)) 57 1 (nI rp.length)) 58 (va_cpy (M.1 59) (M.1 58) 0 0 6)) 57 3 (nI (a.1 + 1)), ?_, ⟨c5, rfl, hr, ht, fun _ => ⟨rfl, rfl, fun i hi => ?_⟩⟩, PR_c hp (fun _ _ => rfl), ?_, rfl⟩
    · unfold b_X6_arrive_41
      show some (mI (rI (mI (mI M 57 2 (nI t)) 57 1 (nI rp.length)) 58 (va_cpy (M.1 59) (M.1 58) 0 0 6)) 57 3 (M.1 57 3 + 1)) = _
      rw [c3, nI_1]
    · show va_cpy (M.1 59) (M.1 58) 0 0 6 i = _
      rw [c8 (show i < 6 by simp only at hi; omega)]
      exact PR_rev hp i hi
    · intro q h1 h2 h3
      unfold mI
      rw [rI_ne h1, rI_ne h2, rI_ne h1, rI_ne h1]
  · rw [if_neg hb, no hb]
    have hz : ¬ a.1 = 0 := fun q => hb (by unfold btr; simp [q])
    obtain ⟨p1, p2, p3⟩ := cb hz
    exact ⟨_, rfl, ⟨c5, rfl, c1, c2, fun _ => ⟨p1, p2, p3⟩⟩, PR_c hp (fun _ _ => rfl), fun q h1 _ _ => rI_ne h1, rfl⟩
theorem lpW_1 {B : Nat} {op : Nat → Bool} {rc : Nat → Acc → Acc} {s : Nat} (h : ∀ b a, (rc b a).1 ≤ a.1 + s) : ∀ (e b : Nat) (a : Acc), (lpW rc op e b a).1 ≤ a.1 + e * s
  | 0, _, a => by unfold lpW; omega
  | e + 1, b, a => by
    unfold lpW
    have h1 := lpW_1 (B := B) (op := op) h e (b + 1) (if op b = true then rc b a else a)
    have h2 : (if op b = true then rc b a else a).1 ≤ a.1 + s := by
      split
      · exact h b a
      · omega
    rw [Nat.succ_mul]; omega
theorem FV_1 {B : Nat} (hB : B ≤ 8) (op : List Nat → Nat → Bool) (vis : List Nat → Acc → Acc) (hv : ∀ rp a, (vis rp a).1 ≤ a.1 + 1) : ∀ (k : Nat) (rp : List Nat) (a : Acc), (FV B op vis k rp a).1 ≤ a.1 + (1 + Nn k)
  | 0, rp, a => by unfold FV Nn; have := hv rp a; omega
  | k + 1, rp, a => by
    unfold FV Nn
    have h1 := hv rp a
    have h2 := lpW_1 (B := B) (op := op rp) (rc := fun b a => FV B op vis k (b :: rp) a) (s := 1 + Nn k) (fun b a => FV_1 hB op vis hv k (b :: rp) a) B 0 (vis rp a)
    have h3 : B * (1 + Nn k) ≤ 8 * (1 + Nn k) := Nat.mul_le_mul_right _ hB
    omega
theorem x6_go {M0 : Mem} {B m : Nat} {FR TO : Nat → Nat} {bhl : Nat → List Nat → List Nat} {l0 : List Nat} {p0 goal : Nat} (hrc : RC M0 B m FR TO bhl) (hl : okN l0) (hp0 : p0 < 6) (hg : goal < 6) : ∀ (k n : Nat) (rp : List Nat) (mq : Nat) (a : Acc) (M : Mem), k + rp.length = 6 → k < n → (∀ b ∈ rp, b < B) → MK mq rp → CR M goal a → PR M rp → KC M M0 → a.1 + (1 + Nn k) < 1000000 → ∃ N, f_X6_goOn_1 n (nI (plR TO p0 rp)) (eC (laR bhl l0 rp)) (nI mq) (nI rp.length) (nI (toR (laR bhl l0) rp)) M = some N ∧ CR N goal (FV B (opn FR TO p0) (visW TO (laR bhl l0) p0 goal) k rp a) ∧ PR N rp ∧ KC N M
  | _, 0, _, _, _, _, _, hn, _, _, _, _, _, _ => absurd hn (Nat.not_lt_zero _)
  | k, n + 1, rp, mq, a, M, hk, hn, hall, hmk, hc, hp, hkc, ha => by
    have hf := fu_big
    have hB := hrc.1
    have hpl := pl_lt hrc hp0 hall
    have hto : toR (laR bhl l0) rp ≤ 72 := by have := to_le hrc hl hall; omega
    have hok := la_ok hrc hl hall
    have hv1 := vis_1 TO (laR bhl l0) p0 goal rp a
    obtain ⟨N, e1, e2, e3, e4⟩ : ∃ N, f_X6_goOn_1 (n + 1) (nI (plR TO p0 rp)) (eC (laR bhl l0 rp)) (nI mq) (nI rp.length) (nI (toR (laR bhl l0) rp)) M = b_X6_goOn_1_16 (f_X6_goOn_1 n) (nI (plR TO p0 rp)) (eC (laR bhl l0 rp)) (nI mq) (nI rp.length) (nI (toR (laR bhl l0) rp)) N ∧ CR N goal (visW TO (laR bhl l0) p0 goal rp a) ∧ PR N rp ∧ KC N M := by
      unfold f_X6_goOn_1 visW
      rw [hc.1]
      by_cases hpg : plR TO p0 rp = goal
      · obtain ⟨N, j1, j2, j3, j4⟩ := x6_arrive (goal := goal) (t := toR (laR bhl l0) rp) (by omega) hto hc hp (by omega)
        refine ⟨N, ?_, ?_, j3, j4⟩
        · rw [if_pos (by rw [hpg]), j1, Option.bind_some]
        · rw [if_pos hpg]; exact j2
      · refine ⟨M, ?_, ?_, hp, KC_r M⟩
        · rw [if_neg (fun q => hpg ((nI_eq (by omega) (by omega)).mp q))]
        · rw [if_neg hpg]; exact hc
    rw [e1]
    unfold b_X6_goOn_1_16
    cases k with
    | zero =>
      rw [if_neg (fun q => by have := (v_lt 6 6 (by omega)).mp q; omega)]
      exact ⟨N, rfl, e2, e3, e4⟩
    | succ k =>
      rw [if_pos ((v_lt 6 6 (by omega)).mpr (by omega))]
      have inner : ∀ (e b n2 : Nat) (a2 : Acc) (M2 : Mem), b + e = B → e < n2 → CR M2 goal a2 → PR M2 rp → KC M2 M0 → a2.1 + e * (1 + Nn k) < 1000000 → ∃ N2, b_X6_goOn_1_27 (f_X6_goOn_1 n) (nI (plR TO p0 rp)) (eC (laR bhl l0 rp)) (nI mq) (nI rp.length) (nI (toR (laR bhl l0) rp)) n2 (nI b) M2 = some N2 ∧ CR N2 goal (lpW (fun b a => FV B (opn FR TO p0) (visW TO (laR bhl l0) p0 goal) k (b :: rp) a) (opn FR TO p0 rp) e b a2) ∧ PR N2 rp ∧ KC N2 M2 := by
        intro e
        induction e with
        | zero =>
          intro b n2 a2 M2 hb hn2 hc2 hp2 hk2 _
          obtain ⟨n3, rfl⟩ : ∃ n3, n2 = n3 + 1 := ⟨n2 - 1, by omega⟩
          have hb6 : M2.1 1 6 = nI B := (RC_kc hrc hk2).2.2.1
          rw [b_X6_goOn_1_27.eq_2, hb6, if_pos ((nI_leI (by omega) (by omega)).mpr (by omega))]
          exact ⟨M2, rfl, hc2, hp2, KC_r M2⟩
        | succ e ih =>
          intro b n2 a2 M2 hb hn2 hc2 hp2 hk2 ha2
          obtain ⟨n3, rfl⟩ : ∃ n3, n2 = n3 + 1 := ⟨n2 - 1, by omega⟩
          have hrc2 := RC_kc hrc hk2
          have hb6 : M2.1 1 6 = nI B := hrc2.2.2.1
          obtain ⟨r1, r2, r3, r4, r5, r6⟩ := hrc2.2.2.2.2.1 b (by omega)
          have ho := x6_open (M := M2) (FR := FR) (TO := TO) (p0 := p0) (b := b) hB (by omega) ⟨r1, r3⟩ hpl hmk
          rw [Nat.succ_mul] at ha2
          rw [b_X6_goOn_1_27.eq_2, hb6, if_neg (fun q => by have := (nI_leI (by omega) (by omega)).mp q; omega), ho, Option.bind_some]
          unfold lpW b_X6_goOn_1_99
          rw [nI_1]
          by_cases hop : opn FR TO p0 rp b = true
          · rw [if_pos hop, if_neg (by decide), ck_y (by omega) (by decide), cl (by omega), if_pos hop]
            have hall2 : ∀ c ∈ b :: rp, c < B := fun c hc => by
              rcases List.mem_cons.mp hc with rfl | h
              · omega
              · exact hall c h
            have hkx : KC (mI M2 59 rp.length (nI b)) M2 := ⟨fun q _ _ h3 => rI_ne h3, rfl⟩
            have hrc3 := RC_kc hrc2 hkx
            have hbh := (hrc3.2.2.2.2.2 b _ (show b < B by omega) hok).2.1
            have e3 : (mI M2 59 rp.length (nI b)).1 3 b = nI (TO b) := r5
            have hok2 : okN (laR bhl l0 (b :: rp)) := la_ok hrc hl hall2
            have hlen : f_X1_length (eC (bhl b (laR bhl l0 rp))) = nI (laR bhl l0 (b :: rp)).length := x1_len hok2
            have hta : nI (toR (laR bhl l0) rp) + nI (laR bhl l0 (b :: rp)).length = nI (toR (laR bhl l0) (b :: rp)) := nI_add _ _
            have hfv := FV_1 hB (opn FR TO p0) (visW TO (laR bhl l0) p0 goal) (vis_1 TO (laR bhl l0) p0 goal) k (b :: rp) a2
            obtain ⟨N3, f1, f2, f3, f4⟩ := x6_go hrc hl hp0 hg k n (b :: rp) (mq ||| 2 ^ b) a2 (mI M2 59 rp.length (nI b)) (by simp only [List.length_cons]; omega) (by omega) hall2 (MK_s hmk (by omega)) ⟨hc2.1, hc2.2.1, hc2.2.2.1, hc2.2.2.2.1, hc2.2.2.2.2⟩ ⟨pk_us (f := M2.1 59), PR_c hp2 (fun i hi => pk_un (f := M2.1 59) (by omega))⟩ (KC_t hkx hk2) (by omega)
            have f1' : f_X6_goOn_1 n (nI (TO b)) (eC (bhl b (laR bhl l0 rp))) (nI (mq ||| 2 ^ b)) (nI (rp.length + 1)) (nI (toR (laR bhl l0) (b :: rp))) (mI M2 59 rp.length (nI b)) = some N3 := f1
            obtain ⟨N4, g1, g2, g3, g4⟩ := ih (b + 1) n3 _ N3 (by omega) (by omega) f2 (PR_c f3.2 (fun _ _ => rfl)) (KC_t f4 (KC_t hkx hk2)) (by omega)
            refine ⟨N4, ?_, g2, g3, KC_t g4 (KC_t f4 hkx)⟩
            simp only [hbh, Option.bind_some]
            rw [ck_y (by omega) (by decide), cl (by omega), e3, (mask_or mq hmk.1 b (by omega)).1, hlen, hta, nI_1, f1', Option.bind_some]
            exact g1
          · rw [if_neg hop, if_pos rfl, if_neg hop]
            exact ih (b + 1) n3 a2 M2 (by omega) (by omega) hc2 hp2 hk2 (by omega)
      have hnn : a.1 + (1 + 8 * (1 + Nn k)) < 1000000 := ha
      have h3 : B * (1 + Nn k) ≤ 8 * (1 + Nn k) := Nat.mul_le_mul_right _ hB
      obtain ⟨N2, g1, g2, g3, g4⟩ := inner B 0 fu _ N (by omega) (by omega) e2 e3 (KC_t e4 hkc) (by omega)
      exact ⟨N2, g1, g2, g3, KC_t g4 e4⟩

theorem Inv_k {M N : Mem} (h : Inv M) (hI : ∀ q, q < 57 ∨ (64 ≤ q ∧ q < 70) ∨ q = 77 → N.1 q = M.1 q) (h63 : N.1 63 20 = M.1 63 20) (hL : ∀ q, q ≠ 72 → N.2 q = M.2 q) : Inv N := by
  have i : ∀ q, q < 57 → N.1 q = M.1 q := fun q hq => hI q (Or.inl hq)
  have j : ∀ q, 64 ≤ q → q < 70 → N.1 q = M.1 q := fun q h1 h2 => hI q (Or.inr (Or.inl ⟨h1, h2⟩))
  have g : ∀ q, q ≠ 72 → N.2 q = M.2 q := hL
  unfold Inv RVr RV0 RV1 TXr
  rw [h63, i 0 (by decide), i 1 (by decide), i 2 (by decide), i 3 (by decide), i 4 (by decide), i 5 (by decide), i 7 (by decide), i 8 (by decide), i 9 (by decide), i 12 (by decide), i 13 (by decide), i 27 (by decide), i 28 (by decide), i 29 (by decide), i 30 (by decide), i 31 (by decide), i 33 (by decide), i 34 (by decide), i 35 (by decide), i 38 (by decide), i 39 (by decide), i 40 (by decide), i 41 (by decide), i 42 (by decide), i 43 (by decide), i 44 (by decide), i 46 (by decide), i 47 (by decide), i 48 (by decide), i 51 (by decide), i 52 (by decide), i 54 (by decide), i 55 (by decide), i 56 (by decide), j 64 (by decide) (by decide), j 65 (by decide) (by decide), j 68 (by decide) (by decide), j 69 (by decide) (by decide), hI 77 (by decide), g 6 (by decide), g 10 (by decide), g 11 (by decide), g 32 (by decide), g 36 (by decide), g 37 (by decide), g 45 (by decide), g 49 (by decide), g 50 (by decide), g 60 (by decide), g 63 (by decide), g 66 (by decide), g 67 (by decide)]
  exact h
theorem Inv_kc {M N : Mem} (h : Inv M) (k : KC N M) : Inv N :=
  Inv_k h (fun q hq => k.1 q (by omega) (by omega) (by omega)) (by rw [k.1 63 (by decide) (by decide) (by decide)]) (fun q _ => by rw [k.2])
theorem Inv_ky {M N : Mem} (h : Inv M) (k : KY N M) : Inv N :=
  Inv_k h (fun q hq => k.1 q (by omega) (by omega) (by omega) (by omega) (by omega)) (k.2.2 20 (by decide) (by decide) (by decide) (by decide)) k.2.1
/-- both go all ways, and hold the same of them -/
theorem x_all {M : Mem} (h : Inv M) {r p goal : Nat} (hr : r < 4) (hp : p < 6) (hg : goal < 6) : ∃ (a : Acc) (N N2 : Mem), a.1 < 1000000 ∧ f_X6_findWays_1 (M.2 6 r) (nI p) (nI goal) M = some N ∧ CR N goal a ∧ f_X8_layWays (nI r) (nI p) (nI goal) N = some N2 ∧ MR N2 a ∧ Inv N2 := by
  have hf := fu_big
  obtain ⟨⟨B, m, N, u, a1, a2, a3, a4, a5, a6, a7, a8, a9⟩, -⟩ := id h
  obtain ⟨l, hl, e1, e2⟩ := a7 r hr
  have hrc := RC_of a1.1 a1.2.1 a2.1 a2.2 a3.1 a3.2 a6
  generalize (fun b => (M.1 2 b).toNatClampNeg) = FR at hrc
  generalize (fun b => (M.1 3 b).toNatClampNeg) = TO at hrc
  generalize bh (M.1 4) (M.1 5) m = bhl at hrc
  have hk0 : KC (mI (mI M 57 5 (nI goal)) 57 3 0) M := ⟨fun q h1 _ _ => by unfold mI; rw [rI_ne h1, rI_ne h1], rfl⟩
  have h6 : Nn 6 = 299592 := by decide
  obtain ⟨N1, f1, f2, f3, f4⟩ := x6_go (M0 := M) (l0 := l) (p0 := p) (goal := goal) hrc hl hp hg 6 8 [] 0 (0, 0, 0, fun _ => 0) (mI (mI M 57 5 (nI goal)) 57 3 0) rfl (by decide) (fun b hb => by cases hb) MK_0 ⟨rfl, rfl, by decide, by decide, fun q => absurd rfl q⟩ trivial hk0 (by rw [h6]; decide)
  have hfv := FV_1 a1.1 (opn FR TO p) (visW TO (laR bhl l) p goal) (vis_1 TO (laR bhl l) p goal) 6 [] (0, 0, 0, fun _ => 0)
  have hk1 := KC_t f4 hk0
  have hrc1 := RC_kc hrc hk1
  have i1 := Inv_kc h hk1
  have e66 : N1.2 66 r = eM l := by rw [hk1.2]; exact e2
  have hfu : fu = 400000 := rfl
  have hw := WB_all a1.1 (opn FR TO p) (visW TO (laR bhl l) p goal) (0, 0, 0, fun _ => 0) (n := fu - 1) (by omega)
  obtain ⟨N2, g1, g2, g3⟩ := x8_lay (M0 := N1) (l0 := l) (p0 := p) (goal := goal) hrc1 hl hp hg (fu - 1) [] (0, 0, 0, fun _ => 0) _ (mI (mI (mL (mI (mI (mI (mI (mI N1 63 14 (-1)) 63 15 0) 63 16 0) 63 12 0) 71 0 (nI p)) 72 0 (eM l)) 73 0 0) 70 0 (-1)) ⟨rfl, rfl, (by show (-1 : Int32) + 1 = nI 0; decide), ⟨rfl, rfl, rfl⟩, fun b hb => (by cases hb), by decide, by omega⟩ ⟨rfl, by decide, by decide, fun _ => rfl, fun q => absurd rfl q⟩ (by show 0 + (fu - 1) < 1000000; omega) hw
  have hfe : fu - 1 + 1 = fu := by omega
  rw [hfe] at g1
  refine ⟨_, N1, N2, ?_, ?_, f2, ?_, g2, Inv_ky i1 (KY_t g3 ?_)⟩
  · rw [h6] at hfv; have hz : ((0, 0, 0, fun _ => 0) : Acc).1 = 0 := rfl
    rw [hz] at hfv; omega
  · unfold f_X6_findWays_1
    rw [e1]
    have f1' : f_X6_goOn_1 8 (nI p) (eC l) (0 : Int32) (0 : Int32) (0 : Int32) (mI (mI M 57 5 (nI goal)) 57 3 0) = some N1 := f1
    show (f_X6_goOn_1 8 (nI p) (eC l) (0 : Int32) (0 : Int32) (0 : Int32) (mI (mI M 57 5 (nI goal)) 57 3 0)).bind _ = _
    rw [f1']; rfl
  · unfold f_X8_layWays
    rw [ck_y (by omega) (by decide), cl (by omega)]
    show (f_X8_beginWay (N1.2 66 r) (nI p) (mI (mI (mI N1 63 14 (-1)) 63 15 0) 63 16 0)).bind _ = _
    rw [e66]
    exact g1
  · refine ⟨fun q h1 h2 h3 h4 h5 => ?_, fun q h1 => ?_, fun k h1 h2 h3 h4 => ?_⟩
    · unfold mI
      rw [rI_ne h2, rI_ne h4]
      show (rI (rI (rI (rI (rI N1 63 _) 63 _) 63 _) 63 _) 71 _).1 q = _
      rw [rI_ne h3, rI_ne h1, rI_ne h1, rI_ne h1, rI_ne h1]
    · show (rL _ 72 _).2 q = _
      rw [rL_ne h1]; rfl
    · show upd (upd (upd (upd (N1.1 63) 14 _) 15 _) 16 _) 12 _ k = _
      rw [pk_un h1, pk_un h4, pk_un h3, pk_un h2]
theorem e_ways {M : Mem} (h : Inv M) (x y z w : Int32) : Same (f_X7_ways x y z w) (f_X8_ways x y z w) M := by
  rcases arg x 4 with ⟨r, hr, hr2, rfl⟩ | hx
  · rcases arg y 6 with ⟨p, hp, hp2, rfl⟩ | hy
    · have k1 : f_X7_isBelow (nI p) (6 : Int32) = 1 := bel_y hp rfl (by decide)
      rcases arg z 6 with ⟨g, hg, hg2, rfl⟩ | hz
      · have k2 : f_X7_isBelow (nI g) (6 : Int32) = 1 := bel_y hg rfl (by decide)
        rcases arg w 2 with ⟨c, hc, hc2, rfl⟩ | hw
        · have k3 : f_X7_isBelow (nI c) (2 : Int32) = 1 := bel_y hc rfl (by decide)
          have m3 : f_X8_in (nI c).toInt64 (0 : Int64) (1 : Int64) = 1 := in_y hc hc2 (by decide)
          obtain ⟨a, N, N2, hb, w1, w2, w3, w4, w5⟩ := x_all h hr hp hg
          refine ⟨if nI c = 0 then nI a.1 else N2.1 63 14, N, N2, ?_, ?_, w5⟩
          · unfold f_X7_ways
            rw [row7_y hr, z10, k1, z10, k2, z10, k3, z10, ck_y hr (by decide), cl hr2, w1, Option.bind_some, w2.2.1]
            by_cases h0 : nI c = 0
            · rw [if_pos h0, if_pos h0]
            · rw [if_neg h0, if_neg h0]
              by_cases ha : a.1 = 0
              · rw [if_pos ((v_eq 0 0 (by omega)).mpr ha), w4.2.2.2.1 ha]
              · rw [if_neg (fun q => ha ((v_eq 0 0 (by omega)).mp q)), (w4.2.2.2.2 ha).1, (w2.2.2.2.2 ha).1]
          · unfold f_X8_ways
            rw [row8_y hr, z10, pl8_y hp, z10, pl8_y hg, z10, m3, z10, w3, Option.bind_some, w4.1]
            by_cases h0 : nI c = 0
            · rw [if_pos h0, if_pos h0]
            · rw [if_neg h0, if_neg h0]
        · exact s_bad (v := -2) h (by unfold f_X7_ways; rw [row7_y hr, z10, k1, z10, k2, z10, bel_n (v := 2) hw rfl (by decide)]; rfl) (by unfold f_X8_ways; rw [row8_y hr, z10, pl8_y hp, z10, pl8_y hg, z10, in_n hw (by decide)]; rfl)
      · exact s_bad (v := -2) h (by unfold f_X7_ways; rw [row7_y hr, z10, k1, z10, bel_n (v := 6) hz rfl (by decide)]; rfl) (by unfold f_X8_ways; rw [row8_y hr, z10, pl8_y hp, z10, pl8_n hz]; rfl)
    · exact s_bad (v := -2) h (by unfold f_X7_ways; rw [row7_y hr, z10, bel_n (v := 6) hy rfl (by decide)]; rfl) (by unfold f_X8_ways; rw [row8_y hr, z10, pl8_n hy]; rfl)
  · exact s_bad (v := -2) h (by unfold f_X7_ways; rw [row7_n hx]; rfl) (by unfold f_X8_ways; rw [row8_n hx]; rfl)
theorem e_way {M : Mem} (h : Inv M) (x y z w : Int32) : Same (f_X7_way x y z w) (f_X8_way x y z w) M := by
  rcases arg x 4 with ⟨r, hr, hr2, rfl⟩ | hx
  · rcases arg y 6 with ⟨p, hp, hp2, rfl⟩ | hy
    · have k1 : f_X7_isBelow (nI p) (6 : Int32) = 1 := bel_y hp rfl (by decide)
      rcases arg z 6 with ⟨g, hg, hg2, rfl⟩ | hz
      · have k2 : f_X7_isBelow (nI g) (6 : Int32) = 1 := bel_y hg rfl (by decide)
        by_cases hw : (-1 : Int32) ≤ w
        · obtain ⟨a, N, N2, hb, w1, w2, w3, w4, w5⟩ := x_all h hr hp hg
          by_cases ha : a.1 = 0
          · refine ⟨-1, N, N2, ?_, ?_, w5⟩
            · unfold f_X7_way
              rw [row7_y hr, z10, k1, z10, k2, z10, if_pos hw, ck_y hr (by decide), cl hr2, w1, Option.bind_some, w2.2.1, if_pos ((v_eq 0 0 (by omega)).mpr ha)]
            · unfold f_X8_way
              rw [row8_y hr, z10, pl8_y hp, z10, pl8_y hg, z10, if_pos hw, w3, Option.bind_some, w4.2.2.2.1 ha, if_pos rfl]
          · obtain ⟨p1, p2, p3⟩ := w4.2.2.2.2 ha
            obtain ⟨q1, q2, q3⟩ := w2.2.2.2.2 ha
            have h61 := w4.2.1
            have hne : ¬ nI a.2.1 = (-1 : Int32) := fun q => by have := (fa_eq _ _).mp q; rw [nI_toInt (by omega), show (-1 : Int32).toInt = -1 by decide] at this; omega
            have s7 : ∀ R, (if w = (-1 : Int32) then some (N.1 57 2, N) else if N.1 57 1 ≤ w then some (-5, N) else ck w 6 (some (N.1 58 w.toNatClampNeg, N))) = R → f_X7_way (nI r) (nI p) (nI g) w M = R := by
              intro R hR
              unfold f_X7_way
              rw [row7_y hr, z10, k1, z10, k2, z10, if_pos hw, ck_y hr (by decide), cl hr2, w1, Option.bind_some, w2.2.1, if_neg (fun q => ha ((v_eq 0 0 (by omega)).mp q))]
              exact hR
            have s8 : ∀ R, (if w = (-1 : Int32) then some (N2.1 63 15, N2) else if N2.1 63 14 ≤ w then some (-5, N2) else ck w 6 (some (N2.1 74 w.toNatClampNeg, N2))) = R → f_X8_way (nI r) (nI p) (nI g) w N = R := by
              intro R hR
              unfold f_X8_way
              rw [row8_y hr, z10, pl8_y hp, z10, pl8_y hg, z10, if_pos hw, w3, Option.bind_some, if_neg (by rw [p1]; exact hne)]
              exact hR
            by_cases hm1 : w = -1
            · exact ⟨nI a.2.2.1, N, N2, s7 _ (by rw [if_pos hm1, q2]), s8 _ (by rw [if_pos hm1, p2]), w5⟩
            · by_cases hle : nI a.2.1 ≤ w
              · exact ⟨-5, N, N2, s7 _ (by rw [if_neg hm1, q1, if_pos hle]), s8 _ (by rw [if_neg hm1, p1, if_pos hle]), w5⟩
              · have h0 : ¬ w < 0 := fun q => by
                  rw [fa_lt] at q; rw [fa_le] at hw; rw [fa_eq] at hm1
                  rw [show (0 : Int32).toInt = 0 by decide] at q
                  rw [show (-1 : Int32).toInt = -1 by decide] at hw hm1
                  omega
                obtain ⟨i, hi, rfl⟩ := nI_of h0
                have hi2 : i < a.2.1 := by
                  rcases Nat.lt_or_ge i a.2.1 with q | q
                  · exact q
                  · exact absurd ((nI_leI (by omega) hi).mpr q) hle
                exact ⟨nI (a.2.2.2 i), N, N2, s7 _ (by rw [if_neg hm1, q1, if_neg hle, ck_y (by omega) (by decide), cl hi, q3 i hi2]), s8 _ (by rw [if_neg hm1, p1, if_neg hle, ck_y (by omega) (by decide), cl hi, p3 i hi2]), w5⟩
        · exact s_bad (v := -10) h (by unfold f_X7_way; rw [row7_y hr, z10, k1, z10, k2, z10, if_neg hw]; rfl) (by unfold f_X8_way; rw [row8_y hr, z10, pl8_y hp, z10, pl8_y hg, z10, if_neg hw]; rfl)
      · exact s_bad (v := -10) h (by unfold f_X7_way; rw [row7_y hr, z10, k1, z10, bel_n (v := 6) hz rfl (by decide)]; rfl) (by unfold f_X8_way; rw [row8_y hr, z10, pl8_y hp, z10, pl8_n hz]; rfl)
    · exact s_bad (v := -10) h (by unfold f_X7_way; rw [row7_y hr, z10, bel_n (v := 6) hy rfl (by decide)]; rfl) (by unfold f_X8_way; rw [row8_y hr, z10, pl8_n hy]; rfl)
  · exact s_bad (v := -10) h (by unfold f_X7_way; rw [row7_n hx]; rfl) (by unfold f_X8_way; rw [row8_n hx]; rfl)
