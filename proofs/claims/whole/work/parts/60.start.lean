/-! the law's world: all cells, the memory as it comes; the text's words -/
def adr (a a2 : Nat → Nat) (k : Nat) : Nat := if k < 63 then a k else a2 (k - 63)
abbrev EE (D : va_G) (cI cJ cZ cR : ClassId) (a a2 : Nat → Nat) (sp : (Nat → Nat) × (Nat → Nat)) : En := (adr a a2, D, (cI, cJ, cZ, cR), sp)
def M0 : Mem := (fun _ _ => 0, fun k i => zg k i)
theorem cel_lo {D : va_G} {cI cJ cZ cR : ClassId} {a a2 : Nat → Nat} {sp : (Nat → Nat) × (Nat → Nat)} {f : Nat → Int32} {g : Nat → Int64} : ∀ k, k < 63 → cel (EE D cI cJ cZ cR a a2 sp) k f g = cel (E0 D cI cJ cZ cR a) k f g
  | 0, _ => rfl
  | 1, _ => rfl
  | 2, _ => rfl
  | 3, _ => rfl
  | 4, _ => rfl
  | 5, _ => rfl
  | 6, _ => rfl
  | 7, _ => rfl
  | 8, _ => rfl
  | 9, _ => rfl
  | 10, _ => rfl
  | 11, _ => rfl
  | 12, _ => rfl
  | 13, _ => rfl
  | 14, _ => rfl
  | 15, _ => rfl
  | 16, _ => rfl
  | 17, _ => rfl
  | 18, _ => rfl
  | 19, _ => rfl
  | 20, _ => rfl
  | 21, _ => rfl
  | 22, _ => rfl
  | 23, _ => rfl
  | 24, _ => rfl
  | 25, _ => rfl
  | 26, _ => rfl
  | 27, _ => rfl
  | 28, _ => rfl
  | 29, _ => rfl
  | 30, _ => rfl
  | 31, _ => rfl
  | 32, _ => rfl
  | 33, _ => rfl
  | 34, _ => rfl
  | 35, _ => rfl
  | 36, _ => rfl
  | 37, _ => rfl
  | 38, _ => rfl
  | 39, _ => rfl
  | 40, _ => rfl
  | 41, _ => rfl
  | 42, _ => rfl
  | 43, _ => rfl
  | 44, _ => rfl
  | 45, _ => rfl
  | 46, _ => rfl
  | 47, _ => rfl
  | 48, _ => rfl
  | 49, _ => rfl
  | 50, _ => rfl
  | 51, _ => rfl
  | 52, _ => rfl
  | 53, _ => rfl
  | 54, _ => rfl
  | 55, _ => rfl
  | 56, _ => rfl
  | 57, _ => rfl
  | 58, _ => rfl
  | 59, _ => rfl
  | 60, _ => rfl
  | 61, _ => rfl
  | 62, _ => rfl
  | k + 63, h => absurd h (by omega)
theorem cel_hi {D : va_G} {cI cJ cZ cR : ClassId} {a a2 : Nat → Nat} {sp : (Nat → Nat) × (Nat → Nat)} {f : Nat → Int32} {g : Nat → Int64} : ∀ k, k < 18 → cel (EE D cI cJ cZ cR a a2 sp) (63 + k) f g = cel (E0 D cI cJ cZ cI (fun j => a2 (j - 63))) (63 + k) f g
  | 0, _ => rfl
  | 1, _ => rfl
  | 2, _ => rfl
  | 3, _ => rfl
  | 4, _ => rfl
  | 5, _ => rfl
  | 6, _ => rfl
  | 7, _ => rfl
  | 8, _ => rfl
  | 9, _ => rfl
  | 10, _ => rfl
  | 11, _ => rfl
  | 12, _ => rfl
  | 13, _ => rfl
  | 14, _ => rfl
  | 15, _ => rfl
  | 16, _ => rfl
  | 17, _ => rfl
  | k + 18, h => absurd h (by omega)
theorem w_eq {D : va_G} {cI cJ cZ cR : ClassId} {a a2 : Nat → Nat} {sp : (Nat → Nat) × (Nat → Nat)} : wl (EE D cI cJ cZ cR a a2 sp) M0 = bnW D cI cJ cZ cR a ++ mdW D cI cJ cZ a2 := by
  apply List.ext_getElem?
  intro k
  have hb : (bnW D cI cJ cZ cR a).length = 63 := by simp [bnW]
  by_cases hk : k < 81
  · rw [wl_get (show k < nCell from hk)]
    by_cases h63 : k < 63
    · rw [List.getElem?_append_left (by rw [hb]; exact h63)]
      have e1 : (EE D cI cJ cZ cR a a2 sp).1 k = a k := if_pos h63
      rw [e1, cel_lo k h63]
      simp [bnW, h63]
      rfl
    · rw [List.getElem?_append_right (by rw [hb]; omega), hb]
      obtain ⟨j, rfl⟩ : ∃ j, k = 63 + j := ⟨k - 63, by omega⟩
      have e1 : (EE D cI cJ cZ cR a a2 sp).1 (63 + j) = a2 j := by
        show (if 63 + j < 63 then _ else a2 (63 + j - 63)) = _
        rw [if_neg h63, show 63 + j - 63 = j by omega]
      rw [e1, cel_hi j (by omega), show 63 + j - 63 = j by omega]
      simp [mdW, show j < 18 by omega]
      rfl
  · rw [List.getElem?_eq_none (by rw [wl_len]; exact Nat.le_of_not_lt hk), List.getElem?_eq_none]
    simp [bnW, mdW]
    omega
theorem inv0 : Inv M0 := by
  refine ⟨⟨0, 0, 0, 0, ⟨by omega, by omega, by omega, by omega⟩, ⟨rfl, rfl⟩, ⟨rfl, rfl⟩, ⟨rfl, rfl⟩, ⟨rfl, rfl⟩, fun k hk => absurd hk (by omega), fun r _ => nr0, fun k hk => absurd hk (by omega), fun k hk => absurd hk (by omega)⟩, ⟨0, by omega, rfl, rfl, fun k hk => absurd hk (by omega)⟩, Or.inl ⟨rfl, rfl⟩, Or.inl ⟨rfl, rfl⟩, ⟨rfl, rfl⟩, rfl, rfl, rfl⟩
abbrev stT (i : Nat) : Term := .string "BridgeNames$Reader" (if i = 0 then 88 else if i = 1 then 94 else 96)
theorem so_of {s : State} {args : Array Value} (hts : ∀ w ∈ lw_tbl, w.before args s = true) (hgv : (Jvm.Cond.and given_1 narrow_1).before args s = true) : ∃ adK adV : Nat → Nat, vk_S 3 sLen sByt adK adV (fun q => s.heap.size ≤ q) s s.heap ∧ vk_R "BridgeNames$Reader" 88 "river" (adK 0) s ∧ vk_R "BridgeNames$Reader" 94 "bridge" (adK 1) s ∧ vk_R "BridgeNames$Reader" 96 "row" (adK 2) s
  ∧ va_Z "java/lang/String" "COMPACT_STRINGS" "Z" (.int 1) (fun q => s.heap.size ≤ q) s s.heap ∧ ∃ v : Value, (v = .null ∨ ∃ q, v = .ref q) ∧ va_Z "jdk/internal/util/Preconditions" "SIOOBE_FORMATTER" "Ljava/util/function/BiFunction;" v (fun q => s.heap.size ≤ q) s s.heap := by
  have hs := flat_of_before _ hgv
  have hA : ∀ a : Nat, a < s.heap.size → ¬ (fun q => s.heap.size ≤ q) a := fun a h => Nat.not_le.mpr h
  have c3 : ∀ {P : Nat → Prop}, P 0 → P 1 → P 2 → ∀ i, i < 3 → P i := fun h0 h1 h2 i hi => by
    rcases (show i = 0 ∨ i = 1 ∨ i = 2 by omega) with rfl | rfl | rfl
    · exact h0
    · exact h1
    · exact h2
  obtain ⟨adK, adV, hS, hev⟩ := vk_Sof (args := args) (s := s) (N := 3) (tm := stT) (len := sLen) (byt := sByt) (A := fun q => s.heap.size ≤ q)
    (c3 (by decide) (by decide) (by decide))
    (c3 (hs _ (by decide +kernel)) (hs _ (by decide +kernel)) (hs _ (by decide +kernel)))
    (c3 (hs _ (by decide +kernel)) (hs _ (by decide +kernel)) (hs _ (by decide +kernel)))
    (c3 (hs _ (by decide +kernel)) (hs _ (by decide +kernel)) (hs _ (by decide +kernel)))
    (c3 (hs _ (by decide +kernel)) (hs _ (by decide +kernel)) (hs _ (by decide +kernel)))
    (c3 (fun j hj => by
        rcases (show j = 0 ∨ j = 1 ∨ j = 2 ∨ j = 3 ∨ j = 4 by have : j < 5 := hj; omega) with rfl | rfl | rfl | rfl | rfl <;> exact hs _ (by decide +kernel))
      (fun j hj => by
        rcases (show j = 0 ∨ j = 1 ∨ j = 2 ∨ j = 3 ∨ j = 4 ∨ j = 5 by have : j < 6 := hj; omega) with rfl | rfl | rfl | rfl | rfl | rfl <;> exact hs _ (by decide +kernel))
      (fun j hj => by
        rcases (show j = 0 ∨ j = 1 ∨ j = 2 by have : j < 3 := hj; omega) with rfl | rfl | rfl <;> exact hs _ (by decide +kernel)))
    (fun i j hi hj hne => by
      rcases (show i = 0 ∨ i = 1 ∨ i = 2 by omega) with rfl | rfl | rfl <;> rcases (show j = 0 ∨ j = 1 ∨ j = 2 by omega) with rfl | rfl | rfl
      · exact absurd rfl hne
      · exact Or.inl (hs _ (by decide +kernel))
      · exact Or.inl (hs _ (by decide +kernel))
      · exact Or.inr (hs _ (by decide +kernel))
      · exact absurd rfl hne
      · exact Or.inl (hs _ (by decide +kernel))
      · exact Or.inr (hs _ (by decide +kernel))
      · exact Or.inr (hs _ (by decide +kernel))
      · exact absurd rfl hne) hA
  obtain ⟨v, hv, hvr⟩ := Cond.isRef_spec (hs (.isRef (.static "jdk/internal/util/Preconditions" "SIOOBE_FORMATTER" "Ljava/util/function/BiFunction;")) (by decide +kernel))
  refine ⟨adK, adV, hS, vk_R.of (hts _ (List.mem_of_getElem? (i := 383) (by decide +kernel))) (hev 0 (by decide)), vk_R.of (hts _ (List.mem_of_getElem? (i := 436) (by decide +kernel))) (hev 1 (by decide)), vk_R.of (hts _ (List.mem_of_getElem? (i := 437) (by decide +kernel))) (hev 2 (by decide)), ?_, v, ?_, ?_⟩
  · exact va_Zof (hts _ (List.mem_of_getElem? (i := 397) (by decide +kernel))) (hts _ (List.mem_of_getElem? (i := 57) (by decide +kernel))) (va_eqi (hs _ (by decide +kernel))) hA
  · cases v with
    | null => exact Or.inl rfl
    | ref q => exact Or.inr ⟨q, rfl⟩
    | _ => exact absurd (show false = true from hvr) (by decide)
  · exact va_Zof (hts _ (List.mem_of_getElem? (i := 413) (by decide +kernel))) (hts _ (List.mem_of_getElem? (i := 59) (by decide +kernel))) hv hA
