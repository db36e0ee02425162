/-! ===== PURE: table, step, value, marks, hosts, reads ===== -/
theorem m7 (v j : Nat) : (7 : Int32) * nI v + nI j = nI (7 * v + j) := by rw [show (7 : Int32) = nI 7 from rfl, pk_mul, nI_add]
theorem m6 (v j : Nat) : (6 : Int32) * nI v + nI j = nI (6 * v + j) := by rw [show (6 : Int32) = nI 6 from rfl, pk_mul, nI_add]
theorem m8 (v j : Nat) : (8 : Int32) * nI v + nI j = nI (8 * v + j) := by rw [show (8 : Int32) = nI 8 from rfl, pk_mul, nI_add]
theorem m40 (v j : Nat) : (40 : Int32) * nI v + nI j = nI (40 * v + j) := by rw [show (40 : Int32) = nI 40 from rfl, pk_mul, nI_add]
theorem r8 (v j : Nat) : nI v * (8 : Int32) + nI j = nI (8 * v + j) := by rw [show (8 : Int32) = nI 8 from rfl, pk_mul, nI_add, Nat.mul_comm]
theorem r6 (v j : Nat) : nI v * (6 : Int32) + nI j = nI (6 * v + j) := by rw [show (6 : Int32) = nI 6 from rfl, pk_mul, nI_add, Nat.mul_comm]
theorem ifn {α : Type} {c : Prop} [Decidable c] {a b : α} (h : ¬ c) : (if c then a else b) = b := if_neg h
theorem sim_table (x y : Int32) : SimStep Rel0 (fX10_table x y) (fX11_table x y) := by
  intro t σ τ ht hR
  obtain ⟨a, hA, hB, hC, hD, hX, hM, hk⟩ := id hR
  unfold fX10_table fX11_table
  rcases ix_or (x := x) (n := 6) (by decide) with h | ⟨j, hj, rfl⟩
  · rw [xBelow_no (y := 6) (n := 6) rfl h, mTable_no h]
    simp only [Option.bind_some, if_true]
    exact ⟨-1, σ, τ, rfl, rfl, rel_same hR⟩
  · rw [xBelow_yes (y := 6) (n := 6) rfl hj (by decide), mTable_yes hj]
    have xt := hX.2.2.2.1.2.1 j hj
    have mt := hM.2.2.2.1.1 j hj
    have xs := hX.2.2.1 j hj
    have ms := hM.2.2.1 j hj
    simp only [Option.bind_some, if_neg one_ne, if_pos (ix_nI hj (show 6 < 2 ^ 31 by decide)), ldA_nI _ _ j (show j < 2 ^ 31 by omega), xt.1, xt.2.1, xt.2.2, mt.1, mt.2.1, mt.2.2, xs.1, xs.2, ms.1, ms.2]
    refine ⟨if y = 0 then nI (cN a 6 j) else if y = 1 then nI (cN a 8 j) else if y = 2 then nI (cN a 7 j) else if y = 3 then nI (cN a 9 j) else if y = 4 then nI (cN a 10 j) else -1, σ, τ, ?_, ?_, rel_same hR⟩
    · repeat' split
      all_goals rfl
    · repeat' split
      all_goals rfl
theorem xDone {a : AS} {j : Nat} {σ : ST} (hX : gI σ 20 = nI (cS a 6)) (hb : cS a 6 < 2 ^ 31) (hj : j < 32) : fX9_isDone (nI j) σ = some (if (cS a 6).testBit j then 1 else 0, σ) := by
  unfold fX9_isDone
  rw [hX]
  cases h : (cS a 6).testBit j
  · rw [if_pos ((bit_zero hb hj).mpr h)]; rfl
  · rw [if_neg (fun q => by rw [bit_zero hb hj, h] at q; cases q)]; rfl
theorem xWay {w j : Nat} {σ : ST} (hX : gI σ 21 = nI w) (hb : w < 2 ^ 31) (hj : j < 32) : fX9_isUnderWay (nI j) σ = some (if w.testBit j then 1 else 0, σ) := by
  unfold fX9_isUnderWay
  rw [hX]
  cases h : w.testBit j
  · rw [if_pos ((bit_zero hb hj).mpr h)]; rfl
  · rw [if_neg (fun q => by rw [bit_zero hb hj, h] at q; cases q)]; rfl
theorem nI_ne_m1 {n : Nat} (h : n < 2 ^ 31) : ¬ nI n = -1 := fun q => by
  have h1 := nI_toInt h
  rw [q] at h1
  simp at h1
  try omega
/-- is a step at a host? the reference's loop over three hosts -/
theorem mAtHost {a : AS} {k : Nat} {τ : ST} (hM : ∀ h, h < 3 → gA τ 33 h = if cN a 12 h = 0 then -1 else nI (cN a 12 h - 1)) (hb : ∀ h, h < 3 → cN a 12 h ≤ 7) (hk : k < 7) :
    fX11_isAtHost FU (nI k) τ = some (if cN a 12 0 = k + 1 ∨ cN a 12 1 = k + 1 ∨ cN a 12 2 = k + 1 then 1 else 0, τ) := by
  have hc : ∀ h, h < 3 → (gA τ 33 h = nI k ↔ cN a 12 h = k + 1) := by
    intro h hh
    have hbb := hb h hh
    rw [hM h hh]
    split
    · rename_i e
      constructor
      · intro q; exact absurd q.symm (nI_ne_m1 (by omega))
      · intro q; omega
    · rename_i e
      rw [nI_eq (by omega) (by omega)]; omega
  have step : ∀ (n h : Nat), h < 3 → fX11_isAtHost_L2 (n + 1) (nI k) (nI h) τ = if cN a 12 h = k + 1 then some (1, τ) else fX11_isAtHost_L2 n (nI k) (nI (h + 1)) τ := by
    intro n h hh
    rw [fX11_isAtHost_L2]
    rw [show (3 : Int32) = nI 3 from rfl, if_neg (nI_ge hh (by decide)), if_pos (ix_nI hh (by decide)), ldA_nI _ _ _ (by omega), lt_def, nI_1]
    by_cases e : cN a 12 h = k + 1
    · rw [if_pos ((hc h hh).mpr e), if_pos e]
    · rw [if_neg (fun q => e ((hc h hh).mp q)), if_neg e]
  have last : ∀ n, fX11_isAtHost_L2 (n + 1) (nI k) (nI 3) τ = some (0, τ) := by
    intro n
    rw [fX11_isAtHost_L2, show (3 : Int32) = nI 3 from rfl, if_pos (nI_le (Nat.le_refl 3) (by decide))]
  unfold fX11_isAtHost
  rw [lt_def, show (0 : Int32) = nI 0 from rfl, show FU = 999996 + 1 + 1 + 1 + 1 from rfl, step _ 0 (by decide), step _ 1 (by decide), step _ 2 (by decide), last]
  by_cases e0 : cN a 12 0 = k + 1
  · simp [e0]
  · by_cases e1 : cN a 12 1 = k + 1
    · simp [e0, e1]
    · by_cases e2 : cN a 12 2 = k + 1
      · simp [e0, e1, e2]
      · simp [e0, e1, e2]; rfl
theorem pif {α : Type} (c : Prop) [Decidable c] (x y : α) : (if (if c then (1 : Int32) else 0) = 0 then x else y) = if c then y else x := by
  by_cases h : c
  · rw [if_pos h, if_pos h, if_neg one_ne]
  · rw [if_neg h, if_neg h, if_pos rfl]
theorem some_ite {α : Type} {c : Prop} [Decidable c] (x y : α) (s : ST) : some ((if c then x else y), s) = if c then some (x, s) else some (y, s) := by
  by_cases h : c
  · rw [if_pos h, if_pos h]
  · rw [if_neg h, if_neg h]
theorem ite_cg {α : Type} {c : Prop} [Decidable c] {a b a' b' : α} (h1 : c → a = a') (h2 : ¬ c → b = b') : (if c then a else b) = if c then a' else b' := by
  by_cases h : c
  · rw [if_pos h, if_pos h, h1 h]
  · rw [if_neg h, if_neg h, h2 h]
theorem three {P : Nat → Prop} : (∃ h, h < 3 ∧ P h) ↔ (P 0 ∨ P 1 ∨ P 2) := by
  constructor
  · rintro ⟨h, hh, p⟩
    rcases (show h = 0 ∨ h = 1 ∨ h = 2 by omega) with rfl | rfl | rfl
    · exact Or.inl p
    · exact Or.inr (Or.inl p)
    · exact Or.inr (Or.inr p)
  · rintro (p | p | p)
    · exact ⟨0, by decide, p⟩
    · exact ⟨1, by decide, p⟩
    · exact ⟨2, by decide, p⟩
theorem pow_le_128 {n : Nat} (h : n ≤ 7) : 2 ^ n ≤ 128 := by
  have : 2 ^ n ≤ 2 ^ 7 := Nat.pow_le_pow_right (by decide) h
  omega
theorem sim_step (x y : Int32) : SimStep Rel0 (fX10_step x y) (fX11_step FU x y) := by
  intro t σ τ ht hR
  obtain ⟨a, hA, hB, hC, hD, hX, hM, hk⟩ := id hR
  have hK : cS a 1 ≤ 7 := hB.1.1
  obtain ⟨v, hv, m1, m2, mst, -⟩ := hM.2.2.2.2.2.1
  obtain ⟨x1, xb, xst, -⟩ := hX.2.2.2.2.2.1
  obtain ⟨xw1, xw2, xw3, ⟨w, hw, xw4, xw5⟩, xw6, xw7, xw8, xw9, xw10, xw11⟩ := hX.2.2.2.2.2.2.1
  obtain ⟨mw1, mw2, mw3, mw4, mw5, mw6, mw7, mw8⟩ := hM.2.2.2.2.2.2.1
  have hrb : cS a 5 < 128 := hB.1.2.1
  have hdb : cS a 6 < 128 := Nat.lt_of_lt_of_le hB.2.1.2.2.2 (pow_le_128 hK)
  have hat : ∀ h, h < 3 → cN a 12 h ≤ 7 := fun h hh => Nat.le_trans (hB.2.2.1 h hh) hK
  unfold fX10_step fX11_step
  rcases ix_or (x := x) (n := cS a 1) (by omega) with h | ⟨j, hj, rfl⟩
  · rw [xStep_no hX h, mStep_no hv m1 m2 h]
    simp only [Option.bind_some, if_true]
    exact ⟨-1, σ, τ, rfl, rfl, rel_same hR⟩
  · rw [xStep_yes x1 hK hj, mStep_yes hv m1 m2 hK hj]
    have xs := xst j hj
    have ms := mst j hj
    have h7 : 7 * v + j < 14 := by omega
    have wj : w.testBit j = decide (cN a 12 0 = j + 1 ∨ cN a 12 1 = j + 1 ∨ cN a 12 2 = j + 1) := by
      rw [Bool.eq_iff_iff, xw5 j (by omega), decide_eq_true_iff, three (P := fun h => cN a 12 h = j + 1)]
    have e9 : (cS a 6).testBit j = true → gA σ 55 j = nI (cN a 14 j) := xw9 j hj
    have e11 : (cN a 12 0 = j + 1 ∨ cN a 12 1 = j + 1 ∨ cN a 12 2 = j + 1) → gA σ 57 j = nI (cN a 16 j) := by
      rintro (q | q | q)
      · have := xw11 0 (by decide) (by omega); rw [q] at this; exact this
      · have := xw11 1 (by decide) (by omega); rw [q] at this; exact this
      · have := xw11 2 (by decide) (by omega); rw [q] at this; exact this
    have f11 : (cN a 12 0 = j + 1 ∨ cN a 12 1 = j + 1 ∨ cN a 12 2 = j + 1) → gA τ 37 j = nI (cN a 16 j) := by
      rintro (q | q | q)
      · have := mw8 0 (by decide) (by omega); rw [q] at this; exact this
      · have := mw8 1 (by decide) (by omega); rw [q] at this; exact this
      · have := mw8 2 (by decide) (by omega); rw [q] at this; exact this
    have n14 : (cS a 6).testBit j = true → ¬ nI (cN a 14 j) = -1 := fun q => nI_ne_m1 (by have := hB.2.2.2.2.2.2.1 j hj q; have := hB.2.1.1; omega)
    have d35 : ∀ {α : Type} (x y : α), (if (if (cS a 6).testBit j = true then nI (cN a 14 j) else -1) = -1 then x else y) = if (cS a 6).testBit j = true then y else x := by
      intro α x y
      by_cases b6 : (cS a 6).testBit j = true
      · rw [if_pos b6, if_pos b6, if_neg (n14 b6)]
      · rw [if_neg b6, if_neg b6, if_pos rfl]
    simp only [Option.bind_some, if_neg one_ne, lt_def, m1, m7, if_pos (ix_nI h7 (show 14 < 2 ^ 31 by decide)), if_pos (ix_nI (show j < 7 by omega) (show 7 < 2 ^ 31 by decide)), ldA_nI _ _ (7 * v + j) (show 7 * v + j < 2 ^ 31 by omega), ldA_nI _ _ j (show j < 2 ^ 31 by omega), xs.1, xs.2.1, xs.2.2.1, xs.2.2.2.2.2.1, ms.1, ms.2.1, ms.2.2.1, ms.2.2.2.1, ms.2.2.2.2.2.2.1, xw8 j hj, mw5 j hj, mw6 j hj, xIsRep xb hrb (show j < 7 by omega), xDone xw3 (show cS a 6 < 2 ^ 31 by omega) (show j < 32 by omega), xWay xw4 (show w < 2 ^ 31 by omega) (show j < 32 by omega), mAtHost mw3 hat (show j < 7 by omega), wj, pif, decide_eq_true_eq, d35]
    refine ⟨if y = 0 then (if (cS a 5).testBit j = true then 1 else 0) else if y = 1 then nI (cN a 0 j) else if y = 2 then nI (cN a 1 j) else if y = 3 then nI (cN a 2 j) else if y = 4 then nI (cN a 5 j) else if y = 5 then (if (cS a 6).testBit j = true then 2 else if cN a 12 0 = j + 1 ∨ cN a 12 1 = j + 1 ∨ cN a 12 2 = j + 1 then 1 else 0) else if y = 6 then (if (cS a 6).testBit j = true then nI (cN a 14 j) else -1) else if y = 7 then nI (cN a 15 j) else if y = 8 then (if cN a 12 0 = j + 1 ∨ cN a 12 1 = j + 1 ∨ cN a 12 2 = j + 1 then nI (cN a 16 j) else 0) else -1, σ, τ, ?_, ?_, rel_same hR⟩
    · simp only [some_ite]
      exact ite_cg (fun _ => rfl) fun _ => ite_cg (fun _ => rfl) fun _ => ite_cg (fun _ => rfl) fun _ => ite_cg (fun _ => rfl) fun _ => ite_cg (fun _ => rfl) fun _ => ite_cg (fun _ => rfl) fun _ => ite_cg (fun _ => ite_cg (fun q => by rw [e9 q]) (fun _ => rfl)) fun _ => ite_cg (fun _ => rfl) fun _ => ite_cg (fun _ => ite_cg (fun q => by rw [e11 q]) (fun _ => rfl)) fun _ => rfl
    · simp only [some_ite]
      exact ite_cg (fun _ => rfl) fun _ => ite_cg (fun _ => rfl) fun _ => ite_cg (fun _ => rfl) fun _ => ite_cg (fun _ => rfl) fun _ => ite_cg (fun _ => rfl) fun _ => ite_cg (fun _ => rfl) fun _ => ite_cg (fun _ => rfl) fun _ => ite_cg (fun _ => rfl) fun _ => ite_cg (fun _ => ite_cg (fun q => by rw [f11 q]) (fun _ => rfl)) fun _ => rfl
