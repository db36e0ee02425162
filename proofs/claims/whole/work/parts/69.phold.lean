/-! ===== PURE: offers keep the numbers; hold ===== -/
def wfCm (m : Nat) (a : AS) : Prop :=
  (∀ k, k < 7 → cN a 17 k < 2 ^ cS a 2 ∧ (cN a 17 k ≠ 0 → k < cS a 1 ∧ (cS a 5).testBit k = true)) ∧ (∀ i, i < 42 → cN a 18 i ≤ m) ∧ cS a 10 = sumTo (cN a 18) 42 ∧
  (∀ k r g, k < 7 → r < 6 → g < 8 → (cS a 5).testBit k = false → cL a 1 (8 * (6 * k + r) + g) = 0)
theorem sumTo_uN {f : Nat → Nat} {c m : Nat} : ∀ n, sumTo (uN f c (f c + m)) n = sumTo f n + (if c < n then m else 0) := by
  intro n
  induction n with
  | zero => rfl
  | succ n ih =>
    rw [sumTo, sumTo, ih, uN_at]
    by_cases e : n = c
    · subst e
      rw [if_pos rfl, if_neg (Nat.lt_irrefl n), if_pos (Nat.lt_succ_self n)]; omega
    · rw [if_neg e]
      by_cases h : c < n
      · rw [if_pos h, if_pos (by omega)]; omega
      · rw [if_neg h, if_neg (by omega)]; omega
theorem offer_wfC {m : Nat} {a : AS} {k r : Nat} (hk : k < 7) (hr : r < 6) (hrep : (cS a 5).testBit k = true) (hC : wfCm m a) : wfCm (m + 1) (aOffer a k r) := by
  obtain ⟨c1, c2, c3, c4⟩ := hC
  have hg : goesN a k r ≤ 1 := by unfold goesN; split <;> omega
  refine ⟨c1, fun i hi => ?_, ?_, fun k' r' g hk' hr' hg' z => ?_⟩
  · show uN (cN a 18) (6 * k + r) (cN a 18 (6 * k + r) + goesN a k r) i ≤ m + 1
    rw [uN_at]
    have := c2 i hi
    have := c2 (6 * k + r) (by omega)
    split <;> omega
  · show cS a 10 + goesN a k r = sumTo (uN (cN a 18) (6 * k + r) (cN a 18 (6 * k + r) + goesN a k r)) 42
    rw [sumTo_uN, if_pos (by omega), c3]
  · show (if 8 * (6 * k + r) ≤ 8 * (6 * k' + r') + g ∧ 8 * (6 * k' + r') + g < 8 * (6 * k + r) + 8 then seenOf (cN a 11 r) (cL a 0) k (8 * (6 * k' + r') + g - 8 * (6 * k + r)) else cL a 1 (8 * (6 * k' + r') + g)) = 0
    have hne : k ≠ k' := fun e => by
      subst e
      have z' : (cS a 5).testBit k = false := z
      rw [hrep] at z'; cases z'
    rw [if_neg (by omega)]
    exact c4 k' r' g hk' hr' hg' z
def catchN (a : AS) (r : Nat) : Nat → AS
  | 0 => a
  | s + 1 => if (cN a 17 s).testBit r = true ∧ (cS a 6).testBit s = true then aOffer (catchN a r s) s r else catchN a r s
theorem catchN_same (a : AS) (r : Nat) : ∀ s, cN (catchN a r s) 17 = cN a 17 ∧ cS (catchN a r s) 6 = cS a 6 ∧ cS (catchN a r s) 1 = cS a 1 ∧ cS (catchN a r s) 2 = cS a 2 ∧ cN (catchN a r s) 11 = cN a 11 ∧ cS (catchN a r s) 5 = cS a 5 := by
  intro s
  induction s with
  | zero => exact ⟨rfl, rfl, rfl, rfl, rfl, rfl⟩
  | succ s ih =>
    rw [catchN]
    split
    · exact ih
    · exact ih
theorem catchN_wf {t m : Nat} {a : AS} {r : Nat} (hr : r < 6) (hA : wfA t a) (hB : wfB t a) (hC : wfCm m a) (hD : wfD a) : ∀ s, s ≤ 7 → wfA t (catchN a r s) ∧ wfB t (catchN a r s) ∧ wfCm (m + s) (catchN a r s) ∧ wfD (catchN a r s) := by
  intro s
  induction s with
  | zero => intro _; exact ⟨hA, hB, hC, hD⟩
  | succ s ih =>
    intro hs
    obtain ⟨h1, h2, h3, h4⟩ := ih (by omega)
    rw [catchN]
    split
    · rename_i c
      have hrep : (cS (catchN a r s) 5).testBit s = true := by
        rw [(catchN_same a r s).2.2.2.2.2]
        exact ((hC.1 s (by omega)).2 (fun q => by rw [q, Nat.zero_testBit] at c; exact absurd c.1 (by decide))).2
      exact ⟨h1, h2, offer_wfC (by omega) hr hrep h3, h4⟩
    · exact ⟨h1, h2, ⟨h3.1, fun i hi => Nat.le_trans (h3.2.1 i hi) (by omega), h3.2.2⟩, h4⟩
theorem xCatch {t m : Nat} {a : AS} {r : Nat} (hA : wfA t a) (hB : wfB t a) (hC : wfCm m a) (hD : wfD a) (hr : r < cS a 2) (hm : m ≤ 20000) : ∀ d s n σ, s + d = 7 → d + 100 < n → XR (catchN a r s) σ → ∃ σ', fX3_catchUp_L2 n (nI r) (nI (cS a 6)) (nI s) σ = some σ' ∧ XR (catchN a r 7) σ' := by
  have hn6 : cS a 2 ≤ 6 := hA.2.2.2.1
  have hK : cS a 1 ≤ 7 := hB.1.1
  have hdb : cS a 6 < 128 := Nat.lt_of_lt_of_le hB.2.1.2.2.2 (pow_le_128 hK)
  intro d
  induction d with
  | zero =>
    intro s n σ hs hn hX
    obtain ⟨m', rfl⟩ : ∃ m', n = m' + 1 := ⟨n - 1, by omega⟩
    have : s = 7 := by omega
    subst this
    exact ⟨σ, by rw [fX3_catchUp_L2, show (7 : Int32) = nI 7 from rfl, if_pos (nI_le (Nat.le_refl 7) (by decide))], hX⟩
  | succ d ih =>
    intro s n σ hs hn hX
    obtain ⟨m', rfl⟩ : ∃ m', n = m' + 1 := ⟨n - 1, by omega⟩
    have hs7 : s < 7 := by omega
    obtain ⟨q1, q2, q3, q4, q5, q6⟩ := catchN_same a r s
    obtain ⟨w1, w2, w3, w4⟩ := catchN_wf (by omega) hA hB hC hD s (by omega) (r := r)
    have h17 : cN a 17 s < 64 := Nat.lt_of_lt_of_le (hC.1 s hs7).1 (pow_le_64 hn6)
    rw [fX3_catchUp_L2, if_neg (show ¬ (7 : Int32) ≤ nI s from nI_ge hs7 (by decide)), xIsRead (a := catchN a r s) hX.2.2.2.2.2.2.2.2.1 (by rw [q1]; omega) hs7 (by omega)]
    simp only [Option.bind_some, pif, lt_def, q1]
    rw [nI_1]
    have hstep := catchN.eq_2 a r s
    by_cases c1 : (cN a 17 s).testBit r = true
    · rw [if_pos c1]
      by_cases c2 : (cS a 6).testBit s = true
      · rw [if_neg (fun q => by rw [bit_zero (by omega) (by omega), c2] at q; cases q)]
        have hsK : s < cS a 1 := by
          rcases Nat.lt_or_ge s (cS a 1) with z | z
          · exact z
          · rw [Nat.testBit_lt_two_pow (Nat.lt_of_lt_of_le hB.2.1.2.2.2 (Nat.pow_le_pow_right (by decide) z))] at c2; cases c2
        obtain ⟨σ1, r1, -, r3⟩ := xOffer (n := m') (by omega) (a := catchN a r s) hs7 (by rw [q3]; exact hsK) (by rw [q4]; exact hr) (by rw [q4]; exact hn6) (by rw [q5]; exact hA.2.2.2.2.2 r hr) (by have := w3.2.1 (6 * s + r) (by omega); omega) (by rw [q2]; exact c2) hX
        rw [r1, Option.bind_some]
        rw [if_pos ⟨c1, c2⟩] at hstep
        exact ih (s + 1) m' σ1 (by omega) (by omega) (by rw [hstep]; exact r3)
      · rw [if_pos ((bit_zero (by omega) (by omega)).mpr (by simpa using c2))]
        rw [if_neg (fun z => c2 z.2)] at hstep
        exact ih (s + 1) m' σ (by omega) (by omega) (by rw [hstep]; exact hX)
    · rw [if_neg c1]
      rw [if_neg (fun z => c1 z.1)] at hstep
      exact ih (s + 1) m' σ (by omega) (by omega) (by rw [hstep]; exact hX)
