/-! ===== PURE: the small calls ===== -/
/-- the codes of the steps: kinds, operands, heights of the stack -/
def cdB (a : AS) (k : Nat) : Nat := if k = 0 then 0 else cN a 21 (k - 1)
def htA (ck : Nat → Nat) (b : Nat) : Nat → Nat
  | 0 => 0
  | n + 1 => if ck (b + n) < 5 then htA ck b n + 1 else htA ck b n - 1
def wfD (a : AS) : Prop := ∀ k, k < cS a 1 → cdB a k ≤ cN a 21 k ∧ cN a 21 k ≤ cS a 9 ∧ htA (cN a 19) (cdB a k) (cN a 21 k - cdB a k) = 1 ∧
  ∀ i, i < cN a 21 k - cdB a k → cN a 19 (cdB a k + i) < 9 ∧ (5 ≤ cN a 19 (cdB a k + i) → 2 ≤ htA (cN a 19) (cdB a k) i) ∧
    (1 ≤ cN a 19 (cdB a k + i) → cN a 19 (cdB a k + i) ≤ 3 → cN a 20 (cdB a k + i) < 6) ∧ (cN a 19 (cdB a k + i) = 4 → cN a 20 (cdB a k + i) < k ∧ (cN a 4 k).testBit (cN a 20 (cdB a k + i)) = true) ∧ cN a 20 (cdB a k + i) < 10000
def mKeys (τ : ST) : Prop := gB τ 7 0 = 812503 ∧ gB τ 7 1 = 37549136 ∧ gB τ 7 2 = 1258393700 ∧ gB τ 7 3 = 6258 ∧ gB τ 7 4 = 1604747592 ∧ gB τ 7 5 = 26801 ∧ gB τ 7 6 = gB sM0 7 6 ∧ gB τ 7 7 = gB sM0 7 7 ∧ gB τ 7 8 = gB sM0 7 8
def Rel0 (t : Nat) (σ τ : ST) : Prop := ∃ a : AS, wfA t a ∧ wfB t a ∧ wfC t a ∧ wfD a ∧ XR a σ ∧ MR a τ ∧ mKeys τ
theorem wfA_mono {t : Nat} {a : AS} (h : wfA t a) : wfA (t + 1) a := ⟨h.1, h.2.1, ⟨h.2.2.1.1, fun x hx => ⟨Nat.le_succ_of_le (h.2.2.1.2 x hx).1, (h.2.2.1.2 x hx).2⟩⟩, h.2.2.2⟩
theorem wfC_mono {t : Nat} {a : AS} (h : wfC t a) : wfC (t + 1) a := ⟨h.1, fun i hi => Nat.le_trans (h.2.1 i hi) (by omega), h.2.2⟩
theorem wfB_mono {t : Nat} {a : AS} (h : wfB t a) : wfB (t + 1) a := h
theorem rel_same {t : Nat} {σ τ : ST} (h : Rel0 t σ τ) : Rel0 (t + 1) σ τ := by
  obtain ⟨a, hA, hB, hC, hD, hX, hM, hk⟩ := h
  exact ⟨a, wfA_mono hA, hB, wfC_mono hC, hD, hX, hM, hk⟩
theorem of_ix {x : Int32} {n : Nat} (hn : n < 2 ^ 31) (h0 : ¬ x < 0) (h1 : ¬ nI n ≤ x) : ∃ j, j < n ∧ x = nI j := by
  rcases pk_ix x hn with h | h | h
  · exact absurd h h0
  · exact absurd h h1
  · exact h
theorem sim_place : SimStep Rel0 fX10_place fX11_place := by
  intro t σ τ ht hR
  obtain ⟨a, hA, hB, hC, hD, hX, hM, hk⟩ := id hR
  refine ⟨gI σ 3, σ, τ, rfl, ?_, rel_same hR⟩
  unfold fX11_place
  rw [hM.2.1, ← hX.2.1]
theorem sim_back (x : Int32) : SimStep Rel0 (fX10_back x) (fX11_back x) := by
  intro t σ τ ht hR
  obtain ⟨a, hA, hB, hC, hD, hX, hM, hk⟩ := id hR
  have e1 : gI σ 0 = nI (cS a 0) := hX.1.1
  have e2 : gI τ 1 = nI (cS a 0) := hM.1.1
  have hl : cS a 0 ≤ 2000 := hA.1
  unfold fX10_back fX11_back
  rw [e1, e2]
  by_cases h0 : x < 0
  · rw [if_pos h0, if_pos h0]
    exact ⟨_, σ, τ, rfl, rfl, rel_same hR⟩
  · rw [if_neg h0, if_neg h0]
    by_cases h1 : x ≤ nI (cS a 0)
    · rw [if_pos h1, if_pos h1]
      obtain ⟨j, hj, rfl⟩ := nI_of2 (n := cS a 0) (nI_toInt (by omega)) h0 h1
      rw [pk_sub hj]
      refine ⟨nI (cS a 0 - j), sI σ 0 (nI (cS a 0 - j)), sI τ 1 (nI (cS a 0 - j)), rfl, rfl, tS a 0 (cS a 0 - j), ?_, ?_, ?_, ?_, ?_, ?_, ?_⟩
      · have := wfA_mono hA
        simp only [wfA, cS_tS, cN_tS] at this ⊢
        simp only [if_true, Nat.reduceEqDiff, if_false, reduceCtorEq] at this ⊢
        exact ⟨by simp; omega, this.2⟩
      · exact hB
      · exact wfC_mono hC
      · exact hD
      · exact ⟨⟨rfl, fun i hi => hX.1.2 i (by simp only [cS_tS, if_true] at hi; omega)⟩, hX.2⟩
      · exact ⟨⟨rfl, fun i hi => hM.1.2 i (by simp only [cS_tS, if_true] at hi; omega)⟩, hM.2⟩
      · exact hk
    · rw [if_neg h1, if_neg h1]
      exact ⟨_, σ, τ, rfl, rfl, rel_same hR⟩
