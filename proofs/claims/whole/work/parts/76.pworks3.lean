/-! ===== PURE: works of the reference ===== -/
def mPile (τ : ST) (len : Nat) (ss : Nat → List Int64) : Prop := ∀ g, g < 8 → (ss g).length = len ∧ ∀ j, j < len → gB τ 43 (8 * j + g) = (ss g).getD (len - 1 - j) 0
theorem mPut2 {a : AS} {k v top n : Nat} {τ : ST} {ss : Nat → List Int64} (hn : 200 ≤ n) (hk : k < 5) (hv : v < 10000) (hf : 1 ≤ k → k ≤ 3 → v < 6) (hp : k = 4 → v < 7) (ht : top < 500) (hR : mRowsOk a τ) (h38 : k = 4 → ∀ g, g < 8 → gB τ 38 (8 * v + g) = cL a 0 (8 * v + g)) (hs : mPile τ top ss) : ∃ τ', fX11_put_ n (nI top) (nI k) (nI v) τ = some τ' ∧ fr [] [] [43] τ τ' ∧ mPile τ' (top + 1) (fun g => stepL (figA a g) (fun w => cL a 0 (8 * w + g)) k v (ss g)) := by
  obtain ⟨τ', r1, r2, r3⟩ := mPut (a := a) hk hv hf hp ht 8 0 n τ (by decide) (by omega) hR h38
  refine ⟨τ', ?_, r2, fun g hg => ?_⟩
  · unfold fX11_put_
    rw [lt_def]
    exact r1
  · obtain ⟨h1, h2⟩ := hs g hg
    have e : stepL (figA a g) (fun w => cL a 0 (8 * w + g)) k v (ss g) = leafL (figA a g) (fun w => cL a 0 (8 * w + g)) k v :: ss g := by
      unfold stepL; rw [if_pos hk]
    show (stepL (figA a g) (fun w => cL a 0 (8 * w + g)) k v (ss g)).length = top + 1 ∧ ∀ j, j < top + 1 → gB τ' 43 (8 * j + g) = (stepL (figA a g) (fun w => cL a 0 (8 * w + g)) k v (ss g)).getD (top + 1 - 1 - j) 0
    rw [e]
    refine ⟨by rw [List.length_cons, h1], fun j hj => ?_⟩
    rw [r3]
    by_cases c : j = top
    · subst c
      rw [if_pos (by omega), show 8 * j + g - 8 * j = g by omega, show j + 1 - 1 - j = 0 by omega]; rfl
    · rw [if_neg (by omega), h2 j (by omega), show top + 1 - 1 - j = (top - 1 - j) + 1 by omega]; rfl
