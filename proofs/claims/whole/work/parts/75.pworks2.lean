/-! ===== PURE: put of the reference ===== -/
def mRowsOk (a : AS) (τ : ST) : Prop := ∀ x, x < 6 → gA τ 28 x = nI (cN a 8 x) ∧ cN a 8 x ≤ 40 ∧ ∀ i, i < cN a 8 x → gA τ 29 (40 * x + i) = nI (cN a 23 (40 * x + i)) ∧ gA τ 30 (40 * x + i) = cI a 3 (40 * x + i) ∧ cN a 23 (40 * x + i) < 8
theorem mOfRows {a : AS} {τ : ST} {x g how n : Nat} (hn : 100 ≤ n) (hR : mRowsOk a τ) (hx : x < 6) (hg : g < 8) (h1 : 1 ≤ how) (h3 : how ≤ 3) : fX11_ofRows n (nI how) (nI x) (nI g) τ = some (figA a g how x, τ) := by
  obtain ⟨r1, r2, r3⟩ := hR x hx
  have h := mRows (gr := cN a 23) (va := cI a 3) hx hg h1 h3 r2 r1 r3 (cN a 8 x) 0 n (Nat.zero_add _) (by omega)
  have e0 : figI (cN a 23) (cI a 3) (40 * x) g how 0 = 0 := by
    rcases (show how = 1 ∨ how = 2 ∨ how = 3 by omega) with rfl | rfl | rfl <;> rfl
  have e1 : figI (cN a 23) (cI a 3) (40 * x) g how (cN a 8 x) = figA a g how x := rfl
  rw [e0, e1, Nat.add_zero] at h
  unfold fX11_ofRows
  rw [lt_def, lt_def, lt_def, show (40 : Int32) * nI x = nI (40 * x) from by rw [show (40 : Int32) = nI 40 from rfl, pk_mul]]
  exact h
theorem mPut {a : AS} {k v top : Nat} (hk : k < 5) (hv : v < 10000) (hf : 1 ≤ k → k ≤ 3 → v < 6) (hp : k = 4 → v < 7) (ht : top < 500) : ∀ d g n τ, g + d = 8 → d + 100 < n → mRowsOk a τ → (k = 4 → ∀ g, g < 8 → gB τ 38 (8 * v + g) = cL a 0 (8 * v + g)) → ∃ τ', fX11_put__L3 n (nI top) (nI k) (nI v) (nI g) τ = some τ' ∧ fr [] [] [43] τ τ' ∧ ∀ i, gB τ' 43 i = if 8 * top + g ≤ i ∧ i < 8 * top + 8 then leafL (figA a (i - 8 * top)) (fun w => cL a 0 (8 * w + (i - 8 * top))) k v else gB τ 43 i := by
  intro d
  induction d with
  | zero =>
    intro g n τ hg hn hR h38
    obtain ⟨m, rfl⟩ : ∃ m, n = m + 1 := ⟨n - 1, by omega⟩
    have : g = 8 := by omega
    subst this
    refine ⟨τ, ?_, fr_rf, fun i => ?_⟩
    · rw [fX11_put__L3, show (8 : Int32) = nI 8 from rfl, if_pos (nI_le (Nat.le_refl 8) (by decide))]
    · rw [if_neg (by omega)]
  | succ d ih =>
    intro g n τ hg hn hR h38
    obtain ⟨m, rfl⟩ : ∃ m, n = m + 1 := ⟨n - 1, by omega⟩
    have hg8 : g < 8 := by omega
    have i4000 : ix (nI (8 * top + g)) 4000 := ix_nI (by omega) (by decide)
    have key : ∀ z : Int64, z = leafL (figA a g) (fun w => cL a 0 (8 * w + g)) k v → ∃ τ', fX11_put__L3 m (nI top) (nI k) (nI v) (nI (g + 1)) (sB τ 43 (vp_updL (gB τ 43) (8 * top + g) z)) = some τ' ∧ fr [] [] [43] τ τ' ∧ ∀ i, gB τ' 43 i = if 8 * top + g ≤ i ∧ i < 8 * top + 8 then leafL (figA a (i - 8 * top)) (fun w => cL a 0 (8 * w + (i - 8 * top))) k v else gB τ 43 i := by
      intro z hz
      obtain ⟨τ', r1, r2, r3⟩ := ih (g + 1) m (sB τ 43 (vp_updL (gB τ 43) (8 * top + g) z)) (by omega) (by omega) hR h38
      refine ⟨τ', r1, fr_tr (fr_sB fr_rf (by decide)) r2, fun i => ?_⟩
      rw [r3 i, gB_sB, if_pos rfl, updL_at]
      by_cases e : i = 8 * top + g
      · rw [if_neg (by omega), if_pos e, if_pos (by omega), hz, show i - 8 * top = g by omega]
      · rw [if_neg e]
        by_cases c : 8 * top + g ≤ i ∧ i < 8 * top + 8
        · rw [if_pos (by omega), if_pos c]
        · rw [if_neg (by omega), if_neg c]
    rw [fX11_put__L3, if_neg (show ¬ (8 : Int32) ≤ nI g from nI_ge hg8 (by decide))]
    simp only [lt_def, m8, if_pos i4000, stB_nI _ _ (8 * top + g) _ (show 8 * top + g < 2 ^ 31 by omega), nI_1]
    rcases (show k = 0 ∨ (1 ≤ k ∧ k ≤ 3) ∨ k = 4 by omega) with rfl | ⟨a1, a3⟩ | rfl
    · rw [if_neg (show ¬ nI 0 = (4 : Int32) by decide), if_pos (show nI 0 ≤ (0 : Int32) by decide)]
      exact key _ rfl
    · have n4 : ¬ nI k = (4 : Int32) := fun q => by rw [show (4 : Int32) = nI 4 from rfl, nI_eq (by omega) (by decide)] at q; omega
      rw [if_neg n4, if_neg (nI_nle (by omega) (by omega)), if_neg (show ¬ (4 : Int32) ≤ nI k from nI_ge (show k < 4 by omega) (by decide)), mOfRows (by omega) hR (hf a1 a3) hg8 a1 a3, Option.bind_some]
      exact key _ (by unfold leafL; rw [if_neg (by omega), if_neg (by omega)])
    · have i56 : ix (nI (8 * v + g)) 56 := ix_nI (by have := hp rfl; omega) (by decide)
      rw [if_pos (show nI 4 = (4 : Int32) from rfl), if_pos i56, if_neg (show ¬ nI 4 ≤ (0 : Int32) by decide), if_pos (show (4 : Int32) ≤ nI 4 by decide), ldB_nI _ _ _ (by have := hp rfl; omega), h38 rfl g hg8]
      exact key _ rfl
