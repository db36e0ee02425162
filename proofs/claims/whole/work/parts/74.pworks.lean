/-! ===== PURE: figures of rows, the reference ===== -/
def figI (gr : Nat → Nat) (va : Nat → Int32) (o g how : Nat) (i : Nat) : Int64 := if how = 1 then fgS gr va o g i else if how = 2 then lN (fgC gr o g i) else fgM gr va o g i
theorem lgc_le (x y : Int64) : (lg_cmp x y ≤ 0) ↔ ¬ y < x := by
  unfold lg_cmp
  by_cases h : x > y
  · rw [if_pos h]
    exact iff_of_false (by decide) (fun q => q h)
  · rw [if_neg h]
    refine iff_of_true ?_ h
    split <;> decide
theorem mRows {gr : Nat → Nat} {va : Nat → Int32} {x g how r : Nat} {τ : ST} (hx : x < 6) (hg : g < 8) (h1 : 1 ≤ how) (h3 : how ≤ 3) (hr : r ≤ 40) (e28 : gA τ 28 x = nI r) (hgr : ∀ i, i < r → gA τ 29 (40 * x + i) = nI (gr (40 * x + i)) ∧ gA τ 30 (40 * x + i) = va (40 * x + i) ∧ gr (40 * x + i) < 8) :
    ∀ d i n, i + d = r → d < n → fX11_ofRows_L12 n (nI how) (nI x) (nI g) (figI gr va (40 * x) g how i) (if fgC gr (40 * x) g i = 0 then 0 else 1) (nI (40 * x + i)) τ = some (figI gr va (40 * x) g how r, τ) := by
  intro d
  induction d with
  | zero =>
    intro i n hi hn
    obtain ⟨m, rfl⟩ : ∃ m, n = m + 1 := ⟨n - 1, by omega⟩
    have : i = r := by omega
    subst this
    rw [fX11_ofRows_L12, if_pos (ix_nI hx (by decide)), ldA_nI _ _ _ (by omega), e28, m40, if_pos (nI_le (Nat.le_refl _) (by omega))]
  | succ d ih =>
    intro i n hi hn
    obtain ⟨m, rfl⟩ : ∃ m, n = m + 1 := ⟨n - 1, by omega⟩
    obtain ⟨q1, q2, q3⟩ := hgr i (by omega)
    have i240 : ix (nI (40 * x + i)) 240 := ix_nI (by omega) (by decide)
    have hh := ih (i + 1) m (by omega) (by omega)
    rw [← Nat.add_assoc] at hh
    rw [fX11_ofRows_L12, if_pos (ix_nI hx (by decide)), ldA_nI _ _ _ (by omega), e28, m40, if_neg (nI_ge (by omega) (by omega)), if_pos i240, ldA_nI _ _ _ (by omega), q1]
    simp only [lt_def, if_pos i240, ldA_nI _ _ (40 * x + i) (show 40 * x + i < 2 ^ 31 by omega), q2, nI_1]
    have eg : (nI (gr (40 * x + i)) = nI g) ↔ gr (40 * x + i) = g := nI_eq (by omega) (by omega)
    by_cases c : gr (40 * x + i) = g
    · rw [if_pos (eg.mpr c)]
      have c' : fgC gr (40 * x) g (i + 1) = fgC gr (40 * x) g i + 1 := by rw [fgC, if_pos c]
      rw [c', if_neg (by omega)] at hh
      rcases (show how = 1 ∨ how = 2 ∨ how = 3 by omega) with rfl | rfl | rfl
      · rw [if_pos (show nI 1 = (1 : Int32) from rfl)]
        have e : figI gr va (40 * x) g 1 (i + 1) = figI gr va (40 * x) g 1 i + (va (40 * x + i)).toInt64 := by
          unfold figI; rw [if_pos rfl, if_pos rfl, fgS, if_pos c]
        rw [e] at hh; exact hh
      · rw [if_neg (show ¬ nI 2 = (1 : Int32) by decide), if_pos (show nI 2 = (2 : Int32) from rfl)]
        have e : figI gr va (40 * x) g 2 (i + 1) = figI gr va (40 * x) g 2 i + 1 := by
          unfold figI; rw [if_neg (by decide), if_pos rfl, if_neg (by decide), if_pos rfl, c', lN_1]
        rw [e] at hh; exact hh
      · rw [if_neg (show ¬ nI 3 = (1 : Int32) by decide), if_neg (show ¬ nI 3 = (2 : Int32) by decide)]
        have e : figI gr va (40 * x) g 3 (i + 1) = (if fgC gr (40 * x) g i = 0 then (va (40 * x + i)).toInt64 else if figI gr va (40 * x) g 3 i < (va (40 * x + i)).toInt64 then (va (40 * x + i)).toInt64 else figI gr va (40 * x) g 3 i) := by
          have f3 : ∀ j, figI gr va (40 * x) g 3 j = fgM gr va (40 * x) g j := fun j => rfl
          rw [f3, f3, fgM, if_pos c]
        rw [e] at hh
        by_cases z : fgC gr (40 * x) g i = 0
        · rw [if_pos z, if_pos rfl]
          rw [if_pos z] at hh; exact hh
        · rw [if_neg z, if_neg one_ne]
          rw [if_neg z] at hh
          by_cases l : figI gr va (40 * x) g 3 i < (va (40 * x + i)).toInt64
          · rw [if_neg (fun q => (lgc_le _ _).mp q l)]
            rw [if_pos l] at hh; exact hh
          · rw [if_pos ((lgc_le _ _).mpr l)]
            rw [if_neg l] at hh; exact hh
    · rw [if_neg (fun q => c (eg.mp q))]
      have c' : fgC gr (40 * x) g (i + 1) = fgC gr (40 * x) g i := by rw [fgC, if_neg c]
      have e : figI gr va (40 * x) g how (i + 1) = figI gr va (40 * x) g how i := by
        unfold figI; rw [c', fgS, fgM, if_neg c, if_neg c]
      rw [c', e] at hh
      exact hh
