/-! ===== PURE: tick: a host works ===== -/
theorem nI_lt_iff {x y : Nat} (hx : x < 2 ^ 31) (hy : y < 2 ^ 31) : (nI x < nI y) ↔ x < y := by
  constructor
  · intro h
    rcases Nat.lt_or_ge x y with z | z
    · exact z
    · exact absurd h (Int32.not_lt.mpr (nI_le z hx))
  · intro h; exact nI_lt h hy
theorem nI_le_iff {x y : Nat} (hx : x < 2 ^ 31) (hy : y < 2 ^ 31) : (nI x ≤ nI y) ↔ x ≤ y := by
  constructor
  · intro h
    rcases Nat.lt_or_ge y x with z | z
    · exact absurd h (nI_ge z hx)
    · exact z
  · intro h; exact nI_le h hy
theorem xWork0 {n h : Nat} {a : AS} {σ : ST} (hh : h < 3) (h0 : cN a 12 h = 0) (hX : XR a σ) : fX9_workAt n (nI h) σ = some σ := by
  have e := hX.2.2.2.2.2.2.1.2.2.2.2.1 h hh
  rw [if_pos h0] at e
  unfold fX9_workAt
  rw [if_pos (ix_nI hh (by decide)), ldA_nI _ _ _ (by omega), e, lt_def, xStep_no hX (Or.inl (by decide)), Option.bind_some]
  rfl
theorem xWork1 {n h k : Nat} {a : AS} {σ : ST} (hh : h < 3) (hk : cN a 12 h = k + 1) (hw : cN a 16 k + 1 < cN a 0 k) (hB : wfBg 0 0 a) (hX : XR a σ) : ∃ σ', fX9_workAt n (nI h) σ = some σ' ∧ XR (aWk a k) σ' := by
  obtain ⟨b1, b2, b3, b4, b5, b6, b7, b8, b9, b10⟩ := hB
  have hkK : k < cS a 1 := by have := b3 h hh; omega
  have hk7 : k < 7 := by omega
  have bt := b1.2.2.2 k hkK
  obtain ⟨xT, xP, xS, xTb, xR, xSc, ⟨y18, y19, y20, yw, y53, y54, y56, y55, y45, y57⟩, xPo⟩ := hX
  have e53 := y53 h hh
  rw [if_neg (by omega), hk, Nat.add_sub_cancel] at e53
  have e57 := y57 h hh (by omega)
  rw [hk, Nat.add_sub_cancel] at e57
  have e21 := (xSc.2.2.1 k hkK).1
  have i7 : ix (nI k) 7 := ix_nI hk7 (by decide)
  unfold fX9_workAt
  rw [if_pos (ix_nI hh (by decide)), ldA_nI _ _ _ (by omega), e53, lt_def, xStep_yes xSc.1 b1.1 hkK, Option.bind_some]
  simp only [if_neg one_ne, if_pos i7, lt_def]
  rw [ldA_nI σ 57 k (by omega), e57, nI_1, stA_nI σ 57 k _ (by omega), ldA_nI _ 57 k (by omega), ldA_nI _ 21 k (by omega), gA_sA, if_pos rfl, gA_sA, if_neg (show ¬ (21 = 57) by decide), upd_at, if_pos rfl, e21, if_pos (nI_lt hw (by omega))]
  refine ⟨_, rfl, xT, xP, xS, xTb, xR, xSc, ⟨y18, y19, y20, yw, y53, y54, y56, y55, y45, fun q hq hz => ?_⟩, xPo⟩
  show upd (gA σ 57) k (nI (cN a 16 k + 1)) (cN a 12 q - 1) = nI (uN (cN a 16) k (cN a 16 k + 1) (cN a 12 q - 1))
  rw [upd_at, uN_at]
  split
  · rfl
  · exact y57 q hq hz
theorem xWork2 {n h k c t : Nat} (hn : 2000 ≤ n) {a : AS} {σ : ST} (hh : h < 3) (hk : cN a 12 h = k + 1) (hw : ¬ cN a 16 k + 1 < cN a 0 k) (hA : wfA t a) (hB : wfBg 0 0 a) (hC : wfCm c a) (hc : c ≤ 20000) (hD : wfD a) (hX : XR a σ) : ∃ σ', fX9_workAt n (nI h) σ = some σ' ∧ XR (aDel (aFin (aWk a k) h k) k (cS a 2)) σ' := by
  have hB' := fin_wfB hh hk hB
  have hX0 := hX
  have hB0 := hB
  obtain ⟨b1, b2, b3, b4, b5, b6, b7, b8, b9, b10⟩ := hB
  have hkK : k < cS a 1 := by have := b3 h hh; omega
  have hk7 : k < 7 := by omega
  have bt := b1.2.2.2 k hkK
  have bp := (b8 k hkK (Or.inr ⟨h, hh, hk⟩)).1
  obtain ⟨xT, xP, xS, xTb, xR, xSc, ⟨y18, y19, y20, ⟨w, hw7, w1, w2⟩, y53, y54, y56, y55, y45, y57⟩, xPo⟩ := hX
  have e53 := y53 h hh
  rw [if_neg (by omega), hk, Nat.add_sub_cancel] at e53
  have e57 := y57 h hh (by omega)
  rw [hk, Nat.add_sub_cancel] at e57
  have e21 := (xSc.2.2.1 k hkK).1
  have b6' := b6 h hh (by omega)
  rw [hk, Nat.add_sub_cancel] at b6'
  have i7 : ix (nI k) 7 := ix_nI hk7 (by decide)
  have i3 : ix (nI h) 3 := ix_nI hh (by decide)
  unfold fX9_workAt
  rw [if_pos i3, ldA_nI _ _ _ (by omega), e53, lt_def, xStep_yes xSc.1 b1.1 hkK, Option.bind_some]
  simp only [if_neg one_ne, if_pos i7, if_pos i3, lt_def]
  rw [ldA_nI σ 57 k (by omega), e57, nI_1, stA_nI σ 57 k _ (by omega), ldA_nI _ 57 k (by omega), ldA_nI _ 21 k (by omega), gA_sA, if_pos rfl, gA_sA, if_neg (show ¬ (21 = 57) by decide), upd_at, if_pos rfl, e21, if_neg (fun z => hw ((nI_lt_iff (by omega) (by omega)).mp z)), stA_nI _ _ _ _ (by omega)]
  generalize hs2 : sA (sA σ 57 (upd (gA σ 57) k (nI (cN a 16 k + 1)))) 53 (upd (gA (sA σ 57 (upd (gA σ 57) k (nI (cN a 16 k + 1)))) 53) h (-1)) = σ2
  have f2 : fr [20, 21] [53, 55, 56, 57] [] σ σ2 := by rw [← hs2]; exact fr_sA (fr_sA fr_rf (by decide)) (by decide)
  have g53 : gA σ2 53 = upd (gA σ 53) h (-1) := by rw [← hs2]; rfl
  have g57 : gA σ2 57 = upd (gA σ 57) k (nI (cN a 16 k + 1)) := by rw [← hs2]; rfl
  have g55 : gA σ2 55 = gA σ 55 := by rw [← hs2]; rfl
  have g56 : gA σ2 56 = gA σ 56 := by rw [← hs2]; rfl
  have g20 : gI σ2 20 = gI σ 20 := by rw [← hs2]; rfl
  have g21 : gI σ2 21 = gI σ 21 := by rw [← hs2]; rfl
  have g18 : gI σ2 18 = gI σ 18 := f2.1 18 (by decide)
  clear hs2
  unfold fX9_finish
  simp only [lt_def, if_pos i7, stA_nI _ _ k _ (show k < 2 ^ 31 by omega), ldA_nI _ _ k (show k < 2 ^ 31 by omega), gI_sI, gI_sA, gA_sA, gA_sI, Nat.reduceEqDiff, if_true, if_false]
  rw [g21, w1, nI_shl1 (by omega), nI_andN, g20, y20, nI_or, g18, y18, g55, g56]
  rw [y56 k hkK, nI_1]
  generalize hs5 : sA (sA (sI (sI σ2 21 (nI (andN w (2 ^ k)))) 20 (nI (cS a 6 ||| 2 ^ k))) 55 (upd (gA σ 55) k (nI (cS a 3)))) 56 (upd (gA σ 56) k (nI (cN a 15 k + 1))) = σ5
  have f5 : fr [20, 21] [53, 55, 56, 57] [] σ σ5 := by rw [← hs5]; exact fr_sA (fr_sA (fr_sI (fr_sI f2 (by decide)) (by decide)) (by decide)) (by decide)
  have k20 : gI σ5 20 = nI (cS a 6 ||| 2 ^ k) := by rw [← hs5]; rfl
  have k21 : gI σ5 21 = nI (andN w (2 ^ k)) := by rw [← hs5]; rfl
  have k53 : gA σ5 53 = upd (gA σ 53) h (-1) := by rw [← hs5]; exact g53
  have k57 : gA σ5 57 = upd (gA σ 57) k (nI (cN a 16 k + 1)) := by rw [← hs5]; exact g57
  have k55 : gA σ5 55 = upd (gA σ 55) k (nI (cS a 3)) := by rw [← hs5]; rfl
  have k56 : gA σ5 56 = upd (gA σ 56) k (nI (cN a 15 k + 1)) := by rw [← hs5]; rfl
  clear hs5
  obtain ⟨σ6, r1, r2, r3, r4⟩ := xSettle (n := n) (by omega) hB0 hkK hD hX0 bp f5
  rw [r1, Option.bind_some]
  have hX6 : XR (aFin (aWk a k) h k) σ6 := by
    refine ⟨xTape_fr r2 xT (by decide) (by decide) (by decide), xPlace_fr r2 xP (by decide) (by decide) (by decide), xSpan_fr r2 xS (by decide) (by decide) (by decide), xTab_fr r2 xTb (by decide) (by decide) (by decide), xRead_fr r2 xR (by decide) (by decide) (by decide), xScr_fr r2 xSc (by decide) (by decide) (by decide), ⟨?_, ?_, ?_, ⟨andN w (2 ^ k), ?_, ?_, fun j hj => ?_⟩, fun q hq => ?_, ?_, fun j hj => ?_, fun j hj hd => ?_, fun j hj hd g hg => ?_, fun q hq hz => ?_⟩, xPost_fr r2 xPo (by decide) (by decide) (by decide)⟩
    · rw [r2.1 18 (by decide)]; exact y18
    · rw [r2.1 19 (by decide)]; exact y19
    · rw [r3.1 20 (by decide)]; exact k20
    · exact Nat.lt_of_le_of_lt (andN_le _ _) hw7
    · rw [r3.1 21 (by decide)]; exact k21
    · rw [andN_bit _ _ _ (by omega), Nat.testBit_two_pow, Bool.and_eq_true]
      constructor
      · rintro ⟨z1, z2⟩
        obtain ⟨q, q1, q2⟩ := (w2 j hj).mp z1
        refine ⟨q, q1, ?_⟩
        show uN (cN a 12) h 0 q = j + 1
        rw [uN_at, if_neg (fun e => by rw [e, hk] at q2; simp at z2; omega)]
        exact q2
      · rintro ⟨q, q1, q2⟩
        have q2' : uN (cN a 12) h 0 q = j + 1 := q2
        rw [uN_at] at q2'
        by_cases e : q = h
        · rw [if_pos e] at q2'; omega
        · rw [if_neg e] at q2'
          refine ⟨(w2 j hj).mpr ⟨q, q1, q2'⟩, ?_⟩
          have : k ≠ j := fun z => e (b4 q h q1 hh (by omega) (by omega))
          simp [this]
    · rw [r3.2.1 53 (by decide), k53]
      show upd (gA σ 53) h (-1) q = if uN (cN a 12) h 0 q = 0 then -1 else nI (uN (cN a 12) h 0 q - 1)
      rw [upd_at, uN_at]
      by_cases e : q = h
      · rw [if_pos e, if_pos e, if_pos rfl]
      · rw [if_neg e, if_neg e]; exact y53 q hq
    · rw [r2.2.1 54 (by decide)]; exact y54
    · rw [r3.2.1 56 (by decide), k56]
      show upd (gA σ 56) k (nI (cN a 15 k + 1)) j = nI (uN (cN a 15) k (cN a 15 k + 1) j)
      rw [upd_at, uN_at]
      split
      · rfl
      · exact y56 j hj
    · rw [r3.2.1 55 (by decide), k55]
      show upd (gA σ 55) k (nI (cS a 3)) j = nI (uN (cN a 14) k (cS a 3) j)
      have hd' : (cS a 6 ||| 2 ^ k).testBit j = true := hd
      rw [upd_at, uN_at]
      split
      · rfl
      · rename_i e
        rw [testBit_set, Bool.or_eq_true] at hd'
        rcases hd' with z | z
        · exact y55 j hj z
        · exact absurd (of_decide_eq_true z).symm e
    · rw [r4]
      have hd' : (cS a 6 ||| 2 ^ k).testBit j = true := hd
      show _ = valN (aWk a k) k (8 * j + g)
      unfold valN
      by_cases e : j = k
      · subst e
        rw [if_pos (by omega), if_pos (by omega)]; rfl
      · rw [if_neg (by omega), if_neg (by omega)]
        rw [testBit_set, Bool.or_eq_true] at hd'
        rcases hd' with z | z
        · exact y45 j hj z g hg
        · exact absurd (of_decide_eq_true z).symm e
    · rw [r3.2.1 57 (by decide), k57]
      have hz' : uN (cN a 12) h 0 q ≠ 0 := hz
      show upd (gA σ 57) k (nI (cN a 16 k + 1)) (uN (cN a 12) h 0 q - 1) = nI (uN (cN a 16) k (cN a 16 k + 1) (uN (cN a 12) h 0 q - 1))
      rw [uN_at (cN a 12)] at hz' ⊢
      by_cases e : q = h
      · rw [if_pos e] at hz'; exact absurd rfl hz'
      · rw [if_neg e] at hz' ⊢
        rw [upd_at, uN_at]
        split
        · rfl
        · exact y57 q hq hz'
  rw [xIsRep (b := cS a 5) hX6.2.2.2.2.2.1.2.1 b1.2.1 hk7, Option.bind_some]
  simp only [pif]
  by_cases c5 : (cS a 5).testBit k = true
  · rw [if_pos c5]
    obtain ⟨σ7, s1, s2⟩ := xDeliver (a := aFin (aWk a k) h k) (k := k) (t := t) (u := 0) (c := c) hkK c5 (by
      show (cS a 6 ||| 2 ^ k).testBit k = true
      rw [testBit_set]; simp) hA hB' hC hD hc (cS a 2) 0 n σ6 (Nat.zero_add _) (by have : cS a 2 ≤ 6 := hA.2.2.2.1; omega) hX6
    unfold fX3_deliver
    rw [lt_def, show (0 : Int32) = nI 0 from rfl, s1, Option.bind_some, Option.bind_some]
    exact ⟨σ7, rfl, s2⟩
  · rw [if_neg c5, Option.bind_some]
    refine ⟨σ6, rfl, ?_⟩
    have h17 : cN a 17 k = 0 := by
      rcases Nat.eq_zero_or_pos (cN a 17 k) with z | z
      · exact z
      · exact absurd ((hC.1 k hk7).2 (by omega)).2 c5
    have hid : ∀ r, aDel (aFin (aWk a k) h k) k r = aFin (aWk a k) h k := by
      intro r
      induction r with
      | zero => rfl
      | succ r ih =>
        rw [aDel, if_neg, ih]
        rintro ⟨z, -⟩
        have z' : (cN a 17 k).testBit r = true := z
        rw [h17, Nat.zero_testBit] at z'; cases z'
    rw [hid]; exact hX6
