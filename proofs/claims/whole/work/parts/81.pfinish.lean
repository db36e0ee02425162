/-! ===== PURE: tick: a step is worked and done ===== -/
def aWk (a : AS) (k : Nat) : AS := tN a 16 (uN (cN a 16) k (cN a 16 k + 1))
def valN (a : AS) (k : Nat) : Nat → Int64 := fun i => if 8 * k ≤ i ∧ i < 8 * k + 8 then (evA a k (i - 8 * k)).headD 0 else cL a 0 i
def aFin (a : AS) (h k : Nat) : AS := tL (tN (tN (tN (tS a 6 (cS a 6 ||| 2 ^ k)) 12 (uN (cN a 12) h 0)) 14 (uN (cN a 14) k (cS a 3))) 15 (uN (cN a 15) k (cN a 15 k + 1))) 0 (valN a k)
theorem wk_wfB {t h k : Nat} {a : AS} (hh : h < 3) (hk : cN a 12 h = k + 1) (hw : cN a 16 k + 1 < cN a 0 k) (hB : wfBg 0 t a) : wfBg 0 t (aWk a k) := by
  obtain ⟨b1, b2, b3, b4, b5, b6, b7, b8, b9, b10⟩ := hB
  refine ⟨b1, b2, b3, b4, b5, fun q hq hz => ?_, b7, b8, b9, b10⟩
  have hz' : cN a 12 q ≠ 0 := hz
  show 0 ≤ uN (cN a 16) k (cN a 16 k + 1) (cN a 12 q - 1) ∧ uN (cN a 16) k (cN a 16 k + 1) (cN a 12 q - 1) < cN a 0 (cN a 12 q - 1) ∧ (cS a 6).testBit (cN a 12 q - 1) = false
  obtain ⟨c1, c2, c3⟩ := b6 q hq hz'
  rw [uN_at]
  refine ⟨Nat.zero_le _, ?_, c3⟩
  split
  · rename_i e; rw [e]; exact hw
  · exact c2
theorem fin_wfB {t h k : Nat} {a : AS} (hh : h < 3) (hk : cN a 12 h = k + 1) (hB : wfBg 0 t a) : wfBg 0 t (aFin (aWk a k) h k) := by
  obtain ⟨b1, b2, b3, b4, b5, b6, b7, b8, b9, b10⟩ := hB
  have hkK : k < cS a 1 := by have := b3 h hh; omega
  have b8k := b8 k hkK (Or.inr ⟨h, hh, hk⟩)
  refine ⟨b1, ⟨b2.1, b2.2.1, b2.2.2.1, ?_⟩, fun q hq => ?_, fun q q' hq hq' hz he => ?_, fun q hq hq3 => ?_, fun q hq hz => ?_, fun j hj hd => ?_, fun j hj hd => ?_, b9, b10⟩
  · show cS a 6 ||| 2 ^ k < 2 ^ cS a 1
    exact or_lt b2.2.2.2 (Nat.pow_lt_pow_right (by decide) hkK)
  · show uN (cN a 12) h 0 q ≤ cS a 1
    rw [uN_at]
    split
    · omega
    · exact b3 q hq
  · have hz' : uN (cN a 12) h 0 q ≠ 0 := hz
    have he' : uN (cN a 12) h 0 q = uN (cN a 12) h 0 q' := he
    rw [uN_at, uN_at] at he'
    rw [uN_at] at hz'
    by_cases e : q = h
    · rw [if_pos e] at hz'; exact absurd rfl hz'
    · rw [if_neg e] at hz' he'
      by_cases e' : q' = h
      · rw [if_pos e'] at he'; exact absurd he' hz'
      · rw [if_neg e'] at he'
        exact b4 q q' hq hq' hz' he'
  · show uN (cN a 12) h 0 q = 0
    rw [uN_at]
    split
    · rfl
    · exact b5 q hq hq3
  · have hz' : uN (cN a 12) h 0 q ≠ 0 := hz
    show 0 ≤ uN (cN a 16) k (cN a 16 k + 1) (uN (cN a 12) h 0 q - 1) ∧ uN (cN a 16) k (cN a 16 k + 1) (uN (cN a 12) h 0 q - 1) < cN a 0 (uN (cN a 12) h 0 q - 1) ∧ (cS a 6 ||| 2 ^ k).testBit (uN (cN a 12) h 0 q - 1) = false
    rw [uN_at (cN a 12)] at hz' ⊢
    by_cases e : q = h
    · rw [if_pos e] at hz'; exact absurd rfl hz'
    · rw [if_neg e] at hz' ⊢
      obtain ⟨c1, c2, c3⟩ := b6 q hq hz'
      have hne : cN a 12 q - 1 ≠ k := fun z => e (b4 q h hq hh hz' (by omega))
      rw [uN_at, if_neg hne, testBit_set, c3]
      refine ⟨Nat.zero_le _, c2, ?_⟩
      simp; omega
  · have hd' : (cS a 6 ||| 2 ^ k).testBit j = true := hd
    show uN (cN a 14) k (cS a 3) j ≤ cS a 3
    rw [uN_at]
    split
    · exact Nat.le_refl _
    · rename_i e
      rw [testBit_set, Bool.or_eq_true] at hd'
      rcases hd' with z | z
      · exact b7 j hj z
      · exact absurd (of_decide_eq_true z).symm e
  · show (∀ i, (cN a 4 j).testBit i = true → (cS a 6 ||| 2 ^ k).testBit i = true) ∧ ∀ x, (cN a 3 j).testBit x = true → (cS a 8).testBit x = true
    have key : (∀ i, (cN a 4 j).testBit i = true → (cS a 6).testBit i = true) ∧ ∀ x, (cN a 3 j).testBit x = true → (cS a 8).testBit x = true := by
      rcases hd with z | ⟨q, hq, z⟩
      · have z' : (cS a 6 ||| 2 ^ k).testBit j = true := z
        rw [testBit_set, Bool.or_eq_true] at z'
        rcases z' with y | y
        · exact b8 j hj (Or.inl y)
        · have : k = j := of_decide_eq_true y
          subst this; exact b8k
      · have z' : uN (cN a 12) h 0 q = j + 1 := z
        rw [uN_at] at z'
        by_cases e : q = h
        · rw [if_pos e] at z'; omega
        · rw [if_neg e] at z'; exact b8 j hj (Or.inr ⟨q, hq, z'⟩)
    exact ⟨fun i hi => by rw [testBit_set, key.1 i hi]; rfl, key.2⟩
theorem xSettle {n : Nat} (hn : 1000 ≤ n) {a : AS} {k : Nat} {σ σ1 : ST} (hB : wfBg 0 0 a) (hk : k < cS a 1) (hD : wfD a) (hX : XR a σ) (hp : ∀ j, (cN a 4 k).testBit j = true → (cS a 6).testBit j = true) (hf : fr [20, 21] [53, 55, 56, 57] [] σ σ1) :
    ∃ σ', fX8_settle n (nI k) σ1 = some σ' ∧ fr [14, 20, 21] [53, 55, 56, 57] [45, 46] σ σ' ∧ fr [14] [] [45, 46] σ1 σ' ∧ ∀ i, gB σ' 45 i = if 8 * k ≤ i ∧ i < 8 * k + 8 then (evA a k (i - 8 * k)).headD 0 else gB σ 45 i := by
  have hK : cS a 1 ≤ 7 := hB.1.1
  have h9 : cS a 9 ≤ 400 := hB.1.2.2.1
  obtain ⟨xT, xP, xS, xTb, xR, xSc, xW, xPo⟩ := hX
  have hd := hD k hk
  have h10 : gI σ1 10 = nI (cS a 1) := by rw [hf.1 10 (by decide)]; exact xSc.1
  have h27 : ∀ j, j < cS a 1 → gA σ1 27 j = nI (cN a 21 j) := fun j hj => by rw [hf.2.1 27 (by decide)]; exact (xSc.2.2.1 j hj).2.2.2.2.2.2
  unfold fX8_settle
  rw [xStep_yes h10 hK hk, Option.bind_some]
  simp only [if_neg one_ne]
  rw [if_pos (ix_nI (show k < 7 by omega) (by decide)), ldA_nI _ _ _ (by omega), h27 k hk, if_neg (show ¬ (400 : Int32) < nI (cN a 21 k) from by
    rw [show (400 : Int32) = nI 400 from rfl]; exact Int32.not_lt.mpr (nI_le (by omega) (by decide))), lt_def, lt_def]
  obtain ⟨σ', r1, r2, r3⟩ := xSettleL (a := a) hK hk hD h9 8 0 n σ1 (by omega) (by omega) h10 (fun j hj => by rw [hf.2.1 28 (by decide), hf.2.1 29 (by decide)]; exact xSc.2.2.2 j hj) h27 (fun g q v hg q1 q3 hv => by
      rw [hf.2.2 (36 + q) (by simp)]
      have z := xTb.2.2.2 v g hv hg
      rcases (show q = 1 ∨ q = 2 ∨ q = 3 by omega) with rfl | rfl | rfl
      · exact z.1
      · exact z.2.1
      · exact z.2.2) (fun g v hg z1 z2 => by
      rw [hf.2.2 45 (by decide)]
      exact xW.2.2.2.2.2.2.2.2.1 v (by omega) (hp v z1) g hg)
  refine ⟨σ', r1, fr_tr (fr_up hf (by decide) (by decide) (by decide)) (fr_up r2 (by decide) (by decide) (by decide)), r2, fun i => ?_⟩
  rw [r3 i, Nat.add_zero, hf.2.2 45 (by decide)]
