/-! ===== PURE: land ===== -/
def blkN (f g : Nat → Nat) (j : Nat) : Nat → Nat := fun i => if 40 * j ≤ i ∧ i < 40 * j + 40 then f i else g i
def blkI (f g : Nat → Int32) (j : Nat) : Nat → Int32 := fun i => if 40 * j ≤ i ∧ i < 40 * j + 40 then f i else g i
def aLand (a : AS) (j : Nat) : AS :=
  tS (tS (tN (tN (tN (tN (tI (tN a 23 (blkN (cN a 22) (cN a 23) j)) 3 (blkI (cI a 2) (cI a 3) j)) 8 (uN (cN a 8) j (cN a 7 j))) 7 (uN (cN a 7) j 0)) 6 (uN (cN a 6) j (cN a 6 j + 1))) 12 (atLost (cN a 12) (lostM (cN a 5) j (cS a 1)))) 6 (andN (cS a 6) (lostM (cN a 5) j (cS a 1)))) 8 (cS a 8 ||| 2 ^ j)
theorem atLost_ne {at_ : Nat → Nat} {lm h : Nat} (hz : atLost at_ lm h ≠ 0) : atLost at_ lm h = at_ h ∧ at_ h ≠ 0 ∧ lm.testBit (at_ h - 1) = false := by
  unfold atLost at *
  by_cases z : at_ h ≠ 0 ∧ lm.testBit (at_ h - 1) = true
  · rw [if_pos z] at hz; exact absurd rfl hz
  · rw [if_neg z] at hz ⊢
    refine ⟨rfl, hz, ?_⟩
    cases hb : lm.testBit (at_ h - 1) with
    | false => rfl
    | true => exact absurd ⟨hz, hb⟩ z
theorem atLost_le (at_ : Nat → Nat) (lm h : Nat) : atLost at_ lm h ≤ at_ h := by
  unfold atLost; split <;> omega
theorem land_wfB {t : Nat} {a : AS} {j : Nat} (hj : j < 6) (hB : wfB t a) : wfB (t + 1) (aLand a j) := by
  obtain ⟨b1, ⟨b2, b3, b4, b5⟩, b6, b7, b8, b9, b10, b11, b12, b13⟩ := hB
  have hK : cS a 1 ≤ 7 := b1.1
  refine ⟨b1, ⟨b2, b3, b4, Nat.lt_of_le_of_lt (andN_le _ _) b5⟩, fun h hh => Nat.le_trans (atLost_le _ _ _) (b6 h hh), fun h h' hh hh' z e => ?_, fun h h1 h2 => ?_, fun h hh z => ?_, fun k hk z => ?_, fun k hk z => ?_, b12, b13⟩
  · have z1 := atLost_ne z
    have z2 := atLost_ne (at_ := cN a 12) (lm := lostM (cN a 5) j (cS a 1)) (h := h') (by
      intro q; apply z; show atLost (cN a 12) _ h = 0; rw [show atLost (cN a 12) _ h = atLost (cN a 12) _ h' from e]; exact q)
    have e' : atLost (cN a 12) (lostM (cN a 5) j (cS a 1)) h = atLost (cN a 12) (lostM (cN a 5) j (cS a 1)) h' := e
    rw [z1.1, z2.1] at e'
    exact b7 h h' hh hh' z1.2.1 e'
  · have := atLost_le (cN a 12) (lostM (cN a 5) j (cS a 1)) h
    have h3 := b8 h h1 h2
    show atLost (cN a 12) _ h = 0
    omega
  · have z1 := atLost_ne z
    have h9 := b9 h hh z1.2.1
    show 1 ≤ cN a 16 (atLost (cN a 12) _ h - 1) ∧ cN a 16 (atLost (cN a 12) _ h - 1) < cN a 0 (atLost (cN a 12) _ h - 1) ∧ (andN (cS a 6) _).testBit (atLost (cN a 12) _ h - 1) = false
    rw [z1.1]
    have := b6 h hh
    refine ⟨h9.1, h9.2.1, ?_⟩
    rw [andN_bit _ _ _ (by omega), h9.2.2]; rfl
  · have hk : k < cS a 1 := hk
    have hz : (andN (cS a 6) (lostM (cN a 5) j (cS a 1))).testBit k = true := z
    rw [andN_bit _ _ _ (by omega), Bool.and_eq_true] at hz
    exact b10 k hk hz.1
  · have hk : k < cS a 1 := hk
    have hnl : (cN a 5 k).testBit j = false ∧ ((cS a 6).testBit k = true ∨ ∃ h, h < 3 ∧ cN a 12 h = k + 1) := by
      rcases z with z | ⟨h, hh, z⟩
      · have hz : (andN (cS a 6) (lostM (cN a 5) j (cS a 1))).testBit k = true := z
        rw [andN_bit _ _ _ (by omega), Bool.and_eq_true, lostM_bit] at hz
        refine ⟨?_, Or.inl hz.1⟩
        have h2 := hz.2
        simp [hk] at h2
        exact h2
      · have z' : atLost (cN a 12) (lostM (cN a 5) j (cS a 1)) h = k + 1 := z
        have z1 := atLost_ne (at_ := cN a 12) (lm := lostM (cN a 5) j (cS a 1)) (h := h) (by omega)
        rw [z1.1] at z'
        refine ⟨?_, Or.inr ⟨h, hh, z'⟩⟩
        have h2 := z1.2.2
        rw [lostM_bit, z'] at h2
        simp [hk] at h2
        exact h2
    have h11 := b11 k hk hnl.2
    have hop := (b1.2.2.2 k hk).2.2.2.2.2.2.1
    refine ⟨fun q hq => ?_, fun x hx => ?_⟩
    · have hq7 : q < k := by
        rcases Nat.lt_or_ge q k with z | z
        · exact z
        · have hq' : (cN a 4 k).testBit q = true := hq
          rw [Nat.testBit_lt_two_pow (Nat.lt_of_lt_of_le hop (Nat.pow_le_pow_right (by decide) z))] at hq'
          cases hq'
      show (andN (cS a 6) (lostM (cN a 5) j (cS a 1))).testBit q = true
      rw [andN_bit _ _ _ (by omega), h11.1 q hq, lostM_bit]
      have : (cN a 5 q).testBit j = false := by
        cases hb : (cN a 5 q).testBit j with
        | false => rfl
        | true =>
          have := (b1.2.2.2 k hk).2.2.2.2.2.2.2.2.2 q hq j hb
          rw [hnl.1] at this; cases this
      rw [this]; simp
    · show (cS a 8 ||| 2 ^ j).testBit x = true
      rw [testBit_set, h11.2 x hx]; rfl
theorem land_wfA {t : Nat} {a : AS} {j : Nat} (hj : j < 6) (hA : wfA t a) : wfA (t + 1) (aLand a j) := by
  obtain ⟨a1, a2, ⟨a3, a4⟩, a5⟩ := hA
  refine ⟨a1, a2, ⟨or_lt (n := 6) a3 (Nat.pow_lt_pow_right (by decide) hj), fun x hx => ?_⟩, a5⟩
  obtain ⟨s1, s2, s3, s4, s5, s6⟩ := a4 x hx
  show uN (cN a 6) j (cN a 6 j + 1) x ≤ t + 1 ∧ uN (cN a 7) j 0 x ≤ 40 ∧ uN (cN a 8) j (cN a 7 j) x ≤ 40 ∧ ((cS a 8 ||| 2 ^ j).testBit x = true ↔ 0 < uN (cN a 6) j (cN a 6 j + 1) x) ∧ (∀ i, i < uN (cN a 7) j 0 x → cN a 22 (40 * x + i) < 8) ∧ (∀ i, i < uN (cN a 8) j (cN a 7 j) x → blkN (cN a 22) (cN a 23) j (40 * x + i) < 8)
  rw [uN_at, uN_at, uN_at, testBit_set]
  by_cases e : x = j
  · subst e
    rw [if_pos rfl, if_pos rfl, if_pos rfl]
    refine ⟨by omega, by omega, s2, by simp, fun i hi => by omega, fun i hi => ?_⟩
    unfold blkN
    rw [if_pos (by omega)]
    exact s5 i hi
  · rw [if_neg e, if_neg e, if_neg e]
    have hne : decide (j = x) = false := by simp; omega
    rw [hne, Bool.or_false]
    refine ⟨by omega, s2, s3, s4, s5, fun i hi => ?_⟩
    unfold blkN
    rw [if_neg (by omega)]
    exact s6 i hi
theorem xLand {n t : Nat} (hfu : 1000 ≤ n) {a : AS} {σ : ST} {j : Nat} (hj : j < 6) (ht : t < 512) (hA : wfA t a) (hB : wfB t a) (hX : XR a σ) : ∃ σ', fX10_land n (nI j) σ = some (nI (cN a 6 j + 1), σ') ∧ XR (aLand a j) σ' := by
  obtain ⟨xT, xP, xS, ⟨t1, t2, t3, t4⟩, xR, xSc, ⟨w1, w2, w3, ⟨w, hw, w4, w5⟩, w6, w7, w8, w9, w10, w11⟩, xPo⟩ := hX
  have hK : cS a 1 ≤ 7 := hB.1.1
  have hat : ∀ h, h < 3 → cN a 12 h ≤ 7 := fun h hh => Nat.le_trans (hB.2.2.1 h hh) hK
  have i6 : ix (nI j) 6 := ix_nI hj (by decide)
  unfold fX10_land
  rw [xBelow_yes (y := 6) (n := 6) rfl hj (by decide)]
  simp only [Option.bind_some, if_neg one_ne]
  unfold fX9_undo
  simp only [lt_def]
  have u1 := fun k43 => xUndo1 (σ := σ) (al := cN a 5) (K := cS a 1) (j := j) hK xSc.1 (fun k hk => ⟨(xSc.2.2.1 k hk).2.2.2.2.2.1, (hB.1.2.2.2 k hk).2.2.2.2.2.2.2.1⟩) hj k43 (cS a 1) 0 n (by omega) (by omega)
  have u1' : ∀ k43, fX9_undo_L4 k43 n (nI j) 0 0 σ = k43 (nI (lostM (cN a 5) j (cS a 1))) σ := u1
  rw [u1']
  simp only [gI_sI, Nat.reduceEqDiff, if_false, w3, w4, nI_andN]
  have hwl : andN w (lostM (cN a 5) j (cS a 1)) < 128 := Nat.lt_of_le_of_lt (andN_le _ _) hw
  obtain ⟨σ1, r1, r2, r3⟩ := xUndo2 (at_ := cN a 12) (lm := lostM (cN a 5) j (cS a 1)) (w := andN w (lostM (cN a 5) j (cS a 1))) hwl hat (fun h hh z => by
    have h7 := hat h hh
    rw [andN_bit _ _ _ (by omega), (w5 (cN a 12 h - 1) (by omega)).mpr ⟨h, hh, by omega⟩]
    simp) 3 0 n (sI (sI σ 20 (nI (andN (cS a 6) (lostM (cN a 5) j (cS a 1))))) 21 (nI (andN w (lostM (cN a 5) j (cS a 1))))) (by omega) (by omega) rfl (fun q hq => by rw [if_neg (Nat.not_lt_zero q)]; exact w6 q hq)
  have r1' : fX9_undo_L69 n 0 (sI (sI σ 20 (nI (andN (cS a 6) (lostM (cN a 5) j (cS a 1))))) 21 (nI (andN w (lostM (cN a 5) j (cS a 1))))) = some σ1 := r1
  rw [r1', Option.bind_some]
  unfold fX5_bringIn fX0_moveFrom
  rw [xBelow_yes (y := 6) (n := 6) rfl hj (by decide)]
  simp only [Option.bind_some, if_neg one_ne, lt_def]
  obtain ⟨σ2, s1, s2, s3⟩ := xMove hj 8 (8 * j) n σ1 (by omega) (by omega) (by omega)
  rw [show nI j * (8 : Int32) = nI (8 * j) from by rw [show (8 : Int32) = nI 8 from rfl, pk_mul, Nat.mul_comm], s1]
  have f1 : fr [20, 21] [53] [] σ σ1 := fr_tr (fr_sI (fr_sI fr_rf (by decide)) (by decide)) (fr_up r2 (by decide) (by decide) (by decide))
  have f2 : fr [20, 21] [53] [37, 38, 39, 41, 42, 43] σ σ2 := fr_tr (fr_up f1 (by decide) (by decide) (by decide)) (fr_up s2 (by decide) (by decide) (by decide))
  have e31 : gA σ2 31 = gA σ 31 := f2.2.1 31 (by decide)
  have e32 : gA σ2 32 = gA σ 32 := f2.2.1 32 (by decide)
  have e33 : gA σ2 33 = gA σ 33 := f2.2.1 33 (by decide)
  have e13 : gI σ2 13 = gI σ 13 := f2.1 13 (by decide)
  simp only [Option.bind_some, if_pos i6, stA_nI _ _ j _ (show j < 2 ^ 31 by omega), ldA_nI _ _ j (show j < 2 ^ 31 by omega), gA_sA, gA_sI, gI_sA, Nat.reduceEqDiff, if_true, if_false, e31, e32, e33, e13, t1, (t2 j hj).1, (t2 j hj).2.1, nI_1, nI_shl1 (show j < 32 by omega), nI_or, upd_at]
  refine ⟨_, rfl, ?_⟩
  have f3 : fr [20, 21, 13] [53, 31, 32, 33] [37, 38, 39, 41, 42, 43] σ (sA (sI (sA (sA σ2 32 (upd (gA σ 32) j (nI (cN a 7 j)))) 33 (upd (gA σ 33) j 0)) 13 (nI (cS a 8 ||| 2 ^ j))) 31 (upd (gA σ 31) j (nI (cN a 6 j + 1)))) := fr_sA (fr_sI (fr_sA (fr_sA (fr_up f2 (by decide) (by decide) (by decide)) (by decide)) (by decide)) (by decide)) (by decide)
  refine ⟨xTape_fr f3 xT (by decide) (by decide) (by decide), xPlace_fr f3 xP (by decide) (by decide) (by decide), xSpan_fr f3 xS (by decide) (by decide) (by decide), ⟨rfl, fun x hx => ?_, fun x g hx hg => ?_, fun x g hx hg => ?_⟩, xRead_fr f3 xR (by decide) (by decide) (by decide), xScr_fr f3 xSc (by decide) (by decide) (by decide), ?_, xPost_fr f3 xPo (by decide) (by decide) (by decide)⟩
  · have w := t2 x hx
    show upd (gA σ 31) j (nI (cN a 6 j + 1)) x = nI (uN (cN a 6) j (cN a 6 j + 1) x) ∧ upd (gA σ 33) j 0 x = nI (uN (cN a 7) j 0 x) ∧ upd (gA σ 32) j (nI (cN a 7 j)) x = nI (uN (cN a 8) j (cN a 7 j) x)
    rw [upd_at, upd_at, upd_at, uN_at, uN_at, uN_at]
    by_cases e : x = j
    · rw [if_pos e, if_pos e, if_pos e, if_pos e, if_pos e, if_pos e]; exact ⟨rfl, rfl, rfl⟩
    · simp only [if_neg e]; exact w
  · have q := s3 (8 * x + g)
    have g41 : gB σ1 41 = gB σ 41 := f1.2.2 41 (by decide)
    have g42 : gB σ1 42 = gB σ 42 := f1.2.2 42 (by decide)
    have g43 : gB σ1 43 = gB σ 43 := f1.2.2 43 (by decide)
    rw [g41, g42, g43] at q
    show gB σ2 41 (8 * x + g) = fgS (cN a 22) (cI a 2) (40 * x) g (uN (cN a 7) j 0 x) ∧ gB σ2 42 (8 * x + g) = lN (fgC (cN a 22) (40 * x) g (uN (cN a 7) j 0 x)) ∧ gB σ2 43 (8 * x + g) = fgM (cN a 22) (cI a 2) (40 * x) g (uN (cN a 7) j 0 x)
    rw [q.2.2.2.1, q.2.2.2.2.1, q.2.2.2.2.2, uN_at]
    by_cases e : x = j
    · subst e
      have c1 : 8 * x ≤ 8 * x + g ∧ 8 * x + g < 8 * x + 8 := by omega
      simp only [if_pos c1, if_true]
      exact ⟨rfl, rfl, rfl⟩
    · have c1 : ¬ (8 * j ≤ 8 * x + g ∧ 8 * x + g < 8 * j + 8) := by omega
      simp only [if_neg c1, if_neg e]
      exact t3 x g hx hg
  · have q := s3 (8 * x + g)
    have g41 : gB σ1 41 = gB σ 41 := f1.2.2 41 (by decide)
    have g42 : gB σ1 42 = gB σ 42 := f1.2.2 42 (by decide)
    have g43 : gB σ1 43 = gB σ 43 := f1.2.2 43 (by decide)
    have g37 : gB σ1 37 = gB σ 37 := f1.2.2 37 (by decide)
    have g38 : gB σ1 38 = gB σ 38 := f1.2.2 38 (by decide)
    have g39 : gB σ1 39 = gB σ 39 := f1.2.2 39 (by decide)
    rw [g41, g42, g43, g37, g38, g39] at q
    show gB σ2 37 (8 * x + g) = fgS (blkN (cN a 22) (cN a 23) j) (blkI (cI a 2) (cI a 3) j) (40 * x) g (uN (cN a 8) j (cN a 7 j) x) ∧ gB σ2 38 (8 * x + g) = lN (fgC (blkN (cN a 22) (cN a 23) j) (40 * x) g (uN (cN a 8) j (cN a 7 j) x)) ∧ gB σ2 39 (8 * x + g) = fgM (blkN (cN a 22) (cN a 23) j) (blkI (cI a 2) (cI a 3) j) (40 * x) g (uN (cN a 8) j (cN a 7 j) x)
    rw [q.1, q.2.1, q.2.2.1, uN_at]
    by_cases e : x = j
    · subst e
      have c1 : 8 * x ≤ 8 * x + g ∧ 8 * x + g < 8 * x + 8 := by omega
      have hl := (hA.2.2.1.2 x hx).2.1
      have cg : ∀ i, i < cN a 7 x → blkN (cN a 22) (cN a 23) x (40 * x + i) = cN a 22 (40 * x + i) ∧ blkI (cI a 2) (cI a 3) x (40 * x + i) = cI a 2 (40 * x + i) := fun i hi => by
        have c2 : 40 * x ≤ 40 * x + i ∧ 40 * x + i < 40 * x + 40 := by omega
        exact ⟨if_pos c2, if_pos c2⟩
      simp only [if_pos c1, if_true]
      rw [fgS_cg _ cg, fgC_cg _ (fun i hi => (cg i hi).1), fgM_cg _ cg]
      exact t3 x g hx hg
    · have c1 : ¬ (8 * j ≤ 8 * x + g ∧ 8 * x + g < 8 * j + 8) := by omega
      have hl := (hA.2.2.1.2 x hx).2.2.1
      have cg : ∀ i, i < cN a 8 x → blkN (cN a 22) (cN a 23) j (40 * x + i) = cN a 23 (40 * x + i) ∧ blkI (cI a 2) (cI a 3) j (40 * x + i) = cI a 3 (40 * x + i) := fun i hi => by
        have c2 : ¬ (40 * j ≤ 40 * x + i ∧ 40 * x + i < 40 * j + 40) := by omega
        exact ⟨if_neg c2, if_neg c2⟩
      simp only [if_neg c1, if_neg e]
      rw [fgS_cg _ cg, fgC_cg _ (fun i hi => (cg i hi).1), fgM_cg _ cg]
      exact t4 x g hx hg
  · have h20 : gI σ2 20 = nI (andN (cS a 6) (lostM (cN a 5) j (cS a 1))) := by rw [s2.1 20 (by decide), r2.1 20 (by decide)]; rfl
    have h21 : gI σ2 21 = nI (andN w (lostM (cN a 5) j (cS a 1))) := by rw [s2.1 21 (by decide), r2.1 21 (by decide)]; rfl
    have h53 : gA σ2 53 = gA σ1 53 := s2.2.1 53 (by decide)
    have e18 : gI σ2 18 = gI σ 18 := f2.1 18 (by decide)
    have e19 : gI σ2 19 = gI σ 19 := f2.1 19 (by decide)
    have e54 : gA σ2 54 = gA σ 54 := f2.2.1 54 (by decide)
    have e55 : gA σ2 55 = gA σ 55 := f2.2.1 55 (by decide)
    have e56 : gA σ2 56 = gA σ 56 := f2.2.1 56 (by decide)
    have e57 : gA σ2 57 = gA σ 57 := f2.2.1 57 (by decide)
    have e45 : gB σ2 45 = gB σ 45 := f2.2.2 45 (by decide)
    refine ⟨e18.trans w1, e19.trans w2, h20, ⟨andN w (lostM (cN a 5) j (cS a 1)), hwl, h21, fun k hk => ?_⟩, fun h hh => ?_, fun k hk => ?_, fun k hk => ?_, fun k hk z => ?_, fun k hk z g hg => ?_, fun h hh z => ?_⟩
    · show _ ↔ ∃ h, h < 3 ∧ atLost (cN a 12) (lostM (cN a 5) j (cS a 1)) h = k + 1
      rw [andN_bit _ _ _ (by omega), Bool.and_eq_true, w5 k hk]
      constructor
      · rintro ⟨⟨h, hh, q⟩, hb⟩
        refine ⟨h, hh, ?_⟩
        unfold atLost
        rw [if_neg (fun z => by rw [q, show k + 1 - 1 = k from rfl] at z; rw [z.2] at hb; cases hb)]
        exact q
      · rintro ⟨h, hh, q⟩
        have z1 := atLost_ne (at_ := cN a 12) (lm := lostM (cN a 5) j (cS a 1)) (h := h) (by omega)
        rw [z1.1] at q
        refine ⟨⟨h, hh, q⟩, ?_⟩
        have := z1.2.2
        rw [q, show k + 1 - 1 = k from rfl] at this
        rw [this]; rfl
    · show gA σ2 53 h = enc (atLost (cN a 12) (lostM (cN a 5) j (cS a 1)) h)
      rw [h53]; exact r3 h hh
    · show gA σ2 54 k = _
      rw [e54]; exact w7 k hk
    · show gA σ2 56 k = _
      rw [e56]; exact w8 k hk
    · show gA σ2 55 k = _
      have hz : (andN (cS a 6) (lostM (cN a 5) j (cS a 1))).testBit k = true := z
      have hk7 : k < cS a 1 := hk
      rw [andN_bit _ _ _ (by omega), Bool.and_eq_true] at hz
      rw [e55]; exact w9 k hk hz.1
    · show gB σ2 45 (8 * k + g) = _
      have hz : (andN (cS a 6) (lostM (cN a 5) j (cS a 1))).testBit k = true := z
      have hk7 : k < cS a 1 := hk
      rw [andN_bit _ _ _ (by omega), Bool.and_eq_true] at hz
      rw [e45]; exact w10 k hk hz.1 g hg
    · have z1 := atLost_ne z
      show gA σ2 57 (atLost (cN a 12) (lostM (cN a 5) j (cS a 1)) h - 1) = nI (cN a 16 (atLost (cN a 12) (lostM (cN a 5) j (cS a 1)) h - 1))
      rw [z1.1, e57]; exact w11 h hh z1.2.1
