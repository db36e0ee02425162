/-! ===== PURE: land of the reference, and both ===== -/
theorem atLost_0 (at_ : Nat → Nat) : atLost at_ 0 = at_ := by
  funext h
  unfold atLost
  rw [if_neg (fun z => by rw [Nat.zero_testBit] at z; exact absurd z.2 (by decide))]
theorem mLand {n t : Nat} (hfu : 1000 ≤ n) {a : AS} {τ : ST} {j : Nat} (hj : j < 6) (ht : t < 512) (hA : wfA t a) (hB : wfB t a) (hM : MR a τ) (hk : mKeys τ) : ∃ τ', fX11_land n (nI j) τ = some (nI (cN a 6 j + 1), τ') ∧ MR (aLand a j) τ' ∧ mKeys τ' := by
  obtain ⟨mT, mP, mS, ⟨t1, t2, t3⟩, mRd, mSc, ⟨w1, w2, w3, w4, w5, w6, w7, w8⟩, mPo⟩ := hM
  obtain ⟨v, hv, c1, c2, c3, c4⟩ := id mSc
  have hK : cS a 1 ≤ 7 := hB.1.1
  have i6 : ix (nI j) 6 := ix_nI hj (by decide)
  have hld := (hA.2.2.1.2 j hj).2.1
  unfold fX11_land
  rw [mTable_yes hj]
  simp only [Option.bind_some, if_neg one_ne, if_pos i6, lt_def, stA_nI _ _ j _ (show j < 2 ^ 31 by omega), ldA_nI _ _ j (show j < 2 ^ 31 by omega), (t1 j hj).2.1]
  rw [show (40 : Int32) * nI j = nI (40 * j) from by rw [show (40 : Int32) = nI 40 from rfl, pk_mul]]
  obtain ⟨τ1, r1, r2, r3⟩ := mCopy hj hld (fun (x1_16 : Int32) (σ_17 : ST) => if ix x1_16 6 then (if ix x1_16 6 then (if ix x1_16 6 then fX11_land_L90 n x1_16 0 (stA (stA σ_17 25 x1_16 0) 24 x1_16 (ldA (stA σ_17 25 x1_16 0) 24 x1_16 + 1)) else none) else none) else none) (cN a 7 j) (40 * j) n (sA τ 28 (upd (gA τ 28) j (nI (cN a 7 j)))) (by omega) (by omega) (by omega) (by rw [gA_sA, if_pos rfl, upd_at, if_pos rfl])
  rw [r1]
  have f1 : fr [] [28, 29, 30] [] τ τ1 := fr_tr (fr_sA fr_rf (by decide)) (fr_up r2 (by decide) (by decide) (by decide))
  have e24 : gA τ1 24 = gA τ 24 := f1.2.1 24 (by decide)
  have e25 : gA τ1 25 = gA τ 25 := f1.2.1 25 (by decide)
  simp only [if_pos i6, stA_nI _ _ j _ (show j < 2 ^ 31 by omega), ldA_nI _ _ j (show j < 2 ^ 31 by omega), gA_sA, Nat.reduceEqDiff, if_true, if_false, e24, e25, (t1 j hj).1, nI_1]
  have f2 : fr [] [28, 29, 30, 25, 24] [] τ (sA (sA τ1 25 (upd (gA τ 25) j 0)) 24 (upd (gA τ 24) j (nI (cN a 6 j + 1)))) := fr_sA (fr_sA (fr_up f1 (by decide) (by decide) (by decide)) (by decide)) (by decide)
  generalize hτ2 : sA (sA τ1 25 (upd (gA τ 25) j 0)) 24 (upd (gA τ 24) j (nI (cN a 6 j + 1))) = τ2 at f2 ⊢
  have z0 : lostM (cN a 5) j 0 = 0 := rfl
  obtain ⟨τ', q1, q2, q3, q4, q5⟩ := mLose (al := cN a 5) (at0 := cN a 12) (K := cS a 1) (j := j) (v := v) (ans := nI (cN a 6 j + 1)) (d0 := gA τ 35) (w0 := gA τ 37) hK hv hj (fun k hk => (hB.1.2.2.2 k hk).2.2.2.2.2.2.2.1) hB.2.2.1 (cS a 1) 0 n τ2 (by omega) (by omega) (by rw [f2.1 11 (by decide)]; exact c1) (by rw [f2.2.1 8 (by decide)]; exact c2) (fun k hk => by rw [f2.2.1 18 (by decide)]; exact (c3 k hk).2.2.2.2.2.2.1) (by rw [← hτ2, gA_sA, if_pos rfl, upd_at, if_pos rfl]) (fun q hq => by rw [f2.2.1 33 (by decide), z0, atLost_0]; exact w3 q hq) (fun k hk => by rw [f2.2.1 35 (by decide), z0, Nat.zero_testBit]; rfl) (fun k hk => by rw [f2.2.1 37 (by decide), z0, Nat.zero_testBit]; rfl)
  have q1' : fX11_land_L90 n (nI j) 0 τ2 = some (nI (cN a 6 j + 1), τ') := q1
  refine ⟨τ', q1', ?_, ?_⟩
  · have f3 : fr [] [28, 29, 30, 25, 24, 33, 35, 37] [] τ τ' := fr_tr (fr_up f2 (by decide) (by decide) (by decide)) (fr_up q2 (by decide) (by decide) (by decide))
    have g24 : gA τ' 24 = upd (gA τ 24) j (nI (cN a 6 j + 1)) := by rw [q2.2.1 24 (by decide), ← hτ2, gA_sA, if_pos rfl]
    have g25 : gA τ' 25 = upd (gA τ 25) j 0 := by rw [q2.2.1 25 (by decide), ← hτ2, gA_sA, if_neg (by decide), gA_sA, if_pos rfl]
    have g28 : gA τ' 28 = upd (gA τ 28) j (nI (cN a 7 j)) := by rw [q2.2.1 28 (by decide), ← hτ2, gA_sA, if_neg (by decide), gA_sA, if_neg (by decide), r2.2.1 28 (by decide), gA_sA, if_pos rfl]
    have g29 : gA τ' 29 = gA τ1 29 := by rw [q2.2.1 29 (by decide), ← hτ2, gA_sA, if_neg (by decide), gA_sA, if_neg (by decide)]
    have g30 : gA τ' 30 = gA τ1 30 := by rw [q2.2.1 30 (by decide), ← hτ2, gA_sA, if_neg (by decide), gA_sA, if_neg (by decide)]
    have g26 : gA τ' 26 = gA τ 26 := f3.2.1 26 (by decide)
    have g27 : gA τ' 27 = gA τ 27 := f3.2.1 27 (by decide)
    have h18 : gI τ' 18 = gI τ 18 := f3.1 18 (by decide)
    have h19 : gI τ' 19 = gI τ 19 := f3.1 19 (by decide)
    have h34 : gA τ' 34 = gA τ 34 := f3.2.1 34 (by decide)
    have h36 : gA τ' 36 = gA τ 36 := f3.2.1 36 (by decide)
    have h38 : gB τ' 38 = gB τ 38 := f3.2.2 38 (by decide)
    refine ⟨mTape_fr f3 mT (by decide) (by decide) (by decide), mPlace_fr f3 mP (by decide) (by decide) (by decide), mSpan_fr f3 mS (by decide) (by decide) (by decide), ⟨fun x hx => ?_, fun x i hx hi => ?_, fun x i hx hi => ?_⟩, mRead_fr f3 mRd (by decide) (by decide) (by decide), mScr_fr f3 mSc (by decide) (by decide) (by decide), ⟨h18.trans w1, h19.trans w2, q3, fun k hk => ?_, fun k hk => ?_, fun k hk => ?_, fun k hk z g hg => ?_, fun h hh z => ?_⟩, mPost_fr f3 mPo (by decide) (by decide) (by decide)⟩
    · show gA τ' 24 x = nI (uN (cN a 6) j (cN a 6 j + 1) x) ∧ gA τ' 25 x = nI (uN (cN a 7) j 0 x) ∧ gA τ' 28 x = nI (uN (cN a 8) j (cN a 7 j) x)
      rw [g24, g25, g28, upd_at, upd_at, upd_at, uN_at, uN_at, uN_at]
      by_cases e : x = j
      · rw [if_pos e, if_pos e, if_pos e, if_pos e, if_pos e, if_pos e]; exact ⟨rfl, rfl, rfl⟩
      · simp only [if_neg e]; exact t1 x hx
    · have hi' : i < uN (cN a 7) j 0 x := hi
      rw [uN_at] at hi'
      by_cases e : x = j
      · rw [if_pos e] at hi'; omega
      · rw [if_neg e] at hi'
        show gA τ' 26 (40 * x + i) = _ ∧ gA τ' 27 (40 * x + i) = _
        rw [g26, g27]; exact t2 x i hx hi'
    · have hi' : i < uN (cN a 8) j (cN a 7 j) x := hi
      rw [uN_at] at hi'
      show gA τ' 29 (40 * x + i) = nI (blkN (cN a 22) (cN a 23) j (40 * x + i)) ∧ gA τ' 30 (40 * x + i) = blkI (cI a 2) (cI a 3) j (40 * x + i)
      have q := r3 (40 * x + i)
      simp only [gA_sA, Nat.reduceEqDiff, if_false] at q
      rw [g29, g30, q.1, q.2]
      unfold blkN blkI
      by_cases e : x = j
      · subst e
        rw [if_pos rfl] at hi'
        have d1 : 40 * x ≤ 40 * x + i ∧ 40 * x + i < 40 * x + cN a 7 x := by omega
        have d2 : 40 * x ≤ 40 * x + i ∧ 40 * x + i < 40 * x + 40 := by omega
        simp only [if_pos d1, if_pos d2]
        exact t2 x i hx hi'
      · rw [if_neg e] at hi'
        have h40 := (hA.2.2.1.2 x hx).2.2.1
        have d1 : ¬ (40 * j ≤ 40 * x + i ∧ 40 * x + i < 40 * j + cN a 7 j) := by omega
        have d2 : ¬ (40 * j ≤ 40 * x + i ∧ 40 * x + i < 40 * j + 40) := by omega
        simp only [if_neg d1, if_neg d2]
        exact t3 x i hx hi'
    · show gA τ' 34 k = _
      rw [h34]; exact w4 k hk
    · show gA τ' 36 k = _
      rw [h36]; exact w5 k hk
    · have hk' : k < cS a 1 := hk
      show gA τ' 35 k = if (andN (cS a 6) (lostM (cN a 5) j (cS a 1))).testBit k = true then nI (cN a 14 k) else -1
      rw [q4 k (by omega), andN_bit _ _ _ (by omega), w6 k hk']
      cases hb : (lostM (cN a 5) j (cS a 1)).testBit k <;> cases hd : (cS a 6).testBit k <;> rfl
    · have hk' : k < cS a 1 := hk
      have hz : (andN (cS a 6) (lostM (cN a 5) j (cS a 1))).testBit k = true := z
      rw [andN_bit _ _ _ (by omega), Bool.and_eq_true] at hz
      show gB τ' 38 (8 * k + g) = _
      rw [h38]; exact w7 k hk' hz.1 g hg
    · have z1 := atLost_ne z
      have h6 := hB.2.2.1 h hh
      show gA τ' 37 (atLost (cN a 12) (lostM (cN a 5) j (cS a 1)) h - 1) = nI (cN a 16 (atLost (cN a 12) (lostM (cN a 5) j (cS a 1)) h - 1))
      rw [z1.1, q5 _ (by omega), z1.2.2]
      exact w8 h hh z1.2.1
  · exact mKeys_fr (fr_tr (fr_up f2 (I' := []) (A' := [28, 29, 30, 25, 24, 33, 35, 37]) (B' := []) (by decide) (by decide) (by decide)) (fr_up q2 (by decide) (by decide) (by decide))) (by decide) hk
theorem sim_land (x : Int32) : SimStep Rel0 (fX10_land FU x) (fX11_land FU x) := by
  intro t σ τ ht hR
  obtain ⟨a, hA, hB, hC, hD, hX, hM, hk⟩ := id hR
  rcases ix_or (x := x) (n := 6) (by decide) with h | ⟨j, hj, rfl⟩
  · unfold fX10_land fX11_land
    rw [xBelow_no (y := 6) (n := 6) rfl h, mTable_no h]
    simp only [Option.bind_some, if_true]
    exact ⟨-1, σ, τ, rfl, rfl, rel_same hR⟩
  · obtain ⟨σ', x1, x2⟩ := xLand (n := FU) (by decide) hj ht hA hB hX
    obtain ⟨τ', m1, m2, m3⟩ := mLand (n := FU) (by decide) hj ht hA hB hM hk
    exact ⟨_, σ', τ', x1, m1, aLand a j, land_wfA hj hA, land_wfB hj hB, wfC_mono hC, hD, x2, m2, m3⟩
