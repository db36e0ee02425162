/-! ===== PURE: sends of the reference, on the abstract state ===== -/
theorem mSend {n : Nat} (hfu : 100 ≤ n) {a : AS} {τ : ST} {k r : Nat} (hk : k < 7) (hkK : k < cS a 1) (hr : r < cS a 2) (hn6 : cS a 2 ≤ 6) (hrt : cN a 11 r < 256) (hd : (cS a 6).testBit k = true) (hrd : (cN a 17 k).testBit r = true) (hM : MR a τ) : ∃ τ', fX11_sends n (nI k) (nI r) τ = some τ' ∧ fr [] [40, 41] [42] τ τ' ∧ MR (aOffer a k r) τ' := by
  obtain ⟨mT, mP, mS, mTb, mRd, mSc, mW, ⟨n1, n2, n3⟩⟩ := hM
  have hr6 : r < 6 := by omega
  have hc : 6 * k + r < 42 := by omega
  have i42 : ix (nI (6 * k + r)) 42 := ix_nI hc (by decide)
  have h31 : gA τ 31 r = nI (cN a 11 r) := (mRd.2 r hr).1
  have h38 : ∀ q, q < 8 → gB τ 38 (8 * k + q) = cL a 0 (8 * k + q) := fun q hq => mW.2.2.2.2.2.2.1 k hkK hd q hq
  have e39 : gA τ 39 (6 * k + r) = 1 := by rw [n1 k r hk hr6, if_pos hrd]
  have e41 : gA τ 41 (6 * k + r) = nI (cN a 18 (6 * k + r)) := (n2 _ hc).1
  unfold fX11_sends
  simp only [m6, lt_def, if_pos i42, ldA_nI _ _ (6 * k + r) (show 6 * k + r < 2 ^ 31 by omega), e39, if_neg one_ne, (n2 _ hc).2]
  have hgo : (decide (cN a 18 (6 * k + r) = 0) || dfr (seenOf (cN a 11 r) (cL a 0) k) (gB τ 42) (8 * (6 * k + r)) 0 8) = goesB a k r := by
    unfold goesB
    rw [dfr_cg (last := gB τ 42) (last' := cL a 1) 8 0 (fun q h1 h2 => n3 _ (by omega))]
  have common : ∀ y : Int32, y = (if decide (cN a 18 (6 * k + r) = 0) = true then 1 else 0) → ∃ τ', fX11_sends_L36 (fun (x1_55 : Int32) (x2_56 : Int32) (x3_57 : Int32) (x4_58 : Int32) (σ_59 : ST) => (if x4_58 = 0 then (some σ_59) else (fX11_sends_L121 (fun (x3_62 : Int32) (σ_63 : ST) => (if ix x3_62 42 then (if ix x3_62 42 then (if ix x3_62 42 then (some (stA (stA σ_63 40 x3_62 (nz ((1 : Int32)))) 41 x3_62 ((ldA (stA σ_63 40 x3_62 (nz ((1 : Int32)))) 41 x3_62) + ((1 : Int32))))) else none) else none) else none)) n x1_55 x2_56 x3_57 0 σ_59))) n (nI k) (nI r) (nI (6 * k + r)) y 0 τ = some τ' ∧ fr [] [40, 41] [42] τ τ' ∧ MR (aOffer a k r) τ' := by
    intro y hy
    have r1 := mSendL (val := cL a 0) hk hr6 hrt (fun (x1_55 : Int32) (x2_56 : Int32) (x3_57 : Int32) (x4_58 : Int32) (σ_59 : ST) => (if x4_58 = 0 then (some σ_59) else (fX11_sends_L121 (fun (x3_62 : Int32) (σ_63 : ST) => (if ix x3_62 42 then (if ix x3_62 42 then (if ix x3_62 42 then (some (stA (stA σ_63 40 x3_62 (nz ((1 : Int32)))) 41 x3_62 ((ldA (stA σ_63 40 x3_62 (nz ((1 : Int32)))) 41 x3_62) + ((1 : Int32))))) else none) else none) else none)) n x1_55 x2_56 x3_57 0 σ_59))) 8 0 n τ (decide (cN a 18 (6 * k + r) = 0)) (by omega) (by omega) h31 h38
    rw [hgo, ← hy] at r1
    have r1' : fX11_sends_L36 (fun (x1_55 : Int32) (x2_56 : Int32) (x3_57 : Int32) (x4_58 : Int32) (σ_59 : ST) => (if x4_58 = 0 then (some σ_59) else (fX11_sends_L121 (fun (x3_62 : Int32) (σ_63 : ST) => (if ix x3_62 42 then (if ix x3_62 42 then (if ix x3_62 42 then (some (stA (stA σ_63 40 x3_62 (nz ((1 : Int32)))) 41 x3_62 ((ldA (stA σ_63 40 x3_62 (nz ((1 : Int32)))) 41 x3_62) + ((1 : Int32))))) else none) else none) else none)) n x1_55 x2_56 x3_57 0 σ_59))) n (nI k) (nI r) (nI (6 * k + r)) y 0 τ = _ := r1
    rw [r1']
    by_cases hg : goesB a k r = true
    · rw [if_pos hg, if_neg one_ne]
      have hg1 : goesN a k r = 1 := if_pos hg
      obtain ⟨τ1, s1, s2, s3⟩ := mSendW (val := cL a 0) hk hr6 hrt (fun (x3_62 : Int32) (σ_63 : ST) => (if ix x3_62 42 then (if ix x3_62 42 then (if ix x3_62 42 then (some (stA (stA σ_63 40 x3_62 (nz ((1 : Int32)))) 41 x3_62 ((ldA (stA σ_63 40 x3_62 (nz ((1 : Int32)))) 41 x3_62) + ((1 : Int32))))) else none) else none) else none)) 8 0 n τ (by omega) (by omega) h31 h38
      have s1' : fX11_sends_L121 (fun (x3_62 : Int32) (σ_63 : ST) => (if ix x3_62 42 then (if ix x3_62 42 then (if ix x3_62 42 then (some (stA (stA σ_63 40 x3_62 (nz ((1 : Int32)))) 41 x3_62 ((ldA (stA σ_63 40 x3_62 (nz ((1 : Int32)))) 41 x3_62) + ((1 : Int32))))) else none) else none) else none)) n (nI k) (nI r) (nI (6 * k + r)) 0 τ = _ := s1
      rw [s1', if_pos i42, if_pos i42, if_pos i42, stA_nI _ _ _ _ (by omega), stA_nI _ _ _ _ (by omega), ldA_nI _ _ _ (by omega)]
      have g40 : gA τ1 40 = gA τ 40 := s2.2.1 40 (by decide)
      have g41 : gA τ1 41 = gA τ 41 := s2.2.1 41 (by decide)
      have g39 : gA τ1 39 = gA τ 39 := s2.2.1 39 (by decide)
      simp only [gA_sA, Nat.reduceEqDiff, if_false, g40, g41, e41, nI_1]
      have f1 : fr [] [40, 41] [42] τ (sA (sA τ1 40 (upd (gA τ 40) (6 * k + r) (nz 1))) 41 (upd (gA τ 41) (6 * k + r) (nI (cN a 18 (6 * k + r) + 1)))) := fr_sA (fr_sA (fr_up s2 (by decide) (by decide) (by decide)) (by decide)) (by decide)
      refine ⟨_, rfl, f1, mTape_fr f1 mT (by decide) (by decide) (by decide), mPlace_fr f1 mP (by decide) (by decide) (by decide), mSpan_fr f1 mS (by decide) (by decide) (by decide), mTab_fr f1 mTb (by decide) (by decide) (by decide), mRead_fr f1 mRd (by decide) (by decide) (by decide), mScr_fr f1 mSc (by decide) (by decide) (by decide), mWrk_fr f1 mW (by decide) (by decide) (by decide), fun k' r' hk' hr' => ?_, fun i hi => ?_, fun i hi => ?_⟩
      · show gA τ1 39 (6 * k' + r') = _
        rw [g39]; exact n1 k' r' hk' hr'
      · show upd (gA τ 41) (6 * k + r) (nI (cN a 18 (6 * k + r) + 1)) i = nI (uN (cN a 18) (6 * k + r) (cN a 18 (6 * k + r) + goesN a k r) i) ∧ upd (gA τ 40) (6 * k + r) (nz 1) i = if uN (cN a 18) (6 * k + r) (cN a 18 (6 * k + r) + goesN a k r) i = 0 then 0 else 1
        rw [upd_at, upd_at, uN_at, hg1]
        by_cases e : i = 6 * k + r
        · rw [if_pos e, if_pos e, if_pos e, if_neg (by omega)]; exact ⟨rfl, rfl⟩
        · rw [if_neg e, if_neg e, if_neg e]; exact n2 i hi
      · show gB τ1 42 i = if 8 * (6 * k + r) ≤ i ∧ i < 8 * (6 * k + r) + 8 then seenOf (cN a 11 r) (cL a 0) k (i - 8 * (6 * k + r)) else cL a 1 i
        rw [s3 i, Nat.add_zero]
        split
        · rfl
        · exact n3 i hi
    · rw [if_neg hg, if_pos rfl]
      have hg1 : goesN a k r = 0 := if_neg hg
      have hgf : goesB a k r = false := by simpa using hg
      unfold goesB at hgf
      rw [Bool.or_eq_false_iff] at hgf
      refine ⟨τ, rfl, fr_rf, mT, mP, mS, mTb, mRd, mSc, mW, n1, fun i hi => ?_, fun i hi => ?_⟩
      · show gA τ 41 i = nI (uN (cN a 18) (6 * k + r) (cN a 18 (6 * k + r) + goesN a k r) i) ∧ gA τ 40 i = if uN (cN a 18) (6 * k + r) (cN a 18 (6 * k + r) + goesN a k r) i = 0 then 0 else 1
        rw [uN_at, hg1, Nat.add_zero]
        by_cases e : i = 6 * k + r
        · rw [if_pos e, ← e]; exact n2 i hi
        · rw [if_neg e]; exact n2 i hi
      · show gB τ 42 i = if 8 * (6 * k + r) ≤ i ∧ i < 8 * (6 * k + r) + 8 then seenOf (cN a 11 r) (cL a 0) k (i - 8 * (6 * k + r)) else cL a 1 i
        split
        · rename_i c
          rw [dfr_none 8 0 hgf.2 (i - 8 * (6 * k + r)) (by omega) (by omega), show 8 * (6 * k + r) + (i - 8 * (6 * k + r)) = i by omega]
          exact n3 i hi
        · exact n3 i hi
  by_cases c0 : cN a 18 (6 * k + r) = 0
  · rw [if_pos c0, if_pos rfl]
    exact common 1 (by simp [c0])
  · rw [if_neg c0, if_neg one_ne]
    exact common 0 (by simp [c0])
theorem mSend_no {n : Nat} {a : AS} {τ : ST} {k r : Nat} (hk : k < 7) (hr : r < 6) (hrd : (cN a 17 k).testBit r = false) (hM : MR a τ) : fX11_sends n (nI k) (nI r) τ = some τ := by
  have hc : 6 * k + r < 42 := by omega
  unfold fX11_sends
  rw [m6, lt_def, if_pos (ix_nI hc (by decide)), ldA_nI _ _ _ (by omega), hM.2.2.2.2.2.2.2.1 k r hk hr, hrd, if_pos (show (if false = true then (1 : Int32) else 0) = 0 from rfl)]
