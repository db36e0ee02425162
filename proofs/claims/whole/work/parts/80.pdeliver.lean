/-! ===== PURE: tick: a report is delivered ===== -/
def aDel (a : AS) (k : Nat) : Nat → AS
  | 0 => a
  | r + 1 => if (cN a 17 k).testBit r = true ∧ (cS a 7).testBit r = false then aOffer (aDel a k r) k r else aDel a k r
theorem aDel_same (a : AS) (k : Nat) : ∀ r, cN (aDel a k r) 17 = cN a 17 ∧ cS (aDel a k r) 6 = cS a 6 ∧ cS (aDel a k r) 1 = cS a 1 ∧ cS (aDel a k r) 2 = cS a 2 ∧ cN (aDel a k r) 11 = cN a 11 ∧ cS (aDel a k r) 5 = cS a 5 ∧ cS (aDel a k r) 7 = cS a 7 ∧ cS (aDel a k r) 3 = cS a 3 ∧ cS (aDel a k r) 4 = cS a 4 ∧ cN (aDel a k r) 12 = cN a 12 ∧ cN (aDel a k r) 16 = cN a 16 := by
  intro r
  induction r with
  | zero => exact ⟨rfl, rfl, rfl, rfl, rfl, rfl, rfl, rfl, rfl, rfl, rfl⟩
  | succ r ih =>
    rw [aDel]
    split
    · exact ih
    · exact ih
theorem aDel_wf {t u m c : Nat} {a : AS} {k : Nat} (hk : k < 7) (hrep : (cS a 5).testBit k = true) (hA : wfA t a) (hB : wfBg m u a) (hC : wfCm c a) (hD : wfD a) : ∀ r, r ≤ 6 → wfA t (aDel a k r) ∧ wfBg m u (aDel a k r) ∧ wfCm (c + r) (aDel a k r) ∧ wfD (aDel a k r) := by
  intro r
  induction r with
  | zero => intro _; exact ⟨hA, hB, hC, hD⟩
  | succ r ih =>
    intro hr
    obtain ⟨h1, h2, h3, h4⟩ := ih (by omega)
    rw [aDel]
    split
    · exact ⟨h1, h2, offer_wfC hk (by omega) (by rw [(aDel_same a k r).2.2.2.2.2.1]; exact hrep) h3, h4⟩
    · exact ⟨h1, h2, ⟨h3.1, fun i hi => Nat.le_trans (h3.2.1 i hi) (by omega), h3.2.2⟩, h4⟩
theorem xDeliver {t u c : Nat} {a : AS} {k : Nat} (hk : k < cS a 1) (hrep : (cS a 5).testBit k = true) (hd : (cS a 6).testBit k = true) (hA : wfA t a) (hB : wfBg 0 u a) (hC : wfCm c a) (hD : wfD a) (hc : c ≤ 20000) : ∀ d r n σ, r + d = cS a 2 → d + 200 < n → XR (aDel a k r) σ → ∃ σ', fX3_deliver_L2 n (nI k) (nI r) σ = some σ' ∧ XR (aDel a k (cS a 2)) σ' := by
  have hn6 : cS a 2 ≤ 6 := hA.2.2.2.1
  have hK : cS a 1 ≤ 7 := hB.1.1
  have h7 : cS a 7 < 64 := Nat.lt_of_lt_of_le hA.2.2.2.2.1 (pow_le_64 hn6)
  intro d
  induction d with
  | zero =>
    intro r n σ hr hn hX
    obtain ⟨m', rfl⟩ : ∃ m', n = m' + 1 := ⟨n - 1, by omega⟩
    have : r = cS a 2 := by omega
    subst this
    have q4 := (aDel_same a k (cS a 2)).2.2.2.1
    exact ⟨σ, by rw [fX3_deliver_L2, hX.2.2.2.2.1.1, q4, if_pos (nI_le (Nat.le_refl _) (by omega))], hX⟩
  | succ d ih =>
    intro r n σ hr hn hX
    obtain ⟨m', rfl⟩ : ∃ m', n = m' + 1 := ⟨n - 1, by omega⟩
    obtain ⟨q1, q2, q3, q4, q5, q6, q7, -⟩ := aDel_same a k r
    obtain ⟨w1, w2, w3, w4⟩ := aDel_wf (by omega) hrep hA hB hC hD r (by omega)
    have h17 : cN a 17 k < 64 := Nat.lt_of_lt_of_le (hC.1 k (by omega)).1 (pow_le_64 hn6)
    rw [fX3_deliver_L2, hX.2.2.2.2.1.1, q4, if_neg (nI_ge (by omega) (by omega)), xIsRead (a := aDel a k r) hX.2.2.2.2.2.2.2.2.1 (by rw [q1]; omega) (by omega) (by omega)]
    simp only [Option.bind_some, pif, lt_def, q1]
    rw [nI_1]
    have hstep := aDel.eq_2 a k r
    by_cases c1 : (cN a 17 k).testBit r = true
    · rw [if_pos c1, xHeld (b := cS a 7) (by rw [← q7]; exact hX.2.2.2.2.1.2.1) h7 (by omega)]
      simp only [Option.bind_some, pif]
      by_cases c2 : (cS a 7).testBit r = true
      · rw [if_pos c2]
        rw [if_neg (fun z => by rw [c2] at z; exact absurd z.2 (by decide))] at hstep
        exact ih (r + 1) m' σ (by omega) (by omega) (by rw [hstep]; exact hX)
      · rw [if_neg c2]
        have c2' : (cS a 7).testBit r = false := by simpa using c2
        obtain ⟨σ1, r1, -, r3⟩ := xOffer (n := m') (by omega) (a := aDel a k r) (r := r) (show k < 7 by omega) (by rw [q3]; exact hk) (by rw [q4]; omega) (by rw [q4]; exact hn6) (by rw [q5]; exact hA.2.2.2.2.2 r (by omega)) (by have := w3.2.1 (6 * k + r) (by omega); omega) (by rw [q2]; exact hd) hX
        rw [r1, Option.bind_some]
        rw [if_pos ⟨c1, c2'⟩] at hstep
        exact ih (r + 1) m' σ1 (by omega) (by omega) (by rw [hstep]; exact r3)
    · rw [if_neg c1]
      rw [if_neg (fun z => c1 z.1)] at hstep
      exact ih (r + 1) m' σ (by omega) (by omega) (by rw [hstep]; exact hX)
theorem mDeliver {t u c h : Nat} {a : AS} {k : Nat} (hk : k < cS a 1) (hrep : (cS a 5).testBit k = true) (hd : (cS a 6).testBit k = true) (hA : wfA t a) (hB : wfBg 0 u a) (hC : wfCm c a) (hD : wfD a) (k257 : Int32 → ST → Option (Int32 × ST)) : ∀ d r n τ, r + d = cS a 2 → d + 200 < n → MR (aDel a k r) τ → mKeys τ → ∃ τ', fX11_tick_L228 k257 n (nI h) (nI k) (nI r) τ = k257 (nI h) τ' ∧ MR (aDel a k (cS a 2)) τ' ∧ mKeys τ' := by
  have hn6 : cS a 2 ≤ 6 := hA.2.2.2.1
  have hK : cS a 1 ≤ 7 := hB.1.1
  intro d
  induction d with
  | zero =>
    intro r n τ hr hn hM hk
    obtain ⟨m', rfl⟩ : ∃ m', n = m' + 1 := ⟨n - 1, by omega⟩
    have : r = cS a 2 := by omega
    subst this
    have q4 := (aDel_same a k (cS a 2)).2.2.2.1
    exact ⟨τ, by rw [fX11_tick_L228, hM.2.2.2.2.1.1, q4, if_pos (nI_le (Nat.le_refl _) (by omega))], hM, hk⟩
  | succ d ih =>
    intro r n τ hr hn hM hky
    obtain ⟨m', rfl⟩ : ∃ m', n = m' + 1 := ⟨n - 1, by omega⟩
    obtain ⟨q1, q2, q3, q4, q5, q6, q7, -⟩ := aDel_same a k r
    have e32 := (hM.2.2.2.2.1.2 r (by rw [q4]; omega)).2
    rw [q7] at e32
    rw [fX11_tick_L228, hM.2.2.2.2.1.1, q4, if_neg (nI_ge (by omega) (by omega)), if_pos (ix_nI (show r < 6 by omega) (by decide)), ldA_nI _ _ _ (by omega), e32]
    simp only [pif, lt_def]
    rw [nI_1]
    have hstep := aDel.eq_2 a k r
    by_cases c2 : (cS a 7).testBit r = true
    · rw [if_pos c2]
      rw [if_neg (fun z => by rw [c2] at z; exact absurd z.2 (by decide))] at hstep
      exact ih (r + 1) m' τ (by omega) (by omega) (by rw [hstep]; exact hM) hky
    · rw [if_neg c2]
      have c2' : (cS a 7).testBit r = false := by simpa using c2
      by_cases c1 : (cN a 17 k).testBit r = true
      · obtain ⟨τ1, r1, r2, r3⟩ := mSend (n := m') (by omega) (a := aDel a k r) (r := r) (show k < 7 by omega) (by rw [q3]; exact hk) (by rw [q4]; omega) (by rw [q4]; exact hn6) (by rw [q5]; exact hA.2.2.2.2.2 r (by omega)) (by rw [q2]; exact hd) (by rw [q1]; exact c1) hM
        rw [r1, Option.bind_some]
        rw [if_pos ⟨c1, c2'⟩] at hstep
        exact ih (r + 1) m' τ1 (by omega) (by omega) (by rw [hstep]; exact r3) (mKeys_fr r2 (by decide) hky)
      · rw [mSend_no (a := aDel a k r) (show k < 7 by omega) (by omega) (by rw [q1]; simpa using c1) hM, Option.bind_some]
        rw [if_neg (fun z => c1 z.1)] at hstep
        exact ih (r + 1) m' τ (by omega) (by omega) (by rw [hstep]; exact hM) hky
