/-! ===== PURE: tick: a host works, the reference ===== -/
theorem mWork0 {m h : Nat} {a : AS} {τ : ST} (hh : h < 3) (hH : h < cS a 4) (h4 : cS a 4 ≤ 3) (h0 : cN a 12 h = 0) (hM : MR a τ) : fX11_tick_L111 (m + 1) (nI h) τ = fX11_tick_L111 m (nI (h + 1)) τ := by
  have e := hM.2.2.2.2.2.2.1.2.2.1 h hh
  rw [if_pos h0] at e
  rw [fX11_tick_L111, hM.2.2.2.2.2.2.1.2.1, if_neg (nI_ge hH (by omega)), if_pos (ix_nI hh (by decide)), ldA_nI _ _ _ (by omega), e, lt_def, if_pos rfl, lt_def, nI_1]
theorem mWork1 {m h k : Nat} {a : AS} {τ : ST} (hh : h < 3) (hH : h < cS a 4) (hk : cN a 12 h = k + 1) (hw : cN a 16 k + 1 < cN a 0 k) (hB : wfBg 0 0 a) (hM : MR a τ) (hky : mKeys τ) : ∃ τ', fX11_tick_L111 (m + 1) (nI h) τ = fX11_tick_L111 m (nI (h + 1)) τ' ∧ MR (aWk a k) τ' ∧ mKeys τ' := by
  obtain ⟨b1, b2, b3, b4, b5, b6, b7, b8, b9, b10⟩ := hB
  have hkK : k < cS a 1 := by have := b3 h hh; omega
  have hk7 : k < 7 := by omega
  have bt := b1.2.2.2 k hkK
  obtain ⟨mT, mP, mS, mTb, mR, ⟨v, hv, s11, s8, sK, sC⟩, ⟨y18, y19, y33, y34, y36, y35, y38, y37⟩, mPo⟩ := hM
  have e33 := y33 h hh
  rw [if_neg (by omega), hk, Nat.add_sub_cancel] at e33
  have e37 := y37 h hh (by omega)
  rw [hk, Nat.add_sub_cancel] at e37
  have e11 := (sK k hkK).2.1
  have i7 : ix (nI k) 7 := ix_nI hk7 (by decide)
  have i14 : ix (nI (7 * v + k)) 14 := ix_nI (by omega) (by decide)
  rw [fX11_tick_L111, y19, if_neg (nI_ge hH (by omega)), if_pos (ix_nI hh (by decide)), ldA_nI _ _ _ (by omega), e33, lt_def, if_neg (nI_ne_m1 (by omega)), if_pos i7, if_pos i7, ldA_nI τ 37 k (by omega), e37, nI_1, stA_nI τ 37 k _ (by omega), lt_def, if_pos i7, gI_sA, s11, m7, if_pos i14, ldA_nI _ 11 (7 * v + k) (by omega), ldA_nI _ 37 k (by omega), gA_sA, if_neg (show ¬ (11 = 37) by decide), gA_sA, if_pos rfl, upd_at, if_pos rfl, e11, if_neg (nI_ge hw (by omega)), lt_def, nI_1]
  refine ⟨_, rfl, ⟨mT, mP, mS, mTb, mR, ⟨v, hv, s11, s8, sK, sC⟩, ⟨y18, y19, y33, y34, y36, y35, y38, fun q hq hz => ?_⟩, mPo⟩, hky⟩
  show upd (gA τ 37) k (nI (cN a 16 k + 1)) (cN a 12 q - 1) = nI (uN (cN a 16) k (cN a 16 k + 1) (cN a 12 q - 1))
  rw [upd_at, uN_at]
  split
  · rfl
  · exact y37 q hq hz
theorem mWork2 {m h k c t : Nat} (hn : 2000 ≤ m) {a : AS} {τ : ST} (hh : h < 3) (hH : h < cS a 4) (hk : cN a 12 h = k + 1) (hw : ¬ cN a 16 k + 1 < cN a 0 k) (hA : wfA t a) (hB : wfBg 0 0 a) (hC : wfCm c a) (hD : wfD a) (hM : MR a τ) (hky : mKeys τ) : ∃ τ', fX11_tick_L111 (m + 1) (nI h) τ = fX11_tick_L111 m (nI (h + 1)) τ' ∧ MR (aDel (aFin (aWk a k) h k) k (cS a 2)) τ' ∧ mKeys τ' := by
  have hB' := fin_wfB hh hk hB
  obtain ⟨b1, b2, b3, b4, b5, b6, b7, b8, b9, b10⟩ := hB
  have hkK : k < cS a 1 := by have := b3 h hh; omega
  have hk7 : k < 7 := by omega
  have hK7 : cS a 1 ≤ 7 := b1.1
  have bt := b1.2.2.2 k hkK
  have bp := (b8 k hkK (Or.inr ⟨h, hh, hk⟩)).1
  obtain ⟨mT, mP, mS, mTb, mR, ⟨v, hv, s11, s8, sK, sC⟩, ⟨y18, y19, y33, y34, y36, y35, y38, y37⟩, mPo⟩ := hM
  have e33 := y33 h hh
  rw [if_neg (by omega), hk, Nat.add_sub_cancel] at e33
  have e37 := y37 h hh (by omega)
  rw [hk, Nat.add_sub_cancel] at e37
  have e11 := (sK k hkK).2.1
  have b6' := b6 h hh (by omega)
  rw [hk, Nat.add_sub_cancel] at b6'
  have i7 : ix (nI k) 7 := ix_nI hk7 (by decide)
  have i3 : ix (nI h) 3 := ix_nI hh (by decide)
  have i14 : ix (nI (7 * v + k)) 14 := ix_nI (by omega) (by decide)
  rw [fX11_tick_L111, y19, if_neg (nI_ge hH (by omega)), if_pos (ix_nI hh (by decide)), ldA_nI _ _ _ (by omega), e33, lt_def, if_neg (nI_ne_m1 (by omega)), if_pos i7, if_pos i7, ldA_nI τ 37 k (by omega), e37, nI_1, stA_nI τ 37 k _ (by omega), lt_def, if_pos i7, gI_sA, s11, m7, if_pos i14, ldA_nI _ 11 (7 * v + k) (by omega), ldA_nI _ 37 k (by omega), gA_sA, if_neg (show ¬ (11 = 37) by decide), gA_sA, if_pos rfl, upd_at, if_pos rfl, e11, if_pos (nI_le (by omega) (by omega)), if_pos i3, lt_def, if_pos i7, lt_def, stA_nI _ 33 h _ (by omega), stA_nI _ 37 k _ (by omega)]
  generalize hs3 : sA (sA (sA τ 37 (upd (gA τ 37) k (nI (cN a 16 k + 1)))) 33 (upd (gA (sA τ 37 (upd (gA τ 37) k (nI (cN a 16 k + 1)))) 33) h (-1))) 37 (upd (gA (sA (sA τ 37 (upd (gA τ 37) k (nI (cN a 16 k + 1)))) 33 (upd (gA (sA τ 37 (upd (gA τ 37) k (nI (cN a 16 k + 1)))) 33) h (-1))) 37) k 0) = τ3
  have f3 : fr [] [33, 37] [] τ τ3 := by rw [← hs3]; exact fr_sA (fr_sA (fr_sA fr_rf (by decide)) (by decide)) (by decide)
  have g33 : gA τ3 33 = upd (gA τ 33) h (-1) := by rw [← hs3]; rfl
  have g37 : gA τ3 37 = upd (upd (gA τ 37) k (nI (cN a 16 k + 1))) k 0 := by rw [← hs3]; rfl
  clear hs3
  have hO : mCodeOk a k v τ3 := by
    refine ⟨?_, ?_, ?_, fun x hx => ?_, fun w z1 z2 g hg => ?_⟩
    · rw [f3.1 11 (by decide)]; exact s11
    · rw [f3.2.1 15 (by decide)]; exact (sK k hkK).2.2.2.2.2.2.2.2
    · rw [f3.2.1 19 (by decide), f3.2.1 20 (by decide)]; exact sC
    · rw [f3.2.1 28 (by decide), f3.2.1 29 (by decide), f3.2.1 30 (by decide)]
      have hx' := hA.2.2.1.2 x hx
      exact ⟨(mTb.1 x hx).2.2, hx'.2.2.1, fun i hi => ⟨(mTb.2.2 x i hx hi).1, (mTb.2.2 x i hx hi).2, hx'.2.2.2.2.2 i hi⟩⟩
    · rw [f3.2.2 38 (by decide)]
      exact y38 w (by omega) (bp w z1) g hg
  obtain ⟨τ4, r1, r2, r3⟩ := mWorks (n := m) (by omega) hv hK7 hkK hD b1.2.2.1 hO (by rw [f3.2.1 14 (by decide)]; exact (sK k hkK).2.2.2.2.2.2.2.1)
  rw [r1, Option.bind_some]
  have f4 : fr [] [33, 37] [38, 43] τ τ4 := fr_tr (fr_up f3 (by decide) (by decide) (by decide)) (fr_up r2 (by decide) (by decide) (by decide))
  have g18 : gI τ4 18 = nI (cS a 3) := by rw [f4.1 18 (by decide)]; exact y18
  rw [if_pos i7, g18, stA_nI τ4 35 k _ (by omega), lt_def, if_pos i7, if_pos i7, ldA_nI _ 36 k (by omega), gA_sA, if_neg (show ¬ (36 = 35) by decide), f4.2.1 36 (by decide), y36 k hkK, nI_1, stA_nI _ 36 k _ (by omega), lt_def]
  generalize hs5 : sA (sA τ4 35 (upd (gA τ4 35) k (nI (cS a 3)))) 36 (upd (gA (sA τ4 35 (upd (gA τ4 35) k (nI (cS a 3)))) 36) k (nI (cN a 15 k + 1))) = τ5
  have f5 : fr [] [33, 35, 36, 37] [38, 43] τ τ5 := by
    rw [← hs5]; exact fr_sA (fr_sA (fr_up f4 (by decide) (by decide) (by decide)) (by decide)) (by decide)
  have k35 : gA τ5 35 = upd (gA τ 35) k (nI (cS a 3)) := by rw [← hs5, ← f4.2.1 35 (by decide)]; rfl
  have k36 : gA τ5 36 = upd (gA τ 36) k (nI (cN a 15 k + 1)) := by rw [← hs5, ← f4.2.1 36 (by decide)]; rfl
  have k33 : gA τ5 33 = upd (gA τ 33) h (-1) := by rw [← hs5, ← g33, ← r2.2.1 33 (by decide)]; rfl
  have k37 : gA τ5 37 = upd (upd (gA τ 37) k (nI (cN a 16 k + 1))) k 0 := by rw [← hs5, ← g37, ← r2.2.1 37 (by decide)]; rfl
  have k38 : ∀ i, gB τ5 38 i = if 8 * k ≤ i ∧ i < 8 * k + 8 then (evA a k (i - 8 * k)).headD 0 else gB τ 38 i := by
    intro i
    have := r3 i
    rw [f3.2.2 38 (by decide)] at this
    rw [← hs5]; exact this
  clear hs5
  have hky5 : mKeys τ5 := mKeys_fr f5 (by decide) hky
  have hM5 : MR (aFin (aWk a k) h k) τ5 := by
    refine ⟨mTape_fr f5 mT (by decide) (by decide) (by decide), mPlace_fr f5 mP (by decide) (by decide) (by decide), mSpan_fr f5 mS (by decide) (by decide) (by decide), mTab_fr f5 mTb (by decide) (by decide) (by decide), mRead_fr f5 mR (by decide) (by decide) (by decide), mScr_fr (a := a) f5 ⟨v, hv, s11, s8, sK, sC⟩ (by decide) (by decide) (by decide), ⟨?_, ?_, fun q hq => ?_, ?_, fun j hj => ?_, fun j hj => ?_, fun j hj hd g hg => ?_, fun q hq hz => ?_⟩, mPost_fr f5 mPo (by decide) (by decide) (by decide)⟩
    · rw [f5.1 18 (by decide)]; exact y18
    · rw [f5.1 19 (by decide)]; exact y19
    · rw [k33]
      show upd (gA τ 33) h (-1) q = if uN (cN a 12) h 0 q = 0 then -1 else nI (uN (cN a 12) h 0 q - 1)
      rw [upd_at, uN_at]
      by_cases e : q = h
      · rw [if_pos e, if_pos e, if_pos rfl]
      · rw [if_neg e, if_neg e]; exact y33 q hq
    · rw [f5.2.1 34 (by decide)]; exact y34
    · rw [k36]
      show upd (gA τ 36) k (nI (cN a 15 k + 1)) j = nI (uN (cN a 15) k (cN a 15 k + 1) j)
      rw [upd_at, uN_at]
      split
      · rfl
      · exact y36 j hj
    · rw [k35]
      show upd (gA τ 35) k (nI (cS a 3)) j = if (cS a 6 ||| 2 ^ k).testBit j = true then nI (uN (cN a 14) k (cS a 3) j) else -1
      rw [upd_at, uN_at, testBit_set]
      by_cases e : j = k
      · rw [if_pos e, if_pos e, if_pos (by simp [e])]
      · rw [if_neg e, if_neg e, show decide (k = j) = false by simp; omega, Bool.or_false]
        exact y35 j hj
    · rw [k38]
      have hd' : (cS a 6 ||| 2 ^ k).testBit j = true := hd
      show _ = valN (aWk a k) k (8 * j + g)
      unfold valN
      by_cases e : j = k
      · subst e
        rw [if_pos (by omega), if_pos (by omega)]; rfl
      · rw [if_neg (by omega), if_neg (by omega)]
        rw [testBit_set, Bool.or_eq_true] at hd'
        rcases hd' with z | z
        · exact y38 j hj z g hg
        · exact absurd (of_decide_eq_true z).symm e
    · rw [k37]
      have hz' : uN (cN a 12) h 0 q ≠ 0 := hz
      show upd (upd (gA τ 37) k (nI (cN a 16 k + 1))) k 0 (uN (cN a 12) h 0 q - 1) = nI (uN (cN a 16) k (cN a 16 k + 1) (uN (cN a 12) h 0 q - 1))
      rw [uN_at (cN a 12)] at hz' ⊢
      by_cases e : q = h
      · rw [if_pos e] at hz'; exact absurd rfl hz'
      · rw [if_neg e] at hz' ⊢
        have hne : cN a 12 q - 1 ≠ k := fun z => e (b4 q h hq hh hz' (by omega))
        rw [upd_at, upd_at, uN_at, if_neg hne, if_neg hne, if_neg hne]
        exact y37 q hq hz'
  rw [f5.1 11 (by decide), s11, m7, if_pos i14, ldA_nI _ _ _ (by omega), f5.2.1 10 (by decide), (sK k hkK).1]
  simp only [pif, lt_def, nI_1]
  by_cases c5 : (cS a 5).testBit k = true
  · rw [if_pos c5]
    obtain ⟨τ7, s1, s2, s3⟩ := mDeliver (a := aFin (aWk a k) h k) (k := k) (t := t) (u := 0) (c := c) (h := h) hkK c5 (by
      show (cS a 6 ||| 2 ^ k).testBit k = true
      rw [testBit_set]; simp) hA hB' hC hD (fun (x1_56 : Int32) (σ_57 : ST) => (fX11_tick_L111 m (x1_56 + 1) σ_57)) (cS a 2) 0 m τ5 (Nat.zero_add _) (by have : cS a 2 ≤ 6 := hA.2.2.2.1; omega) hM5 hky5
    rw [show (0 : Int32) = nI 0 from rfl, s1, nI_1]
    exact ⟨τ7, rfl, s2, s3⟩
  · rw [if_neg c5]
    refine ⟨τ5, rfl, ?_, hky5⟩
    have h17 : cN a 17 k = 0 := by
      rcases Nat.eq_zero_or_pos (cN a 17 k) with z | z
      · exact z
      · exact absurd ((hC.1 k hk7).2 (by omega)).2 c5
    have hid : ∀ r, aDel (aFin (aWk a k) h k) k r = aFin (aWk a k) h k := by
      intro r
      induction r with
      | zero => rfl
      | succ r ih =>
        rw [aDel, if_neg, ih]
        rintro ⟨z, -⟩
        have z' : (cN a 17 k).testBit r = true := z
        rw [h17, Nat.zero_testBit] at z'; cases z'
    rw [hid]; exact hM5
/-! ===== PURE: tick ===== -/
theorem worksH {H : Nat} : ∀ d h n c a σ τ, h + d = H → d + 3000 < n → c + 6 * d ≤ 15000 → cS a 4 = H → wfA 600 a → wfBg 0 0 a → wfCm c a → wfD a → (∀ q, q < h → q < 3 → cN a 12 q ≠ 0 → 1 ≤ cN a 16 (cN a 12 q - 1)) → XR a σ → MR a τ → mKeys τ →
    ∃ a' σ' τ', fX9_passTick_L43 n (nI h) σ = some σ' ∧ fX11_tick_L111 n (nI h) τ = some (nI (cS a 3), τ') ∧ gI σ' 18 = nI (cS a 3) ∧ (∀ t, wfA t a → wfA t a') ∧ wfB 0 a' ∧ wfCm (c + 6 * d) a' ∧ wfD a' ∧ XR a' σ' ∧ MR a' τ' ∧ mKeys τ' := by
  intro d
  induction d with
  | zero =>
    intro h n c a σ τ hh hn hc hH hA hB hC hD hw hX hM hk
    obtain ⟨m, rfl⟩ : ∃ m, n = m + 1 := ⟨n - 1, by omega⟩
    have hH3 := hB.2.1.2.2.1
    refine ⟨a, σ, τ, ?_, ?_, hX.2.2.2.2.2.2.1.1, fun t z => z, wfBg_up hB (fun q hq hz => ?_), hC, hD, hX, hM, hk⟩
    · rw [fX9_passTick_L43, hX.2.2.2.2.2.2.1.2.1, hH, if_pos (nI_le (by omega) (by omega))]
    · rw [fX11_tick_L111, hM.2.2.2.2.2.2.1.2.1, hH, if_pos (nI_le (by omega) (by omega)), hM.2.2.2.2.2.2.1.1]
    · rcases Nat.lt_or_ge q h with z | z
      · exact hw q z hq hz
      · exact absurd (hB.2.2.2.2.1 q (by omega) hq) hz
  | succ d ih =>
    intro h n c a σ τ hh hn hc hH hA hB hC hD hw hX hM hk
    obtain ⟨m, rfl⟩ : ∃ m, n = m + 1 := ⟨n - 1, by omega⟩
    have hH3 := hB.2.1.2.2.1
    have h3 : h < 3 := by omega
    rw [fX9_passTick_L43, hX.2.2.2.2.2.2.1.2.1, hH, if_neg (nI_ge (by omega) (by omega))]
    simp only [lt_def]
    by_cases h0 : cN a 12 h = 0
    · rw [xWork0 h3 h0 hX, Option.bind_some, mWork0 h3 (by omega) hH3 h0 hM, nI_1]
      obtain ⟨a', σ', τ', z1, z2, z3, z4, z5, z6, z7⟩ := ih (h + 1) m c a σ τ (by omega) (by omega) (by omega) hH hA hB hC hD (fun q hq hq3 hz => by
        rcases Nat.lt_or_ge q h with y | y
        · exact hw q y hq3 hz
        · have : q = h := by omega
          subst this; exact absurd h0 hz) hX hM hk
      exact ⟨a', σ', τ', z1, z2, z3, z4, z5, ⟨z6.1, fun i hi => Nat.le_trans (z6.2.1 i hi) (by omega), z6.2.2⟩, z7⟩
    · obtain ⟨k, hkk⟩ : ∃ k, cN a 12 h = k + 1 := ⟨cN a 12 h - 1, by omega⟩
      have hkK : k < cS a 1 := by have := hB.2.2.1 h h3; omega
      by_cases hwk : cN a 16 k + 1 < cN a 0 k
      · obtain ⟨σ1, x1, x2⟩ := xWork1 (n := m) h3 hkk hwk hB hX
        obtain ⟨τ1, y1, y2, y3⟩ := mWork1 (m := m) h3 (by omega) hkk hwk hB hM hk
        rw [x1, Option.bind_some, y1, nI_1]
        obtain ⟨a', σ', τ', z1, z2, z3, z4, z5, z6, z7⟩ := ih (h + 1) m c (aWk a k) σ1 τ1 (by omega) (by omega) (by omega) hH hA (wk_wfB h3 hkk hwk hB) hC hD (fun q hq hq3 hz => by
          have hz' : cN a 12 q ≠ 0 := hz
          show 1 ≤ uN (cN a 16) k (cN a 16 k + 1) (cN a 12 q - 1)
          rw [uN_at]
          split
          · omega
          · rename_i e
            rcases Nat.lt_or_ge q h with y | y
            · exact hw q y hq3 hz'
            · have : q = h := by omega
              subst this; omega) x2 y2 y3
        exact ⟨a', σ', τ', z1, z2, z3, z4, z5, ⟨z6.1, fun i hi => Nat.le_trans (z6.2.1 i hi) (by omega), z6.2.2⟩, z7⟩
      · obtain ⟨σ1, x1, x2⟩ := xWork2 (n := m) (c := c) (t := 600) (by omega) h3 hkk hwk hA hB hC (by omega) hD hX
        obtain ⟨τ1, y1, y2, y3⟩ := mWork2 (m := m) (c := c) (t := 600) (by omega) h3 (by omega) hkk hwk hA hB hC hD hM hk
        rw [x1, Option.bind_some, y1, nI_1]
        have hn6 : cS a 2 ≤ 6 := hA.2.2.2.1
        have hB' := fin_wfB h3 hkk hB
        have hwf : (∀ t, wfA t a → wfA t (aDel (aFin (aWk a k) h k) k (cS a 2))) ∧ wfBg 0 0 (aDel (aFin (aWk a k) h k) k (cS a 2)) ∧ wfCm (c + 6) (aDel (aFin (aWk a k) h k) k (cS a 2)) ∧ wfD (aDel (aFin (aWk a k) h k) k (cS a 2)) := by
          by_cases c5 : (cS a 5).testBit k = true
          · have key : ∀ t, wfA t a → wfA t (aDel (aFin (aWk a k) h k) k (cS a 2)) ∧ wfBg 0 0 (aDel (aFin (aWk a k) h k) k (cS a 2)) ∧ wfCm (c + cS a 2) (aDel (aFin (aWk a k) h k) k (cS a 2)) ∧ wfD (aDel (aFin (aWk a k) h k) k (cS a 2)) := fun t ht => aDel_wf (a := aFin (aWk a k) h k) (by have := hB.1.1; omega) c5 ht hB' hC hD (cS a 2) hn6
            obtain ⟨k1, k2, k3, k4⟩ := key 600 hA
            exact ⟨fun t ht => (key t ht).1, k2, ⟨k3.1, fun i hi => Nat.le_trans (k3.2.1 i hi) (by omega), k3.2.2⟩, k4⟩
          · have h17 : cN a 17 k = 0 := by
              rcases Nat.eq_zero_or_pos (cN a 17 k) with z | z
              · exact z
              · exact absurd ((hC.1 k (by have := hB.1.1; omega)).2 (by omega)).2 c5
            have hid : ∀ r, aDel (aFin (aWk a k) h k) k r = aFin (aWk a k) h k := by
              intro r
              induction r with
              | zero => rfl
              | succ r ih =>
                rw [aDel, if_neg, ih]
                rintro ⟨z, -⟩
                have z' : (cN a 17 k).testBit r = true := z
                rw [h17, Nat.zero_testBit] at z'; cases z'
            rw [hid]
            exact ⟨fun t ht => ht, hB', ⟨hC.1, fun i hi => Nat.le_trans (hC.2.1 i hi) (by omega), hC.2.2⟩, hD⟩
        obtain ⟨v1, v2, v3, v4⟩ := hwf
        obtain ⟨s1, s2, s3, s4, s5, s6, s7, s8, s9, s10, s11⟩ := aDel_same (aFin (aWk a k) h k) k (cS a 2)
        obtain ⟨a', σ', τ', z1, z2, z3, z4, z5, z6, z7⟩ := ih (h + 1) m (c + 6) (aDel (aFin (aWk a k) h k) k (cS a 2)) σ1 τ1 (by omega) (by omega) (by omega) (by rw [s9]; exact hH) (v1 600 hA) v2 v3 v4 (fun q hq hq3 hz => by
          rw [s10] at hz ⊢
          rw [s11]
          have hz' : uN (cN a 12) h 0 q ≠ 0 := hz
          show 1 ≤ uN (cN a 16) k (cN a 16 k + 1) (uN (cN a 12) h 0 q - 1)
          rw [uN_at (cN a 12)] at hz' ⊢
          by_cases e : q = h
          · rw [if_pos e] at hz'; exact absurd rfl hz'
          · rw [if_neg e] at hz' ⊢
            rw [uN_at]
            split
            · omega
            · exact hw q (by omega) hq3 hz') x2 y2 y3
        rw [s8] at z2 z3
        exact ⟨a', σ', τ', z1, z2, z3, fun t ht => z4 t (v1 t ht), z5, ⟨z6.1, fun i hi => Nat.le_trans (z6.2.1 i hi) (by omega), z6.2.2⟩, z7⟩
theorem wfA_le {t u : Nat} {a : AS} (h : wfA t a) (htu : t ≤ u) : wfA u a := ⟨h.1, h.2.1, ⟨h.2.2.1.1, fun x hx => ⟨Nat.le_trans (h.2.2.1.2 x hx).1 htu, (h.2.2.1.2 x hx).2⟩⟩, h.2.2.2⟩
theorem tick_gen {n t : Nat} (hn : 4000 ≤ n) (ht : t < 512) {a : AS} {σ τ : ST} (hnow : cS a 3 < 399) (hA : wfA t a) (hB : wfB t a) (hC : wfC t a) (hD : wfD a) (hX : XR a σ) (hM : MR a τ) (hk : mKeys τ) : ∃ a' σ' τ', fX9_passTick n σ = some σ' ∧ gI σ' 18 = nI (cS a 3 + 1) ∧ fX11_tick n τ = some (nI (cS a 3 + 1), τ') ∧ wfA (t + 1) a' ∧ wfB (t + 1) a' ∧ wfC (t + 1) a' ∧ wfD a' ∧ XR a' σ' ∧ MR a' τ' ∧ mKeys τ' := by
  have x18 := hX.2.2.2.2.2.2.1.1
  have m18 := hM.2.2.2.2.2.2.1.1
  have hB1 : wfBg 0 0 (tS a 3 (cS a 3 + 1)) := by
    obtain ⟨b1, b2, b3, b4, b5, b6, b7, b8, b9, b10⟩ := wfBg_0 (wfBg_1 hB)
    exact ⟨b1, ⟨show cS a 3 + 1 ≤ 399 by omega, b2.2⟩, b3, b4, b5, b6, fun k hk hd => Nat.le_succ_of_le (b7 k hk hd), b8, b9, b10⟩
  have hX1 : XR (tS a 3 (cS a 3 + 1)) (sI σ 18 (nI (cS a 3 + 1))) := by
    obtain ⟨xT, xP, xS, xTb, xR, xSc, ⟨y18, yy⟩, xPo⟩ := hX
    exact ⟨xT, xP, xS, xTb, xR, xSc, ⟨rfl, yy⟩, xPo⟩
  have hM1 : MR (tS a 3 (cS a 3 + 1)) (sI τ 18 (nI (cS a 3 + 1))) := by
    obtain ⟨mT, mP, mS, mTb, mR, mSc, ⟨y18, yy⟩, mPo⟩ := hM
    exact ⟨mT, mP, mS, mTb, mR, mSc, ⟨rfl, yy⟩, mPo⟩
  have h43 : cS a 4 ≤ 3 := hB.2.1.2.2.1
  unfold fX9_passTick fX11_tick
  rw [lt_def, lt_def, x18, m18, if_neg (fun z => by rw [show (399 : Int32) = nI 399 from rfl, nI_eq (by omega) (by decide)] at z; omega), lt_def, lt_def, nI_1, show (0 : Int32) = nI 0 from rfl]
  simp only [lt_def]
  obtain ⟨a1, σ1, τ1, r1, r2, r3, r4, r5, r6, r7, r8, r9, r10, r11, r12⟩ := begins (H := cS a 4) (fun (σ_9 : ST) => (fX9_passTick_L43 n (nI 0) σ_9)) (fun (σ_24 : ST) => (fX11_tick_L111 n (nI 0) σ_24)) (cS a 4) 0 n (tS a 3 (cS a 3 + 1)) (sI σ 18 (nI (cS a 3 + 1))) (sI τ 18 (nI (cS a 3 + 1))) (by omega) (by omega) rfl (wfA_le (show wfA t (tS a 3 (cS a 3 + 1)) from hA) (by omega)) hB1 hD hX1 hM1 hk
  rw [r1, r2]
  have hC1 : wfCm (20 * t) (tS a 3 (cS a 3 + 1)) := hC
  obtain ⟨a', σ', τ', z1, z2, z3, z4, z5, z6, z7, z8, z9, z10⟩ := worksH (H := cS a 4) (cS a 4) 0 n (20 * t) a1 σ1 τ1 (by omega) (by omega) (by omega) r3 r4 r5 (r10 _ hC1) r6 (fun q hq => absurd hq (Nat.not_lt_zero q)) r7 r8 r9
  rw [r12] at z2 z3
  have e3 : cS (tS a 3 (cS a 3 + 1)) 3 = cS a 3 + 1 := rfl
  rw [e3] at z2 z3
  refine ⟨a', σ', τ', z1, z3, z2, z4 (t + 1) (r11 (t + 1) (wfA_mono (show wfA t (tS a 3 (cS a 3 + 1)) from hA))), z5, ⟨z6.1, fun i hi => Nat.le_trans (z6.2.1 i hi) (by omega), z6.2.2⟩, z7, z8, z9, z10⟩
theorem sim_tick : SimStep Rel0 (fX10_tick FU) (fX11_tick FU) := by
  intro t σ τ ht hR
  obtain ⟨a, hA, hB, hC, hD, hX, hM, hk⟩ := id hR
  have hle : cS a 3 ≤ 399 := hB.2.1.1
  by_cases c : cS a 3 < 399
  · obtain ⟨a', σ', τ', r1, r2, r3, r4⟩ := tick_gen (n := FU) (by decide) ht c hA hB hC hD hX hM hk
    refine ⟨nI (cS a 3 + 1), σ', τ', ?_, r3, a', r4⟩
    unfold fX10_tick
    rw [hX.2.2.2.2.2.2.1.1, if_pos (show nI (cS a 3) < 399 from nI_lt c (by decide)), r1, Option.bind_some, r2]
  · have e : cS a 3 = 399 := by omega
    refine ⟨-1, σ, τ, ?_, ?_, rel_same hR⟩
    · unfold fX10_tick
      rw [hX.2.2.2.2.2.2.1.1, e, if_neg (by decide)]
    · unfold fX11_tick
      rw [hM.2.2.2.2.2.2.1.1, e, if_pos (by decide)]
