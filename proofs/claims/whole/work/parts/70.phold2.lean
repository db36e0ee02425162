/-! ===== PURE: hold ===== -/
theorem catchN_end {t m : Nat} {a : AS} {r : Nat} (hB : wfB t a) : ∀ d, cS a 1 + d ≤ 7 → catchN a r (cS a 1 + d) = catchN a r (cS a 1) := by
  intro d
  induction d with
  | zero => intro _; rfl
  | succ d ih =>
    intro h
    rw [← Nat.add_assoc, catchN, if_neg, ih (by omega)]
    rintro ⟨-, z⟩
    rw [Nat.testBit_lt_two_pow (Nat.lt_of_lt_of_le hB.2.1.2.2.2 (Nat.pow_le_pow_right (by decide) (by omega)))] at z
    cases z
theorem mCatch {t m : Nat} {a : AS} {r : Nat} (hA : wfA t a) (hB : wfB t a) (hC : wfCm m a) (hD : wfD a) (hr : r < cS a 2) (hm : m ≤ 20000) : ∀ d s n τ, s + d = cS a 1 → d + 100 < n → MR (catchN a r s) τ → mKeys τ → ∃ τ', fX11_hold_L33 n (nI r) (nI s) τ = some (1, τ') ∧ MR (catchN a r (cS a 1)) τ' ∧ mKeys τ' := by
  have hn6 : cS a 2 ≤ 6 := hA.2.2.2.1
  have hK : cS a 1 ≤ 7 := hB.1.1
  intro d
  induction d with
  | zero =>
    intro s n τ hs hn hM hk
    obtain ⟨m', rfl⟩ : ∃ m', n = m' + 1 := ⟨n - 1, by omega⟩
    have : s = cS a 1 := by omega
    subst this
    obtain ⟨v, hv, m1, m2, m3, m4⟩ := hM.2.2.2.2.2.1
    rw [(catchN_same a r (cS a 1)).2.2.1] at m2
    exact ⟨τ, by rw [fX11_hold_L33, m1, if_pos (ix_nI hv (by decide)), ldA_nI _ _ _ (by omega), m2, if_pos (nI_le (Nat.le_refl _) (by omega))], hM, hk⟩
  | succ d ih =>
    intro s n τ hs hn hM hk
    obtain ⟨m', rfl⟩ : ∃ m', n = m' + 1 := ⟨n - 1, by omega⟩
    have hsK : s < cS a 1 := by omega
    have hs7 : s < 7 := by omega
    obtain ⟨q1, q2, q3, q4, q5, q6⟩ := catchN_same a r s
    obtain ⟨v, hv, m1, m2, m3, m4⟩ := hM.2.2.2.2.2.1
    have mw6 := hM.2.2.2.2.2.2.1.2.2.2.2.2.1
    obtain ⟨w1, w2, w3, w4⟩ := catchN_wf (by omega) hA hB hC hD s (by omega) (r := r)
    rw [q3] at m2
    have e10 := (m3 s (by rw [q3]; exact hsK)).1
    have e35 := mw6 s (by rw [q3]; exact hsK)
    rw [q6] at e10
    rw [q2] at e35
    rw [fX11_hold_L33, m1, if_pos (ix_nI hv (by decide)), ldA_nI _ _ _ (by omega), m2, if_neg (nI_ge hsK (by omega)), m7, if_pos (ix_nI (show 7 * v + s < 14 by omega) (by decide)), ldA_nI _ _ _ (by omega), e10, if_pos (ix_nI hs7 (by decide)), ldA_nI _ _ _ (by omega), e35]
    simp only [pif, lt_def]
    rw [nI_1]
    have hstep := catchN.eq_2 a r s
    by_cases b5 : (cS a 5).testBit s = true
    · rw [if_pos b5]
      by_cases c2 : (cS a 6).testBit s = true
      · have h14 := w2.2.2.2.2.2.2.1 s (by rw [q3]; exact hsK) (by rw [q2]; exact c2)
        have h399 := w2.2.1.1
        rw [if_pos c2, if_neg (nI_ne_m1 (by omega))]
        by_cases c1 : (cN a 17 s).testBit r = true
        · obtain ⟨τ1, r1, r2, r3⟩ := mSend (n := m') (by omega) (a := catchN a r s) hs7 (by rw [q3]; exact hsK) (by rw [q4]; exact hr) (by rw [q4]; exact hn6) (by rw [q5]; exact hA.2.2.2.2.2 r hr) (by rw [q2]; exact c2) (by rw [q1]; exact c1) hM
          rw [r1, Option.bind_some]
          rw [if_pos ⟨c1, c2⟩] at hstep
          exact ih (s + 1) m' τ1 (by omega) (by omega) (by rw [hstep]; exact r3) (mKeys_fr r2 (by decide) hk)
        · rw [mSend_no (a := catchN a r s) hs7 (by omega) (by rw [q1]; simpa using c1) hM, Option.bind_some]
          rw [if_neg (fun z => c1 z.1)] at hstep
          exact ih (s + 1) m' τ (by omega) (by omega) (by rw [hstep]; exact hM) hk
      · rw [if_neg c2, if_pos rfl]
        rw [if_neg (fun z => c2 z.2)] at hstep
        exact ih (s + 1) m' τ (by omega) (by omega) (by rw [hstep]; exact hM) hk
    · rw [if_neg b5]
      have h0 : cN a 17 s = 0 := by
        rcases Nat.eq_zero_or_pos (cN a 17 s) with z | z
        · exact z
        · exact absurd ((hC.1 s hs7).2 (by omega)).2 b5
      rw [if_neg (fun z => by rw [h0, Nat.zero_testBit] at z; exact absurd z.1 (by decide))] at hstep
      exact ih (s + 1) m' τ (by omega) (by omega) (by rw [hstep]; exact hM) hk
def aFlip (a : AS) (r : Nat) : AS := tS a 7 (cS a 7 ^^^ 2 ^ r)
theorem flip_bit (b r q : Nat) : (b ^^^ 2 ^ r).testBit q = (b.testBit q ^^ decide (r = q)) := by
  rw [Nat.testBit_xor, Nat.testBit_two_pow]
theorem flip_wfA {t : Nat} {a : AS} {r : Nat} (hr : r < cS a 2) (hA : wfA t a) : wfA t (aFlip a r) :=
  ⟨hA.1, hA.2.1, hA.2.2.1, hA.2.2.2.1, Nat.xor_lt_two_pow hA.2.2.2.2.1 (Nat.pow_lt_pow_right (by decide) hr), hA.2.2.2.2.2⟩
theorem xHeld {b r : Nat} {σ : ST} (h : gI σ 16 = nI b) (hb : b < 64) (hr : r < 6) : fX3_isHeld (nI r) σ = some (if b.testBit r = true then 1 else 0, σ) := by
  unfold fX3_isHeld
  rw [h]
  cases hh : b.testBit r
  · rw [if_pos ((bit_zero (by omega) (by omega)).mpr hh)]; rfl
  · rw [if_neg (fun q => by rw [bit_zero (by omega) (by omega), hh] at q; cases q)]; rfl
theorem sim_hold (x y : Int32) (hy : y = 0 ∨ y = 1) : SimStep Rel0 (fX10_hold FU x y) (fX11_hold FU x y) := by
  intro t σ τ ht hR
  obtain ⟨a, hA, hB, hC, hD, hX, hM, hk⟩ := id hR
  have hn6 : cS a 2 ≤ 6 := hA.2.2.2.1
  have hK : cS a 1 ≤ 7 := hB.1.1
  have xr : gI σ 15 = nI (cS a 2) := hX.2.2.2.2.1.1
  have mr : gI τ 17 = nI (cS a 2) := hM.2.2.2.2.1.1
  have h64 : cS a 7 < 64 := Nat.lt_of_lt_of_le hA.2.2.2.2.1 (pow_le_64 hn6)
  unfold fX10_hold fX11_hold
  rcases ix_or (x := x) (n := cS a 2) (by omega) with h | ⟨r, hr, rfl⟩
  · rw [xReader_no xr h, mReader_no mr h]
    simp only [Option.bind_some, if_true]
    exact ⟨0, σ, τ, rfl, rfl, rel_same hR⟩
  · rw [xReader_yes xr hn6 hr, mReader_yes mr hn6 hr]
    simp only [Option.bind_some, if_neg one_ne]
    have i6 : ix (nI r) 6 := ix_nI (by omega) (by decide)
    rw [xHeld hX.2.2.2.2.1.2.1 h64 (by omega), if_pos i6, if_pos i6, ldA_nI _ _ _ (by omega), (hM.2.2.2.2.1.2 r hr).2]
    simp only [Option.bind_some, lt_def]
    by_cases e : (if (cS a 7).testBit r = true then (1 : Int32) else 0) = y
    · rw [if_pos e, if_pos e]; exact ⟨0, σ, τ, rfl, rfl, rel_same hR⟩
    · rw [if_neg e, if_neg e, stA_nI _ _ _ _ (by omega), hX.2.2.2.2.1.2.1, nI_shl1 (by omega), nI_xor]
      have hb : (cS a 7).testBit r = true ↔ y = 0 := by
        rcases hy with rfl | rfl
        · cases h : (cS a 7).testBit r
          · rw [h] at e; exact absurd rfl e
          · simp
        · cases h : (cS a 7).testBit r
          · simp
          · rw [h] at e; exact absurd rfl e
      have hXf : XR (aFlip a r) (sI σ 16 (nI (cS a 7 ^^^ 2 ^ r))) := ⟨hX.1, hX.2.1, hX.2.2.1, hX.2.2.2.1, ⟨xr, rfl, hX.2.2.2.2.1.2.2⟩, hX.2.2.2.2.2⟩
      have hMf : MR (aFlip a r) (sA τ 32 (upd (gA τ 32) r (nz y))) := by
        refine ⟨hM.1, hM.2.1, hM.2.2.1, hM.2.2.2.1, ⟨mr, fun q hq => ⟨(hM.2.2.2.2.1.2 q hq).1, ?_⟩⟩, hM.2.2.2.2.2⟩
        show upd (gA τ 32) r (nz y) q = if (cS a 7 ^^^ 2 ^ r).testBit q = true then 1 else 0
        rw [upd_at, flip_bit]
        by_cases eq : q = r
        · subst eq
          rw [if_pos rfl]
          rcases hy with rfl | rfl
          · rw [hb.mpr rfl]; simp; rfl
          · have : (cS a 7).testBit q = false := by
              cases h : (cS a 7).testBit q
              · rfl
              · exact absurd (hb.mp h) one_ne
            rw [this]; simp; rfl
        · have : decide (r = q) = false := by simp; omega
          rw [if_neg eq, this, Bool.xor_false]; exact (hM.2.2.2.2.1.2 q hq).2
      have hAf := flip_wfA hr (wfA_mono hA)
      have hBf : wfB (t + 1) (aFlip a r) := hB
      have hCf : wfCm (20 * t) (aFlip a r) := hC
      by_cases hy0 : y = 0
      · rw [if_pos hy0, if_pos hy0]
        obtain ⟨σ', x1, x2⟩ := xCatch hAf hBf hCf hD (r := r) hr (by omega) 7 0 FU (sI σ 16 (nI (cS a 7 ^^^ 2 ^ r))) (by decide) (by decide) hXf
        obtain ⟨τ', y1, y2, y3⟩ := mCatch hAf hBf hCf hD (r := r) hr (by omega) (cS a 1) 0 FU (sA τ 32 (upd (gA τ 32) r (nz y))) (Nat.zero_add _) (by show cS a 1 + 100 < 1000000; omega) hMf hk
        have x1' : fX3_catchUp FU (nI r) (gI (sI σ 16 (nI (cS a 7 ^^^ 2 ^ r))) 20) (sI σ 16 (nI (cS a 7 ^^^ 2 ^ r))) = some σ' := by
          unfold fX3_catchUp
          rw [lt_def, gI_sI, if_neg (by decide), hX.2.2.2.2.2.2.1.2.2.1, show (0 : Int32) = nI 0 from rfl]
          exact x1
        rw [x1', Option.bind_some, show (0 : Int32) = nI 0 from rfl, y1]
        obtain ⟨d, hd⟩ : ∃ d, 7 = cS a 1 + d := ⟨7 - cS a 1, by omega⟩
        have hend : catchN (aFlip a r) r 7 = catchN (aFlip a r) r (cS a 1) := by
          rw [hd]; exact catchN_end (m := 0) hBf d (show cS a 1 + d ≤ 7 by omega)
        obtain ⟨w1, w2, w3, w4⟩ := catchN_wf (r := r) (by omega) hAf hBf hCf hD 7 (Nat.le_refl 7)
        rw [hend] at x2 w1 w2 w3 w4
        refine ⟨1, σ', τ', rfl, rfl, catchN (aFlip a r) r (cS a 1), w1, w2, ⟨w3.1, fun i hi => Nat.le_trans (w3.2.1 i hi) (by omega), w3.2.2⟩, w4, x2, y2, y3⟩
      · rw [if_neg hy0, if_neg hy0]
        exact ⟨1, _, _, rfl, rfl, aFlip a r, hAf, hBf, wfC_mono (t := t) hC, hD, hXf, hMf, hk⟩
