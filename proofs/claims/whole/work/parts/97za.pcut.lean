/-! ===== PURE: read: the reference's TOKENS, whole ===== -/
theorem mKeys_B {τ τ' : ST} (h : mKeys τ) (e : gB τ' 7 = gB τ 7) : mKeys τ' := by
  unfold mKeys at *
  rw [e]; exact h
theorem mCutL {v : Nat → Nat} {ln : Nat} : ∀ d p i n τ, ln - p < d → p ≤ ln → i ≤ 401 → (i ≤ 400 → en bB v ln p = sT v ln i) → d + 3000 < n → MTp v ln τ → mKeys τ → gI τ 3 = nI i → PM v ln i τ → ∃ τ', fX11_cut_L7 K31 n (nI p) τ = some τ' ∧ frC τ τ' ∧ ∃ N, PM v ln N τ' ∧ (N = 401 ∨ (1 ≤ N ∧ tkAt v ln (sT v ln (N - 1)) = 0)) := by
  intro d
  induction d with
  | zero => intro p i n τ h0; omega
  | succ d ih =>
    intro p i n τ hd hp hi hsT hn hX hk h3 hP
    obtain ⟨m, rfl⟩ : ∃ m, n = m + 1 := ⟨n - 1, by omega⟩
    have hl := hX.2.1
    have hv := hX.2.2.1
    by_cases i401 : i = 401
    · rw [fX11_cut_L7, h3, i401, if_pos (show (400 : Int32) < nI 401 by decide)]
      exact ⟨τ, rfl, fr_rf, 401, by rw [← i401]; exact hP, Or.inl rfl⟩
    · have hi4 : i ≤ 400 := by omega
      have hs := hsT hi4
      rw [fX11_cut_L7, h3, if_neg (show ¬ (400 : Int32) < nI i from nI_nlt (a := 400) (by omega) (by decide)), mAtV hX (by omega), Option.bind_some]
      simp only [lt_def]
      rw [hX.1]
      by_cases c : p < ln
      · have ea : atV v ln p = v p := by unfold atV; rw [if_pos c]
        rw [if_pos (nI_lt c (by omega)), ea, blk (hv p)]
        by_cases b : bB (v p) = true
        · rw [if_pos b, nI_1]
          exact ih (p + 1) i m τ (by omega) (by omega) hi (fun _ => by rw [← en_yes (P := bB) c b]; exact hs) (by omega) hX hk h3 hP
        · rw [if_neg b]
          have ep : sT v ln i = p := by rw [← hs, en_no (fun q => b q.2)]
          have gt := teAt_gt (v := v) c
          have le := teAt_le (v := v) hp
          have tokn : ∀ (x kd q : Nat) (y : Int64), kd = tkAt v ln p → p + q = teAt v ln p → (tkAt v ln p = 2 → x = tvAt v ln p) → (tkAt v ln p = 1 → y = mnAt v ln p) → ∃ τ', Option.bind (fX11_token (nI kd) (nI p) (nI x) y τ) (fun q_87 => fX11_cut_L7 K31 m (nI p + nI q) q_87) = some τ' ∧ frC τ τ' ∧ ∃ N, PM v ln N τ' ∧ (N = 401 ∨ (1 ≤ N ∧ tkAt v ln (sT v ln (N - 1)) = 0)) := by
            intro x kd q y hkd hq hx hy
            obtain ⟨τ1, a1, a2, a3, a4⟩ := mTokn (c := x) (d := y) hi4 h3 hP (by rw [ep]; exact hx) (by rw [ep]; exact hy)
            rw [ep, ← hkd] at a1
            rw [a1, Option.bind_some, nI_add, hq]
            obtain ⟨τ', b1, b2, b3⟩ := ih (teAt v ln p) (i + 1) m τ1 (by omega) le (by omega) (fun _ => by show en bB v ln (teAt v ln p) = en bB v ln (teAt v ln (sT v ln i)); rw [ep]) (by omega) (MTp_fr a2 hX (by decide) (by decide)) (mKeys_B hk (a2.2.2 7 (by decide))) a3 a4
            exact ⟨τ', b1, fr_tr a2 b2, b3⟩
          rw [mLe (hv p), Option.bind_some]
          by_cases l : bL (v p) = true
          · simp only [if_pos l, if_neg one_ne]
            rw [mWrd0 hp hX (by omega)]
            have g := en_ge bW v ln p
            have gl := en_le (P := bW) (v := v) hp
            have et : tkAt v ln p = wk v p (en bW v ln p - p) := by unfold tkAt; rw [if_pos c, if_pos l]
            have ee : p + (en bW v ln p - p) = teAt v ln p := by unfold teAt; rw [if_pos c, if_pos l]; omega
            have hz : ∀ i, i < en bW v ln p - p → bW (v (p + i)) = true := fun i hi => (en_all (P := bW) (v := v) (ln := ln) (p := p) (i := p + i) (by omega) (by omega)).2
            have n2 : tkAt v ln p = 2 → (0 : Nat) = tvAt v ln p := fun z => absurd z (by rw [et]; exact (wk_lt _ _ _).2.2)
            by_cases q8 : en bW v ln p - p ≤ 8
            · have nm : lN (wM8 v p (min (en bW v ln p - p) 8)) = mnAt v ln p := by rw [show min (en bW v ln p - p) 8 = en bW v ln p - p by omega]; rfl
              rw [if_pos (show nI (en bW v ln p - p) ≤ (8 : Int32) from nI_le q8 (by decide))]
              by_cases q6 : en bW v ln p - p ≤ 6
              · rw [if_neg (show ¬ (6 : Int32) < nI (en bW v ln p - p) from nI_nlt (a := 6) q6 (by decide))]
                have hm : wM8 v p (min (en bW v ln p - p) 8) < 2 ^ 62 := by rw [show min (en bW v ln p - p) 8 = en bW v ln p - p by omega]; exact wM8_lt q8 hz
                rw [mKey0 hk hm (by omega)]
                have ek : kw (wM8 v p (min (en bW v ln p - p) 8)) = tkAt v ln p := by rw [et]; unfold wk; rw [if_pos q8, if_pos q6, show min (en bW v ln p - p) 8 = en bW v ln p - p by omega]
                exact tokn 0 _ _ _ ek ee n2 (fun _ => nm)
              · rw [if_pos (show (6 : Int32) < nI (en bW v ln p - p) from nI_lt (a := 6) (by omega) (by omega))]
                exact tokn 0 1 _ _ (by rw [et]; unfold wk; rw [if_pos q8, if_neg q6]) ee n2 (fun _ => nm)
            · have e3 : tkAt v ln p = 3 := by rw [et]; unfold wk; rw [if_neg q8]
              rw [if_neg (show ¬ nI (en bW v ln p - p) ≤ (8 : Int32) from nI_ge (a := 8) (by omega) (by omega)), if_pos (show (6 : Int32) < nI (en bW v ln p - p) from nI_lt (a := 6) (by omega) (by omega))]
              exact tokn 0 3 _ _ e3.symm ee n2 (fun z => by rw [e3] at z; cases z)
          · simp only [if_neg l, if_true]
            rw [mDi (hv p), Option.bind_some]
            by_cases dg : bD (v p) = true
            · simp only [if_pos dg, if_neg one_ne]
              rw [mNum0 hp hX (by omega)]
              have g := en_ge bD v ln p
              have gl := en_le (P := bD) (v := v) hp
              have et : tkAt v ln p = if en bD v ln p - p ≤ 4 then 2 else 3 := by unfold tkAt; rw [if_pos c, if_neg l, if_pos dg]
              have ee : p + (en bD v ln p - p) = teAt v ln p := by unfold teAt; rw [if_pos c, if_neg l, if_pos dg]; omega
              by_cases q4 : en bD v ln p - p ≤ 4
              · rw [if_pos q4] at et
                rw [if_pos (show nI (en bD v ln p - p) ≤ (4 : Int32) from nI_le q4 (by decide))]
                exact tokn _ 2 _ _ et.symm ee (fun _ => by rw [show min (en bD v ln p - p) 4 = en bD v ln p - p by omega]; rfl) (fun z => by rw [et] at z; cases z)
              · rw [if_neg q4] at et
                rw [if_neg (show ¬ nI (en bD v ln p - p) ≤ (4 : Int32) from nI_ge (a := 4) (by omega) (by omega))]
                exact tokn _ 3 _ _ et.symm ee (fun z => by rw [et] at z; cases z) (fun z => by rw [et] at z; cases z)
            · simp only [if_neg dg, if_true]
              have et : tkAt v ln p = sg (v p) := by unfold tkAt; rw [if_pos c, if_neg l, if_neg dg]
              have ee : p + 1 = teAt v ln p := by unfold teAt; rw [if_pos c, if_neg l, if_neg dg]
              obtain ⟨τ', a, b⟩ := tokn 0 _ 1 0 et.symm ee (fun z => absurd z (by rw [et]; exact (sg_lt _).2.2.2)) (fun z => absurd z (by rw [et]; exact (sg_lt _).2.2.1))
              exact ⟨τ', (sgn (hv p) (fun k => Option.bind (fX11_token k (nI p) 0 0 τ) (fun q_22 => fX11_cut_L7 K31 m (nI p + 1) q_22))).trans a, b⟩
      · rw [if_neg (nI_nlt (by omega) (by omega))]
        have ep : sT v ln i = ln := by rw [← hs, en_no (fun q => c q.1)]; omega
        have et : tkAt v ln (sT v ln i) = 0 := tkAt_0.mpr (by omega)
        obtain ⟨τ1, a1, a2, a3, a4⟩ := mTokn (c := 0) (d := 0) hi4 h3 hP (by rw [et]; intro z; cases z) (by rw [et]; intro z; cases z)
        rw [et, ep] at a1
        have a1' : fX11_token 0 (nI ln) 0 0 τ = some τ1 := a1
        unfold K31
        rw [hX.1, a1', Option.bind_some]
        exact ⟨τ1, rfl, a2, i + 1, a4, Or.inr ⟨by omega, by rw [Nat.add_sub_cancel]; exact et⟩⟩
theorem mCut {v : Nat → Nat} {ln n : Nat} {τ : ST} (hn : 6000 < n) (hX : MTp v ln τ) (hk : mKeys τ) : ∃ τ', fX11_cut n τ = some τ' ∧ frC τ τ' ∧ ∃ N, PM v ln N τ' ∧ (N = 401 ∨ (1 ≤ N ∧ tkAt v ln (sT v ln (N - 1)) = 0)) := by
  have f0 : frC τ (sI τ 3 0) := fr_sI fr_rf (by decide)
  have e : fX11_cut n τ = fX11_cut_L7 K31 n (nI 0) (sI τ 3 0) := rfl
  rw [e]
  have hl := hX.2.1
  obtain ⟨τ', a, b, c⟩ := mCutL (v := v) (ln := ln) (ln + 1) 0 0 n (sI τ 3 0) (by omega) (by omega) (by omega) (fun _ => rfl) (by omega) (MTp_fr f0 hX (by decide) (by decide)) hk rfl (fun j hj => absurd hj (Nat.not_lt_zero j))
  exact ⟨τ', a, fr_tr f0 b, c⟩
