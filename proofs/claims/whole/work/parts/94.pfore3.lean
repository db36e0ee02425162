/-! ===== PURE: the reference foresees ===== -/
theorem mRunF {a : AS} {r : List Nat} (hA : wfA 600 a) (hB : wfBg 0 0 a) (hrl : r.length = cS a 1) (hri : inK a r) (hrc : covers a r) (k323 : ST → Option ST) :
    ∀ q n0 n τ p W, 399 - cS a 3 - n0 ≤ q → n0 ≤ 399 - cS a 3 → q + 400 < n → MR a τ → mRow r τ → (∀ x, x < 6 → gA τ 48 x = nI (lnd a (cN a 10) x)) → MF a (cS a 3 + 1 + n0) (runS a r n0) p W τ →
      ∃ τ' p' W', fX11_foresees_L82 k323 n (nI (cS a 3 + 1 + n0)) τ = k323 τ' ∧ fr [] [45, 46, 47] [] τ τ' ∧ MF a 400 (finS a r) p' W' τ' := by
  have hs := hs_of hB
  have hK := hB.1.1
  have hH := hB.2.1.2.2.1
  have h399 := hB.2.1.1
  have hl : ∀ x, x < 6 → lnd a (cN a 10) x ≤ 400 := fun x hx => lnd_le hB.2.1.1 (hA.2.1 x hx).2
  intro q
  induction q with
  | zero =>
    intro n0 n τ p W hq hn0 hn hM hrow h48 hF
    obtain ⟨m, rfl⟩ : ∃ m, n = m + 1 := ⟨n - 1, by omega⟩
    refine ⟨τ, p, W, ?_, fr_rf, ?_⟩
    · rw [fX11_foresees_L82, if_pos (show (399 : Int32) < nI (cS a 3 + 1 + n0) from nI_lt (a := 399) (by omega) (by omega))]
    · unfold finS; rw [show 399 - cS a 3 = n0 by omega, show 400 = cS a 3 + 1 + n0 by omega]; exact hF
  | succ q ih =>
    intro n0 n τ p W hq hn0 hn hM hrow h48 hF
    obtain ⟨m, rfl⟩ : ∃ m, n = m + 1 := ⟨n - 1, by omega⟩
    rcases Nat.lt_or_ge n0 (399 - cS a 3) with hlt | hge
    · have hI := RI_run hs hri n0 hn0
      rw [fX11_foresees_L82, if_neg (show ¬ (399 : Int32) < nI (cS a 3 + 1 + n0) from fun z => by rw [show (399 : Int32) = nI 399 from rfl, nI_lt_iff (by decide) (by omega)] at z; omega)]
      simp only [lt_def]
      obtain ⟨τ1, p1, W1, r1, r2, r3⟩ := mHosL hA hB (t := cS a 3 + 1 + n0) (S := runS a r n0) (by omega) (by omega) hrl hri hI (fun (x1_44 : Int32) (σ_45 : ST) => (fX11_foresees_L181 (fun (x1_58 : Int32) (x2_59 : Int32) (σ_60 : ST) => (if x2_59 = 0 then (Option.bind (fX11_landsBehind m x1_58 σ_60) (fun q_83 => (fX11_foresees_L82 k323 m (q_83.1 - ((1 : Int32)) + 1) q_83.2))) else (fX11_foresees_L232 (fun (x1_80 : Int32) (σ_81 : ST) => (fX11_foresees_L82 k323 m (x1_80 + 1) σ_81)) m x1_58 0 σ_60))) m x1_44 0 0 σ_45)) (cS a 4) 0 m τ p W (by omega) (by omega) hM hrow h48 hF
      rw [show (0 : Int32) = nI 0 from rfl] at r1 ⊢
      rw [r1]
      have hM1 := MR_fo (fr_up r2 (by decide) (by decide) (by decide)) hM
      have h48' : ∀ x, x < 6 → gA τ1 48 x = nI (lnd a (cN a 10) x) := fun x hx => by rw [r2.2.1 48 (by decide)]; exact h48 x hx
      have hrow1 : mRow r τ1 := fun i hi => by rw [r2.2.1 44 (by decide)]; exact hrow i hi
      have hrun : hosS a r (cS a 3 + 1 + n0) (cS a 4) (runS a r n0) = runS a r (n0 + 1) := rfl
      rw [hrun] at r3
      have hI1 : RI a (cS a 3 + 1 + n0) (runS a r (n0 + 1)) := RI_hos hs hri (t := cS a 3 + 1 + n0) (by omega) hI (cS a 4) (Nat.le_refl _)
      have hp7 := fun h hh => Nat.le_trans (MF_le hH r3 h hh) hK
      obtain ⟨b1, b2, b3⟩ := mBusy (t := cS a 3 + 1 + n0) hH hM1.2.2.2.2.2.2.1.2.1 r3.2.1 hp7 (fun (x1_58 : Int32) (x2_59 : Int32) (σ_60 : ST) => (if x2_59 = nI 0 then (Option.bind (fX11_landsBehind m x1_58 σ_60) (fun q_83 => (fX11_foresees_L82 k323 m (q_83.1 - ((1 : Int32)) + 1) q_83.2))) else (fX11_foresees_L232 (fun (x1_80 : Int32) (σ_81 : ST) => (fX11_foresees_L82 k323 m (x1_80 + 1) σ_81)) m x1_58 (nI 0) σ_60))) (cS a 4) 0 m (by omega) (by omega)
      by_cases busy : ∃ q, 0 ≤ q ∧ q < cS a 4 ∧ p1 q ≠ 0
      · have e : (0 : Int32) = nI 0 := rfl
        rw [e] at b2
        rw [b2 busy, if_neg (show ¬ (1 : Int32) = nI 0 by decide)]
        obtain ⟨τ2, s1, s2, s3⟩ := mWkL hB (show cS a 3 + 1 + n0 ≤ 399 by omega) r3 (fun (x1_80 : Int32) (σ_81 : ST) => (fX11_foresees_L82 k323 m (x1_80 + 1) σ_81)) (cS a 4) 0 m τ1 (by omega) (by omega) hM1 (MW_0 r3)
        rw [s1, nI_1]
        have hF2 := MW_end hB (show cS a 3 + 1 + n0 ≤ 399 by omega) hI1 r3 s3
        obtain ⟨τ', p', W', t1, t2, t3⟩ := ih (n0 + 1) m τ2 _ _ (by omega) (by omega) (by omega) (MR_fo (fr_up s2 (by decide) (by decide) (by decide)) hM1) (fun i hi => by rw [s2.2.1 44 (by decide)]; exact hrow1 i hi) (fun x hx => by rw [s2.2.1 48 (by decide)]; exact h48' x hx) hF2
        exact ⟨τ', p', W', t1, fr_tr (fr_up r2 (by decide) (by decide) (by decide)) (fr_tr s2 t2), t3⟩
      · have e : (0 : Int32) = nI 0 := rfl
        rw [e] at b3
        rw [b3 busy, if_pos rfl]
        have hno : ∀ q, q < cS a 4 → p1 q = 0 := fun q hq => by
          by_cases z : p1 q = 0
          · exact z
          · exact absurd ⟨q, Nat.zero_le _, hq, z⟩ busy
        clear busy b1 b2 b3
        obtain ⟨v, v1, v2, v3, v4⟩ := mBehind (ld := lnd a (cN a 10)) (t := cS a 3 + 1 + n0) (by omega) h48' hl 6 0 m 401 (by omega) (by omega) (by omega) (Nat.le_refl _) (fun q hq => absurd hq (Nat.not_lt_zero q))
        have hb : fX11_landsBehind m (nI (cS a 3 + 1 + n0)) τ1 = some (nI v, τ1) := v1
        rw [hb, Option.bind_some]
        show ∃ τ' p' W', fX11_foresees_L82 k323 m (nI v - 1 + 1) τ1 = k323 τ' ∧ _
        rw [show (1 : Int32) = nI 1 from rfl, pk_sub (by omega), show nI 1 = (1 : Int32) from rfl, nI_1, show v - 1 + 1 = v by omega]
        -- nothing begins before the next landing
        have hfree : ∀ q, q < cS a 4 → (runS a r (n0 + 1)).2.1 q ≤ cS a 3 + 1 + n0 := fun q hq => (r3.2.2.2.1 q hq).mp (hno q hq)
        have haft : ∀ q, q < cS a 4 → (runS a r (n0 + 1)).2.1 q ≤ cS a 3 + 1 + n0 → ∀ k, k < cS a 1 → rdyB a (cS a 3 + 1 + n0) (runS a r (n0 + 1)) k = false := by
          intro q hq hf k hk
          cases z : rdyB a (cS a 3 + 1 + n0) (runS a r (n0 + 1)) k
          · rfl
          · have hm := hrc k hk (rdy_wait z)
            have := aft hs hri (t := cS a 3 + 1 + n0) (by omega) (cS a 4) (runS a r n0) (Nat.le_refl _) hI q hq hf k hm
            rw [hrun, z] at this; cases this
        have h8' : ∀ x, x < 6 → ((cS a 8).testBit x = true ↔ 0 < cN a 6 x) := fun x hx => (hA.2.2.1.2 x hx).2.2.2.1
        have skip : ∀ w, cS a 3 + 1 + (n0 + 1) + w ≤ min v 400 → runS a r (n0 + 1 + w) = runS a r (n0 + 1) := by
          intro w hw
          refine runS_skip w (fun e he q hq hf k hk => ?_)
          refine idle_skip hs hI1 (u := cS a 3 + 1 + (n0 + 1) + e) (by omega) haft (by omega) (fun q hq hf => ?_) (fun k hk _ ho => ?_) q hq hf k (hri k hk)
          · have := hfree q hq; omega
          · rcases Nat.lt_or_ge (cS a 3 + 1 + (n0 + 1) + e) (opA a k) with z | z
            · exact z
            · have h1 := (lnd_op (ld := cN a 10) (k := k) (t := cS a 3 + 1 + (n0 + 1) + e) h8' (by omega)).mpr z
              have h2 : opA a k ≤ cS a 3 + 1 + n0 := (lnd_op (ld := cN a 10) (k := k) (t := cS a 3 + 1 + n0) h8' (by omega)).mp (fun x hx hb => by
                have := h1 x hx hb
                rcases Nat.lt_or_ge (cS a 3 + 1 + n0) (lnd a (cN a 10) x) with y | y
                · have := v4 x hx y; omega
                · exact y)
              omega
        obtain ⟨w, hw⟩ : ∃ w, min v 400 = cS a 3 + 1 + (n0 + 1) + w := ⟨min v 400 - (cS a 3 + 1 + (n0 + 1)), by omega⟩
        have e1 := skip w (by omega)
        have hF2 := MF_idle hI1 (show cS a 3 + 1 + n0 ≤ min v 400 by omega) (by omega) hno r3
        rcases Nat.lt_or_ge v 400 with vl | vg
        · have hv : v = cS a 3 + 1 + (n0 + 1 + w) := by omega
          rw [show min v 400 = cS a 3 + 1 + (n0 + 1 + w) by omega] at hF2
          rw [hv]
          obtain ⟨τ', p', W', t1, t2, t3⟩ := ih (n0 + 1 + w) m τ1 _ _ (by omega) (by omega) (by omega) hM1 hrow1 h48' (by rw [e1]; exact hF2)
          exact ⟨τ', p', W', t1, fr_tr (fr_up r2 (by decide) (by decide) (by decide)) t2, t3⟩
        · obtain ⟨m', rfl⟩ : ∃ m', m = m' + 1 := ⟨m - 1, by omega⟩
          refine ⟨τ1, p1, W1, ?_, fr_up r2 (by decide) (by decide) (by decide), ?_⟩
          · rw [fX11_foresees_L82, if_pos (show (399 : Int32) < nI v from nI_lt (a := 399) (by omega) (by omega))]
          · rw [show min v 400 = 400 by omega] at hF2
            unfold finS
            rw [show 399 - cS a 3 = n0 + 1 + w by omega, e1]; exact hF2
    · refine ⟨τ, p, W, ?_, fr_rf, ?_⟩
      · rw [fX11_foresees_L82, if_pos (show (399 : Int32) < nI (cS a 3 + 1 + n0) from nI_lt (a := 399) (by omega) (by omega))]
      · unfold finS; rw [show 399 - cS a 3 = n0 by omega, show 400 = cS a 3 + 1 + n0 by omega]; exact hF
theorem mCpK {a : AS} (hB : wfBg 0 0 a) (k50 : ST → Option ST) : ∀ d k n τ, k + d = cS a 1 → d < n → MR a τ → (∀ j, j < k → gA τ 45 j = gA τ 35 j ∧ gA τ 47 j = gA τ 37 j) → ∃ τ', fX11_foresees_L7 k50 n (nI k) τ = k50 τ' ∧ fr [] [45, 47] [] τ τ' ∧ ∀ j, j < cS a 1 → gA τ' 45 j = gA τ' 35 j ∧ gA τ' 47 j = gA τ' 37 j := by
  have hK := hB.1.1
  intro d
  induction d with
  | zero =>
    intro k n τ hk hn hM h
    obtain ⟨m, rfl⟩ : ∃ m, n = m + 1 := ⟨n - 1, by omega⟩
    have : k = cS a 1 := by omega
    subst this
    obtain ⟨v, hv, s11, s8, sK, sC⟩ := hM.2.2.2.2.2.1
    exact ⟨τ, by rw [fX11_foresees_L7, s11, if_pos (ix_nI hv (by decide)), ldA_nI _ 8 v (by omega), s8, if_pos (nI_le (Nat.le_refl _) (by omega))], fr_rf, h⟩
  | succ d ih =>
    intro k n τ hk hn hM h
    obtain ⟨m, rfl⟩ : ∃ m, n = m + 1 := ⟨n - 1, by omega⟩
    obtain ⟨v, hv, s11, s8, sK, sC⟩ := hM.2.2.2.2.2.1
    have i7 : ix (nI k) 7 := ix_nI (by omega) (by decide)
    rw [fX11_foresees_L7, s11, if_pos (ix_nI hv (by decide)), ldA_nI _ 8 v (by omega), s8, if_neg (nI_ge (by omega) (by omega))]
    simp only [if_pos i7, lt_def]
    rw [ldA_nI τ 35 k (by omega), stA_nI τ 45 k _ (by omega), ldA_nI _ 37 k (by omega), stA_nI _ 47 k _ (by omega), nI_1]
    generalize hs1 : sA (sA τ 45 (upd (gA τ 45) k (gA τ 35 k))) 47 (upd (gA (sA τ 45 (upd (gA τ 45) k (gA τ 35 k))) 47) k (gA (sA τ 45 (upd (gA τ 45) k (gA τ 35 k))) 37 k)) = τ1
    have f1 : fr [] [45, 47] [] τ τ1 := by rw [← hs1]; exact fr_sA (fr_sA fr_rf (by decide)) (by decide)
    have k45 : gA τ1 45 = upd (gA τ 45) k (gA τ 35 k) := by rw [← hs1]; rfl
    have k47 : gA τ1 47 = upd (gA τ 47) k (gA τ 37 k) := by rw [← hs1]; rfl
    obtain ⟨τ', r1, r2, r3⟩ := ih (k + 1) m τ1 (by omega) (by omega) (MR_fo (fr_up f1 (by decide) (by decide) (by decide)) hM) (fun j hj => by
      rw [k45, k47, f1.2.1 35 (by decide), f1.2.1 37 (by decide), upd_at, upd_at]
      by_cases c : j = k
      · rw [if_pos c, if_pos c, c]; exact ⟨rfl, rfl⟩
      · rw [if_neg c, if_neg c]; exact h j (by omega))
    exact ⟨τ', r1, fr_tr f1 r2, r3⟩
theorem mCpH (k75 : ST → Option ST) : ∀ d h n τ, h + d = 3 → d < n → (∀ q, q < h → gA τ 46 q = gA τ 33 q) → ∃ τ', fX11_foresees_L52 k75 n (nI h) τ = k75 τ' ∧ fr [] [46] [] τ τ' ∧ ∀ q, q < 3 → gA τ' 46 q = gA τ' 33 q := by
  intro d
  induction d with
  | zero =>
    intro h n τ hh hn hp
    obtain ⟨m, rfl⟩ : ∃ m, n = m + 1 := ⟨n - 1, by omega⟩
    have : h = 3 := by omega
    subst this
    exact ⟨τ, by rw [fX11_foresees_L52, if_pos (show (3 : Int32) ≤ nI 3 by decide)], fr_rf, hp⟩
  | succ d ih =>
    intro h n τ hh hn hp
    obtain ⟨m, rfl⟩ : ∃ m, n = m + 1 := ⟨n - 1, by omega⟩
    have h3 : h < 3 := by omega
    have i3 : ix (nI h) 3 := ix_nI h3 (by decide)
    rw [fX11_foresees_L52, if_neg (show ¬ (3 : Int32) ≤ nI h from nI_ge h3 (by decide)), if_pos i3, if_pos i3, lt_def, lt_def, ldA_nI τ 33 h (by omega), stA_nI τ 46 h _ (by omega), nI_1]
    have f1 : fr [] [46] [] τ (sA τ 46 (upd (gA τ 46) h (gA τ 33 h))) := fr_sA fr_rf (by decide)
    obtain ⟨τ', r1, r2, r3⟩ := ih (h + 1) m (sA τ 46 (upd (gA τ 46) h (gA τ 33 h))) (by omega) (by omega) (fun q hq => by
      show upd (gA τ 46) h (gA τ 33 h) q = gA τ 33 q
      rw [upd_at]
      by_cases c : q = h
      · rw [if_pos c, c]
      · rw [if_neg c]; exact hp q (by omega))
    exact ⟨τ', r1, fr_tr f1 r2, r3⟩
theorem mLast {a : AS} (hB : wfBg 0 0 a) {en : Nat → Nat} (hen : ∀ k, k < cS a 1 → en k ≤ 400) : ∀ d k n τ, k + d = cS a 1 → d < n → MR a τ → (∀ j, j < cS a 1 → gA τ 45 j = if j < k then nI (en j) else if en j < 400 then nI (en j) else -1) → ∃ τ', fX11_foresees_L325 n (nI k) τ = some τ' ∧ fr [] [45] [] τ τ' ∧ ∀ j, j < cS a 1 → gA τ' 45 j = nI (en j) := by
  have hK := hB.1.1
  intro d
  induction d with
  | zero =>
    intro k n τ hk hn hM h
    obtain ⟨m, rfl⟩ : ∃ m, n = m + 1 := ⟨n - 1, by omega⟩
    obtain ⟨v, hv, s11, s8, sK, sC⟩ := hM.2.2.2.2.2.1
    refine ⟨τ, ?_, fr_rf, fun j hj => ?_⟩
    · rw [fX11_foresees_L325, s11, if_pos (ix_nI hv (by decide)), ldA_nI _ 8 v (by omega), s8, if_pos (nI_le (by omega) (by omega))]
    · rw [h j hj, if_pos (by omega)]
  | succ d ih =>
    intro k n τ hk hn hM h
    obtain ⟨m, rfl⟩ : ∃ m, n = m + 1 := ⟨n - 1, by omega⟩
    obtain ⟨v, hv, s11, s8, sK, sC⟩ := hM.2.2.2.2.2.1
    have i7 : ix (nI k) 7 := ix_nI (by omega) (by decide)
    have hkK : k < cS a 1 := by omega
    have e45 := h k hkK
    rw [if_neg (by omega)] at e45
    have hek := hen k hkK
    rw [fX11_foresees_L325, s11, if_pos (ix_nI hv (by decide)), ldA_nI _ 8 v (by omega), s8, if_neg (nI_ge hkK (by omega)), if_pos i7, ldA_nI _ 45 k (by omega), e45]
    simp only [lt_def, if_pos i7, nI_1]
    by_cases c : en k < 400
    · rw [if_pos c, if_neg (nI_ne_m1 (by omega))]
      exact ih (k + 1) m τ (by omega) (by omega) hM (fun j hj => by
        rw [h j hj]
        by_cases z : j = k
        · subst z; rw [if_neg (by omega), if_pos c, if_pos (by omega)]
        · by_cases y : j < k
          · rw [if_pos y, if_pos (by omega)]
          · rw [if_neg y, if_neg (show ¬ j < k + 1 by omega)])
    · rw [if_neg c, if_pos rfl, stA_nI τ 45 k _ (by omega)]
      have f1 : fr [] [45] [] τ (sA τ 45 (upd (gA τ 45) k 400)) := fr_sA fr_rf (by decide)
      obtain ⟨τ', r1, r2, r3⟩ := ih (k + 1) m (sA τ 45 (upd (gA τ 45) k 400)) (by omega) (by omega) hM (fun j hj => by
        show upd (gA τ 45) k 400 j = _
        rw [upd_at]
        by_cases z : j = k
        · subst z; rw [if_pos rfl, if_pos (by omega), show en j = 400 by omega]; rfl
        · rw [if_neg z, h j hj]
          by_cases y : j < k
          · rw [if_pos y, if_pos (by omega)]
          · rw [if_neg y, if_neg (show ¬ j < k + 1 by omega)])
      exact ⟨τ', r1, fr_tr f1 r2, r3⟩
theorem MF_init {a : AS} {τ : ST} (hB : wfBg 0 0 a) (hM : MR a τ) (e45 : ∀ j, j < cS a 1 → gA τ 45 j = gA τ 35 j ∧ gA τ 47 j = gA τ 37 j) (e46 : ∀ q, q < 3 → gA τ 46 q = gA τ 33 q) : MF a (cS a 3 + 1) (sta a) (cN a 12) (cN a 16) τ := by
  have hs := hs_of hB
  obtain ⟨b1, b2, b3, b4, b5, b6, b7, b8, b9, b10⟩ := hB
  obtain ⟨y18, y19, y33, y34, y36, y35, y38, y37⟩ := hM.2.2.2.2.2.2.1
  have way : ∀ h, h < 3 → cN a 12 h ≠ 0 → waitB a (cN a 12 h - 1) = false ∧ soE a (cN a 12 h - 1) = min 400 (cS a 3 + cN a 0 (cN a 12 h - 1) - cN a 16 (cN a 12 h - 1)) := by
    intro h hh hz
    have hy : wayB a (cN a 12 h - 1) = true := (wayB_iff a _).mpr ⟨h, hh, by omega⟩
    have hk : cN a 12 h - 1 < cS a 1 := by have := b3 h hh; omega
    refine ⟨by unfold waitB; rw [hy]; simp, ?_⟩
    show soA a (cN a 10) _ = _
    rw [soA_eq hk]
    unfold soV
    rw [if_neg (by rw [(b6 h hh hz).2.2]; decide), if_pos hy]
  refine ⟨fun k hk => ?_, fun q hq => ?_, fun q hq hz => b5 q hz hq, fun q hq => ?_, fun q hq hz => ?_, b4, fun k hk hst hte => ?_⟩
  · rw [(e45 k hk).1, y35 k hk]
    show _ = if (if waitB a k = true then 400 else soE a k) < cS a 3 + 1 then nI (if waitB a k = true then 400 else soE a k) else -1
    have h3 := b2.1
    by_cases c1 : (cS a 6).testBit k = true
    · have hw : waitB a k = false := by unfold waitB; rw [c1]; rfl
      have he : soE a k = cN a 14 k := by
        show soA a (cN a 10) k = _
        rw [soA_eq hk]; unfold soV; rw [if_pos c1]
      have := b7 k hk c1
      rw [if_pos c1, if_neg (show ¬ waitB a k = true by rw [hw]; decide), he, if_pos (by omega)]
    · rw [if_neg c1]
      by_cases c2 : waitB a k = true
      · rw [if_pos c2, if_neg (by omega)]
      · rw [if_neg c2, if_neg]
        have hy : wayB a k = true := by
          unfold waitB at c2
          simp at c1 c2
          exact c2 c1
        obtain ⟨h, hh, he⟩ := (wayB_iff a k).mp hy
        have w := (way h hh (by omega)).2
        have b := b6 h hh (by omega)
        rw [he, Nat.add_sub_cancel] at w b
        omega
  · rw [e46 q hq, y33 q hq]; rfl
  · show cN a 12 q = 0 ↔ (if cN a 12 q = 0 then cS a 3 + 1 else soE a (cN a 12 q - 1) + 1) ≤ cS a 3 + 1
    have hH := b2.2.2.1
    have h3 := b2.1
    by_cases c : cN a 12 q = 0
    · rw [if_pos c]; exact iff_of_true c (Nat.le_refl _)
    · rw [if_neg c]
      have w := (way q (by omega) c).2
      have b := b6 q (by omega) c
      exact iff_of_false c (by omega)
  · have hH := b2.2.2.1
    have w := way q (by omega) hz
    have b := b6 q (by omega) hz
    have hk := b3 q (by omega)
    refine ⟨hk, ?_, Or.inl w.1, ?_, b.2.1, ?_⟩
    · show (if cN a 12 q = 0 then cS a 3 + 1 else soE a (cN a 12 q - 1) + 1) = (if waitB a (cN a 12 q - 1) = true then 400 else soE a (cN a 12 q - 1)) + 1
      rw [if_neg hz, w.1, if_neg (by decide)]
    · rw [(e45 _ (by omega)).2]; exact y37 q (by omega) hz
    · show (if waitB a (cN a 12 q - 1) = true then 400 else soE a (cN a 12 q - 1)) = _
      rw [w.1, if_neg (by decide), w.2]
      congr 1; omega
  · have hw : waitB a k = false := by
      rcases hst with z | z
      · exact z
      · have z' : (0 : Nat).testBit k = true := z
        rw [Nat.zero_testBit] at z'; cases z'
    have hte' : cS a 3 + 1 ≤ if waitB a k = true then 400 else soE a k := hte
    rw [hw, if_neg (by decide)] at hte'
    have hd : (cS a 6).testBit k = false := by
      cases c : (cS a 6).testBit k
      · rfl
      · have he : soE a k = cN a 14 k := by
          show soA a (cN a 10) k = _
          rw [soA_eq hk]; unfold soV; rw [if_pos c]
        have := b7 k hk c
        omega
    have hy : wayB a k = true := by
      unfold waitB at hw
      rw [hd] at hw
      cases c : wayB a k
      · rw [c] at hw; cases hw
      · rfl
    obtain ⟨h, hh, he⟩ := (wayB_iff a k).mp hy
    refine ⟨h, ?_, he⟩
    rcases Nat.lt_or_ge h (cS a 4) with z | z
    · exact z
    · have := b5 h z hh; omega
theorem mForesees {a : AS} {r : List Nat} {n : Nat} {τ : ST} (hn : 1500 ≤ n) (hA : wfA 600 a) (hB : wfBg 0 0 a) (hM : MR a τ) (hr : r.Perm (List.range (cS a 1))) (hrow : mRow r τ) : ∃ τ', fX11_foresees n τ = some τ' ∧ fr [] [45, 46, 47, 48] [] τ τ' ∧ ∀ k, k < cS a 1 → gA τ' 45 k = nI ((finS a r).1 k) := by
  have hs := hs_of hB
  have hK := hB.1.1
  have h399 := hB.2.1.1
  have hrl : r.length = cS a 1 := by rw [hr.length_eq, List.length_range]
  have hri : inK a r := fun k hk => List.mem_range.mp (hr.mem_iff.mp hk)
  have hrc : covers a r := fun k hk _ => hr.mem_iff.mpr (List.mem_range.mpr hk)
  obtain ⟨τ1, r1, r2, r3⟩ := mLands (a := a) (ld := cN a 10) (x1 := 1) (Or.inr ⟨rfl, rfl⟩) hA h399 6 0 n τ (by omega) (by omega) hM (fun q hq => absurd hq (Nat.not_lt_zero q))
  have hM1 := MR_fo (fr_up r2 (by decide) (by decide) (by decide)) hM
  obtain ⟨τ2, s1, s2, s3⟩ := mCpK hB (fun (σ_12 : ST) => (fX11_foresees_L52 (fun (σ_19 : ST) => (fX11_foresees_L82 (fun (σ_86 : ST) => (fX11_foresees_L325 n 0 σ_86)) n ((gI σ_19 18) + ((1 : Int32))) σ_19)) n 0 σ_12)) (cS a 1) 0 n τ1 (by omega) (by omega) hM1 (fun q hq => absurd hq (Nat.not_lt_zero q))
  have hM2 := MR_fo (fr_up s2 (by decide) (by decide) (by decide)) hM1
  obtain ⟨τ3, t1, t2, t3⟩ := mCpH (fun (σ_19 : ST) => (fX11_foresees_L82 (fun (σ_86 : ST) => (fX11_foresees_L325 n 0 σ_86)) n ((gI σ_19 18) + ((1 : Int32))) σ_19)) 3 0 n τ2 (by omega) (by omega) (fun q hq => absurd hq (Nat.not_lt_zero q))
  have hM3 := MR_fo (fr_up t2 (by decide) (by decide) (by decide)) hM2
  have f3 : fr [] [45, 46, 47, 48] [] τ τ3 := fr_tr (fr_up r2 (by decide) (by decide) (by decide)) (fr_tr (fr_up s2 (by decide) (by decide) (by decide)) (fr_up t2 (by decide) (by decide) (by decide)))
  have hF0 := MF_init hB hM3 (fun j hj => by rw [t2.2.1 45 (by decide), t2.2.1 35 (by decide), t2.2.1 47 (by decide), t2.2.1 37 (by decide)]; exact s3 j hj) t3
  obtain ⟨τ4, p', W', u1, u2, u3⟩ := mRunF hA hB hrl hri hrc (fun (σ_86 : ST) => (fX11_foresees_L325 n 0 σ_86)) (399 - cS a 3) 0 n τ3 _ _ (by omega) (by omega) (by omega) hM3 (fun i hi => by rw [f3.2.1 44 (by decide)]; exact hrow i hi) (fun x hx => by rw [t2.2.1 48 (by decide), s2.2.1 48 (by decide)]; exact r3 x hx) hF0
  have hM4 := MR_fo (fr_up u2 (by decide) (by decide) (by decide)) hM3
  have hI := RI_run hs hri (399 - cS a 3) (Nat.le_refl _)
  obtain ⟨τ5, w1, w2, w3⟩ := mLast hB (en := (finS a r).1) (fun k hk => (hI.1 k hk).2) (cS a 1) 0 n τ4 (by omega) (by omega) hM4 (fun j hj => by rw [if_neg (by omega)]; exact u3.1 j hj)
  refine ⟨τ5, ?_, fr_tr f3 (fr_tr (fr_up u2 (by decide) (by decide) (by decide)) (fr_up w2 (by decide) (by decide) (by decide))), w3⟩
  have hl : fX11_lands n 1 τ = some τ1 := r1
  have e18 : gI τ3 18 + 1 = nI (cS a 3 + 1 + 0) := by rw [hM3.2.2.2.2.2.2.1.1, nI_1]
  unfold fX11_foresees
  rw [hl, Option.bind_some]
  simp only [lt_def]
  have s1' : fX11_foresees_L7 (fun (σ_12 : ST) => (fX11_foresees_L52 (fun (σ_19 : ST) => (fX11_foresees_L82 (fun (σ_86 : ST) => (fX11_foresees_L325 n 0 σ_86)) n ((gI σ_19 18) + ((1 : Int32))) σ_19)) n 0 σ_12)) n 0 τ1 = fX11_foresees_L52 (fun (σ_19 : ST) => (fX11_foresees_L82 (fun (σ_86 : ST) => (fX11_foresees_L325 n 0 σ_86)) n ((gI σ_19 18) + ((1 : Int32))) σ_19)) n (nI 0) τ2 := s1
  rw [s1', t1]
  show fX11_foresees_L82 (fun (σ_86 : ST) => (fX11_foresees_L325 n 0 σ_86)) n ((gI τ3 18) + ((1 : Int32))) τ3 = _
  rw [e18, u1]
  exact w1
