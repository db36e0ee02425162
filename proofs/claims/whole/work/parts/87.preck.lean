/-! ===== PURE: the class reckons the soonest ends ===== -/
theorem nI_max {x y : Nat} (hx : x < 2 ^ 31) (hy : y < 2 ^ 31) : (if nI x < nI y then nI y else nI x) = nI (max x y) := by
  by_cases c : x < y
  · rw [if_pos (nI_lt c hy), Nat.max_eq_right (by omega)]
  · rw [if_neg (fun z => c ((nI_lt_iff hx hy).mp z)), Nat.max_eq_left (by omega)]
theorem nI_min {x y : Nat} (hx : x < 2 ^ 31) (hy : y < 2 ^ 31) : (if nI x < nI y then nI x else nI y) = nI (min y x) := by
  by_cases c : x < y
  · rw [if_pos (nI_lt c hy), Nat.min_eq_right (by omega)]
  · rw [if_neg (fun z => c ((nI_lt_iff hx hy).mp z)), Nat.min_eq_left (by omega)]
theorem nI_min4 {x : Nat} (hx : x < 2 ^ 31) : (if nI x < 400 then nI x else 400) = nI (min 400 x) := nI_min (y := 400) hx (by decide)
theorem nI_pos_sub {e d : Nat} (he : e < 2 ^ 30) (hd : d < 2 ^ 30) : (if (0 : Int32) < nI e - nI d then nI e - nI d else 0) = nI (e - d) := by
  rcases Nat.lt_or_ge e d with h | h
  · have hneg : ¬ (0 : Int32) < nI e - nI d := by
      rw [Int32.lt_iff_toInt_lt, Int32.toInt_sub, nI_toInt (by omega), nI_toInt (by omega)]
      have : ((e : Int) - (d : Int)).bmod (2 ^ 32) = (e : Int) - (d : Int) := by
        rw [Int.bmod_eq_of_le (by omega) (by omega)]
      rw [this]
      simp
      omega
    rw [if_neg hneg, show e - d = 0 by omega]; rfl
  · rw [pk_sub h]
    by_cases c : (0 : Int32) < nI (e - d)
    · rw [if_pos c]
    · have : e - d = 0 := by
        rcases Nat.eq_zero_or_pos (e - d) with z | z
        · exact z
        · exact absurd (nI_lt (a := 0) z (by omega)) c
      rw [if_neg c, this]; rfl
theorem XR_fo {a : AS} {σ σ' : ST} (f : fr [22, 23, 24, 25, 26, 27] [59, 60, 61, 62, 63, 64] [] σ σ') (h : XR a σ) : XR a σ' :=
  ⟨xTape_fr f h.1 (by decide) (by decide) (by decide), xPlace_fr f h.2.1 (by decide) (by decide) (by decide), xSpan_fr f h.2.2.1 (by decide) (by decide) (by decide), xTab_fr f h.2.2.2.1 (by decide) (by decide) (by decide), xRead_fr f h.2.2.2.2.1 (by decide) (by decide) (by decide), xScr_fr f h.2.2.2.2.2.1 (by decide) (by decide) (by decide), xWrk_fr f h.2.2.2.2.2.2.1 (by decide) (by decide) (by decide), xPost_fr f h.2.2.2.2.2.2.2 (by decide) (by decide) (by decide)⟩
theorem xCost {a : AS} {σ : ST} {k e : Nat} (hX : XR a σ) (hB : wfBg 0 0 a) (hk : k < cS a 1) (he : e ≤ 500) : fX1_costOf (nI k) (nI e) σ = some (nI (costA a k e), σ) := by
  have hK := hB.1.1
  have bt := hB.1.2.2.2 k hk
  have s := hX.2.2.2.2.2.1.2.2.1 k hk
  have i7 : ix (nI k) 7 := ix_nI (by omega) (by decide)
  unfold fX1_costOf costA
  rw [if_pos i7, if_pos i7, ldA_nI _ 22 k (by omega), ldA_nI _ 23 k (by omega), s.2.1, s.2.2.1, nI_pos_sub (by omega) (by omega), pk_mul]
theorem xParts {a : AS} {σ : ST} {k : Nat} {f : Nat → Nat} (hX : XR a σ) (hB : wfBg 0 0 a) (hk : k < cS a 1) (hf : ∀ j, j < k → gA σ 60 j = nI (f j) ∧ f j ≤ 1000) : ∀ d j n, j + d = k → d < n → mxT 0 (fun j => (cN a 4 k).testBit j) (fun j => f j + 1) j ≤ 1001 → fX1_partsOpening_L4 n (nI k) (nI (mxT 0 (fun j => (cN a 4 k).testBit j) (fun j => f j + 1) j)) (nI j) σ = some (nI (prtN a f k), σ) := by
  have hK := hB.1.1
  have bt := hB.1.2.2.2 k hk
  have h4 : cN a 4 k < 128 := Nat.lt_of_lt_of_le bt.2.2.2.2.2.2.1 (pow_le_128 (by omega))
  have s := hX.2.2.2.2.2.1.2.2.1 k hk
  have i7 : ix (nI k) 7 := ix_nI (by omega) (by decide)
  intro d
  induction d with
  | zero =>
    intro j n hj hn hb
    obtain ⟨m, rfl⟩ : ∃ m, n = m + 1 := ⟨n - 1, by omega⟩
    have : j = k := by omega
    subst this
    rw [fX1_partsOpening_L4, if_pos (nI_le (Nat.le_refl _) (by omega))]; rfl
  | succ d ih =>
    intro j n hj hn hb
    obtain ⟨m, rfl⟩ : ∃ m, n = m + 1 := ⟨n - 1, by omega⟩
    obtain ⟨e60, hl⟩ := hf j (by omega)
    have hstep := mxT.eq_2 0 (fun j => (cN a 4 k).testBit j) (fun j => f j + 1) j
    have hle : mxT 0 (fun j => (cN a 4 k).testBit j) (fun j => f j + 1) (j + 1) ≤ 1001 := by
      rw [hstep]
      show (if (cN a 4 k).testBit j = true then max (mxT 0 (fun j => (cN a 4 k).testBit j) (fun j => f j + 1) j) (f j + 1) else mxT 0 (fun j => (cN a 4 k).testBit j) (fun j => f j + 1) j) ≤ 1001
      split <;> omega
    have hh := ih (j + 1) m (by omega) (by omega) hle
    rw [fX1_partsOpening_L4, if_neg (nI_ge (by omega) (by omega)), if_pos i7, ldA_nI _ 25 k (by omega), s.2.2.2.2.1]
    simp only [lt_def]
    by_cases c : (cN a 4 k).testBit j = true
    · rw [if_neg (fun q => by rw [bit_zero (by omega) (by omega), c] at q; cases q), if_pos (ix_nI (show j < 7 by omega) (by decide)), ldA_nI _ 60 j (by omega), e60, nI_1, nI_max (by omega) (by omega), nI_1]
      rw [hstep, if_pos c] at hh
      exact hh
    · rw [if_pos ((bit_zero (by omega) (by omega)).mpr (by simpa using c)), nI_1]
      rw [hstep, if_neg c] at hh
      exact hh
theorem prtN_le {a : AS} {f : Nat → Nat} {k b : Nat} (hf : ∀ j, j < k → f j + 1 ≤ b) : prtN a f k ≤ b := (mxT_le k).mpr ⟨Nat.zero_le _, fun x hx _ => hf x hx⟩
theorem hs_of {a : AS} (hB : wfBg 0 0 a) : hs0 a := by
  obtain ⟨b1, b2, b3, b4, b5, b6, b7, b8, b9, b10⟩ := hB
  exact ⟨b1.1, b2.1, b2.2.2.1, fun k hk => ⟨(b1.2.2.2 k hk).1, (b1.2.2.2 k hk).2.1, (b1.2.2.2 k hk).2.2.2.2.2.2.1, b7 k hk⟩, b3, b5, fun h hh hz => ⟨(b6 h hh hz).2.2, (b6 h hh hz).2.1⟩, b4⟩
theorem way_bit {a : AS} {w k : Nat} (hk : k < 7) (w2 : ∀ k, k < 7 → (w.testBit k = true ↔ ∃ h, h < 3 ∧ cN a 12 h = k + 1)) : w.testBit k = wayB a k := by
  have h1 := w2 k hk
  have h2 := wayB_iff a k
  cases c : w.testBit k
  · cases d : wayB a k
    · rfl
    · rw [h1.mpr (h2.mp d)] at c; cases c
  · rw [h2.mpr (h1.mp c)]
theorem xOpL34 {a : AS} {σ : ST} {k : Nat} (hX : XR a σ) (hA : wfA 600 a) (hB : wfBg 0 0 a) (hk : k < cS a 1) : ∀ d x n, x + d = 6 → d < n → mxT (cS a 3 + 1) (misB a k) (cN a 9) x ≤ 400 → fX1_openingOf_34_L34 n (nI (mxT (cS a 3 + 1) (misB a k) (cN a 9) x)) (nI (andN (cN a 3 k) (cS a 8))) (nI x) σ = some (nI (opG a (cN a 9) k), σ) := by
  have bt := hB.1.2.2.2 k hk
  have hl := andN_le (cN a 3 k) (cS a 8)
  intro d
  induction d with
  | zero =>
    intro x n hx hn hb
    obtain ⟨m, rfl⟩ : ∃ m, n = m + 1 := ⟨n - 1, by omega⟩
    have : x = 6 := by omega
    subst this
    rw [fX1_openingOf_34_L34, show (6 : Int32) = nI 6 from rfl, if_pos (nI_le (Nat.le_refl 6) (by decide))]; rfl
  | succ d ih =>
    intro x n hx hn hb
    obtain ⟨m, rfl⟩ : ∃ m, n = m + 1 := ⟨n - 1, by omega⟩
    have hx6 : x < 6 := by omega
    have e34 : gA σ 34 x = nI (cN a 9 x) := (hX.2.2.1 x hx6).1
    have hsp : cN a 9 x ≤ 399 := (hA.2.1 x hx6).1
    have hstep := mxT.eq_2 (cS a 3 + 1) (misB a k) (cN a 9) x
    have hle : mxT (cS a 3 + 1) (misB a k) (cN a 9) (x + 1) ≤ 400 := by
      rw [hstep]
      split <;> omega
    have hh := ih (x + 1) m (by omega) (by omega) hle
    have hbit : (andN (cN a 3 k) (cS a 8)).testBit x = misB a k x := andN_bit _ _ _ (by omega)
    rw [fX1_openingOf_34_L34, if_neg (show ¬ (6 : Int32) ≤ nI x from nI_ge hx6 (by decide))]
    simp only [lt_def]
    by_cases c : misB a k x = true
    · rw [if_neg (fun q => by rw [bit_zero (by omega) (by omega), hbit, c] at q; cases q), if_pos (ix_nI hx6 (by decide)), ldA_nI _ 34 x (by omega), e34, nI_max (by omega) (by omega), nI_1]
      rw [hstep, if_pos c] at hh
      exact hh
    · rw [if_pos ((bit_zero (by omega) (by omega)).mpr (by rw [hbit]; simpa using c)), nI_1]
      rw [hstep, if_neg c] at hh
      exact hh
theorem xOp34 {a : AS} {σ : ST} {k n : Nat} (hn : 100 ≤ n) (hX : XR a σ) (hA : wfA 600 a) (hB : wfBg 0 0 a) (hk : k < cS a 1) : fX1_openingOf_34 n (nI k) σ = some (nI (opG a (cN a 9) k), σ) := by
  have hK := hB.1.1
  have h3 := hB.2.1.1
  have e18 : gI σ 18 = nI (cS a 3) := hX.2.2.2.2.2.2.1.1
  have e24 := (hX.2.2.2.2.2.1.2.2.1 k hk).2.2.2.1
  unfold fX1_openingOf_34
  rw [lt_def, e18, nI_1, if_pos (ix_nI (show k < 7 by omega) (by decide)), ldA_nI _ 24 k (by omega), e24, hX.2.2.2.1.1, nI_andN, lt_def, lt_def]
  exact xOpL34 hX hA hB hk 6 0 n (by omega) (by omega) (by show cS a 3 + 1 ≤ 400; omega)
theorem opG_le34 {a : AS} (hA : wfA 600 a) (hB : wfBg 0 0 a) (k : Nat) : opG a (cN a 9) k ≤ 400 := (mxT_le 6).mpr ⟨by have := hB.2.1.1; omega, fun x hx _ => by have := (hA.2.1 x hx).1; omega⟩
theorem xReckL34 {a : AS} (hA : wfA 600 a) (hB : wfBg 0 0 a) : ∀ d k n σ, k + d = cS a 1 → d + 200 < n → XR a σ → (∀ j, j < k → gA σ 59 j = nI (opG a (cN a 9) j) ∧ gA σ 60 j = nI (soA a (cN a 9) j)) → gI σ 25 = nI (sumTo (fun j => costA a j (soA a (cN a 9) j)) k) →
    ∃ σ', fX1_reckonSoonest_34_L7 n (nI k) σ = some σ' ∧ fr [25] [59, 60] [] σ σ' ∧ (∀ j, j < cS a 1 → gA σ' 59 j = nI (opG a (cN a 9) j) ∧ gA σ' 60 j = nI (soA a (cN a 9) j)) ∧ gI σ' 25 = nI (sumTo (fun j => costA a j (soA a (cN a 9) j)) (cS a 1)) := by
  have hK := hB.1.1
  have hs := hs_of hB
  intro d
  induction d with
  | zero =>
    intro k n σ hk hn hX h1 h2
    obtain ⟨m, rfl⟩ : ∃ m, n = m + 1 := ⟨n - 1, by omega⟩
    have : k = cS a 1 := by omega
    subst this
    exact ⟨σ, by rw [fX1_reckonSoonest_34_L7, hX.2.2.2.2.2.1.1, if_pos (nI_le (Nat.le_refl _) (by omega))], fr_rf, h1, h2⟩
  | succ d ih =>
    intro k n σ hk hn hX h1 h2
    obtain ⟨m, rfl⟩ : ∃ m, n = m + 1 := ⟨n - 1, by omega⟩
    have hkK : k < cS a 1 := by omega
    have hk7 : k < 7 := by omega
    have i7 : ix (nI k) 7 := ix_nI hk7 (by decide)
    have bt := hB.1.2.2.2 k hkK
    have h3 := hB.2.1.1
    have h6 : cS a 6 < 128 := Nat.lt_of_lt_of_le hB.2.1.2.2.2 (pow_le_128 hK)
    -- what comes behind the end
    have key : ∀ e : Nat, e = soA a (cN a 9) k → ∃ σ', Option.bind (fX1_costOf (nI k) (ldA (stA (stA σ 59 (nI k) (nI (opG a (cN a 9) k))) 60 (nI k) (nI e)) 60 (nI k)) (stA (stA σ 59 (nI k) (nI (opG a (cN a 9) k))) 60 (nI k) (nI e))) (fun q_11 => fX1_reckonSoonest_34_L7 m (nI k + 1) (sI q_11.2 25 (gI (stA (stA σ 59 (nI k) (nI (opG a (cN a 9) k))) 60 (nI k) (nI e)) 25 + q_11.1))) = some σ' ∧ fr [25] [59, 60] [] σ σ' ∧ (∀ j, j < cS a 1 → gA σ' 59 j = nI (opG a (cN a 9) j) ∧ gA σ' 60 j = nI (soA a (cN a 9) j)) ∧ gI σ' 25 = nI (sumTo (fun j => costA a j (soA a (cN a 9) j)) (cS a 1)) := by
      intro e he
      have hle : e ≤ 400 := by rw [he]; exact soA_le hs hkK
      rw [stA_nI σ 59 k _ (by omega), stA_nI _ 60 k _ (by omega), ldA_nI _ 60 k (by omega), gA_sA, if_pos rfl, upd_at, if_pos rfl]
      generalize hs1 : sA (sA σ 59 (upd (gA σ 59) k (nI (opG a (cN a 9) k)))) 60 (upd (gA (sA σ 59 (upd (gA σ 59) k (nI (opG a (cN a 9) k)))) 60) k (nI e)) = σ1
      have f1 : fr [25] [59, 60] [] σ σ1 := by rw [← hs1]; exact fr_sA (fr_sA fr_rf (by decide)) (by decide)
      have g59 : gA σ1 59 = upd (gA σ 59) k (nI (opG a (cN a 9) k)) := by rw [← hs1]; rfl
      have g60 : gA σ1 60 = upd (gA σ 60) k (nI e) := by rw [← hs1]; rfl
      have g25 : gI σ1 25 = gI σ 25 := by rw [← hs1]; rfl
      clear hs1
      have hX1 : XR a σ1 := XR_fo (fr_up f1 (by decide) (by decide) (by decide)) hX
      rw [xCost hX1 hB hkK (by omega), Option.bind_some, g25, h2, nI_add, nI_1]
      have f2 : fr [25] [59, 60] [] σ1 (sI σ1 25 (nI (sumTo (fun j => costA a j (soA a (cN a 9) j)) k + costA a k e))) := fr_sI fr_rf (by decide)
      obtain ⟨σ', r1, r2, r3⟩ := ih (k + 1) m (sI σ1 25 (nI (sumTo (fun j => costA a j (soA a (cN a 9) j)) k + costA a k e))) (by omega) (by omega) (XR_fo (fr_up f2 (by decide) (by decide) (by decide)) hX1) (fun j hj => by
        show gA σ1 59 j = _ ∧ gA σ1 60 j = _
        rw [g59, g60, upd_at, upd_at]
        by_cases c : j = k
        · rw [if_pos c, if_pos c, c, he]; exact ⟨rfl, rfl⟩
        · rw [if_neg c, if_neg c]; exact h1 j (by omega)) (by
        show nI _ = nI _
        rw [sumTo, he])
      exact ⟨σ', r1, fr_tr f1 (fr_tr f2 r2), r3⟩
    rw [fX1_reckonSoonest_34_L7, hX.2.2.2.2.2.1.1, if_neg (nI_ge hkK (by omega)), xOp34 (by omega) hX hA hB hkK, Option.bind_some]
    simp only [lt_def, if_pos i7]
    have f0 : fr [25] [59, 60] [] σ (stA σ 59 (nI k) (nI (opG a (cN a 9) k))) := by rw [stA_nI σ 59 k _ (by omega)]; exact fr_sA fr_rf (by decide)
    have g59' : ldA (stA σ 59 (nI k) (nI (opG a (cN a 9) k))) 59 (nI k) = nI (opG a (cN a 9) k) := by
      rw [stA_nI σ 59 k _ (by omega), ldA_nI _ 59 k (by omega), gA_sA, if_pos rfl, upd_at, if_pos rfl]
    have g60' : ∀ j, gA (stA σ 59 (nI k) (nI (opG a (cN a 9) k))) 60 j = gA σ 60 j := fun j => by rw [stA_nI σ 59 k _ (by omega)]; rfl
    generalize hs0 : stA σ 59 (nI k) (nI (opG a (cN a 9) k)) = σ0 at f0 g59' g60' key
    have hX0 : XR a σ0 := XR_fo (fr_up f0 (by decide) (by decide) (by decide)) hX
    obtain ⟨w, hw, w1, w2⟩ := hX0.2.2.2.2.2.2.1.2.2.2.1
    have hwb := way_bit (a := a) hk7 w2
    have heq := soA_eq (a := a) (ld := cN a 9) hkK
    unfold soV at heq
    rw [xDone hX0.2.2.2.2.2.2.1.2.2.1 (by omega) (by omega), Option.bind_some]
    simp only [pif]
    by_cases c1 : (cS a 6).testBit k = true
    · rw [if_pos c1] at heq
      rw [if_pos c1, ldA_nI _ 55 k (by omega), hX0.2.2.2.2.2.2.1.2.2.2.2.2.2.2.1 k hkK c1]
      exact key _ heq.symm
    · rw [if_neg c1] at heq
      rw [if_neg c1, xWay w1 (by omega) (by omega), Option.bind_some]
      simp only [pif, hwb]
      by_cases c2 : wayB a k = true
      · rw [if_pos c2] at heq
        obtain ⟨h, hh3, hh⟩ := (wayB_iff a k).mp c2
        have b6 := hB.2.2.2.2.2.1 h hh3 (by omega)
        have e57 := hX0.2.2.2.2.2.2.1.2.2.2.2.2.2.2.2.2 h hh3 (by omega)
        rw [hh, Nat.add_sub_cancel] at b6 e57
        rw [if_pos c2, ldA_nI _ 21 k (by omega), ldA_nI _ 57 k (by omega), e57, (hX0.2.2.2.2.2.1.2.2.1 k hkK).1, hX0.2.2.2.2.2.2.1.1, nI_add, pk_sub (by omega), nI_min4 (by omega)]
        exact key _ heq.symm
      · rw [if_neg c2] at heq
        have hpl : prtN a (soA a (cN a 9)) k ≤ 401 := prtN_le (fun j hj => by have := soA_le (ld := cN a 9) hs (show j < cS a 1 by omega); omega)
        have hol := opG_le34 hA hB k
        have hpart : fX1_partsOpening m (nI k) σ0 = some (nI (prtN a (soA a (cN a 9)) k), σ0) := by
          unfold fX1_partsOpening
          rw [lt_def, lt_def]
          exact xParts hX0 hB hkK (fun j hj => ⟨by rw [g60']; exact (h1 j hj).2, by have := soA_le (ld := cN a 9) hs (show j < cS a 1 by omega); omega⟩) k 0 m (by omega) (by omega) (by show 0 ≤ 1001; omega)
        rw [if_neg c2, hpart, Option.bind_some, g59']
        simp only []
        rw [nI_max (by omega) (by omega), ldA_nI _ 21 k (by omega), (hX0.2.2.2.2.2.1.2.2.1 k hkK).1, nI_add, show (1 : Int32) = nI 1 from rfl, pk_sub (by omega), nI_min4 (by omega)]
        exact key _ heq.symm
theorem xReck34 {a : AS} {n : Nat} {σ : ST} (hn : 300 ≤ n) (hA : wfA 600 a) (hB : wfBg 0 0 a) (hX : XR a σ) : ∃ σ', fX1_reckonSoonest_34 n σ = some σ' ∧ fr [25] [59, 60] [] σ σ' ∧ (∀ j, j < cS a 1 → gA σ' 59 j = nI (opG a (cN a 9) j) ∧ gA σ' 60 j = nI (soA a (cN a 9) j)) ∧ gI σ' 25 = nI (sumTo (fun j => costA a j (soA a (cN a 9) j)) (cS a 1)) := by
  have hK := hB.1.1
  unfold fX1_reckonSoonest_34
  rw [lt_def, lt_def]
  have f0 : fr [25] [59, 60] [] σ (sI σ 25 0) := fr_sI fr_rf (by decide)
  obtain ⟨σ', r1, r2, r3⟩ := xReckL34 hA hB (cS a 1) 0 n (sI σ 25 0) (by omega) (by omega) (XR_fo (fr_up f0 (by decide) (by decide) (by decide)) hX) (fun j hj => absurd hj (Nat.not_lt_zero j)) rfl
  exact ⟨σ', r1, fr_tr f0 r2, r3⟩
theorem xOpL35 {a : AS} {σ : ST} {k : Nat} (hX : XR a σ) (hA : wfA 600 a) (hB : wfBg 0 0 a) (hk : k < cS a 1) : ∀ d x n, x + d = 6 → d < n → mxT (cS a 3 + 1) (misB a k) (cN a 10) x ≤ 400 → fX1_openingOf_35_L34 n (nI (mxT (cS a 3 + 1) (misB a k) (cN a 10) x)) (nI (andN (cN a 3 k) (cS a 8))) (nI x) σ = some (nI (opG a (cN a 10) k), σ) := by
  have bt := hB.1.2.2.2 k hk
  have hl := andN_le (cN a 3 k) (cS a 8)
  intro d
  induction d with
  | zero =>
    intro x n hx hn hb
    obtain ⟨m, rfl⟩ : ∃ m, n = m + 1 := ⟨n - 1, by omega⟩
    have : x = 6 := by omega
    subst this
    rw [fX1_openingOf_35_L34, show (6 : Int32) = nI 6 from rfl, if_pos (nI_le (Nat.le_refl 6) (by decide))]; rfl
  | succ d ih =>
    intro x n hx hn hb
    obtain ⟨m, rfl⟩ : ∃ m, n = m + 1 := ⟨n - 1, by omega⟩
    have hx6 : x < 6 := by omega
    have e35 : gA σ 35 x = nI (cN a 10 x) := (hX.2.2.1 x hx6).2
    have hsp : cN a 10 x ≤ 399 := (hA.2.1 x hx6).2
    have hstep := mxT.eq_2 (cS a 3 + 1) (misB a k) (cN a 10) x
    have hle : mxT (cS a 3 + 1) (misB a k) (cN a 10) (x + 1) ≤ 400 := by
      rw [hstep]
      split <;> omega
    have hh := ih (x + 1) m (by omega) (by omega) hle
    have hbit : (andN (cN a 3 k) (cS a 8)).testBit x = misB a k x := andN_bit _ _ _ (by omega)
    rw [fX1_openingOf_35_L34, if_neg (show ¬ (6 : Int32) ≤ nI x from nI_ge hx6 (by decide))]
    simp only [lt_def]
    by_cases c : misB a k x = true
    · rw [if_neg (fun q => by rw [bit_zero (by omega) (by omega), hbit, c] at q; cases q), if_pos (ix_nI hx6 (by decide)), ldA_nI _ 35 x (by omega), e35, nI_max (by omega) (by omega), nI_1]
      rw [hstep, if_pos c] at hh
      exact hh
    · rw [if_pos ((bit_zero (by omega) (by omega)).mpr (by rw [hbit]; simpa using c)), nI_1]
      rw [hstep, if_neg c] at hh
      exact hh
theorem xOp35 {a : AS} {σ : ST} {k n : Nat} (hn : 100 ≤ n) (hX : XR a σ) (hA : wfA 600 a) (hB : wfBg 0 0 a) (hk : k < cS a 1) : fX1_openingOf_35 n (nI k) σ = some (nI (opG a (cN a 10) k), σ) := by
  have hK := hB.1.1
  have h3 := hB.2.1.1
  have e18 : gI σ 18 = nI (cS a 3) := hX.2.2.2.2.2.2.1.1
  have e24 := (hX.2.2.2.2.2.1.2.2.1 k hk).2.2.2.1
  unfold fX1_openingOf_35
  rw [lt_def, e18, nI_1, if_pos (ix_nI (show k < 7 by omega) (by decide)), ldA_nI _ 24 k (by omega), e24, hX.2.2.2.1.1, nI_andN, lt_def, lt_def]
  exact xOpL35 hX hA hB hk 6 0 n (by omega) (by omega) (by show cS a 3 + 1 ≤ 400; omega)
theorem opG_le35 {a : AS} (hA : wfA 600 a) (hB : wfBg 0 0 a) (k : Nat) : opG a (cN a 10) k ≤ 400 := (mxT_le 6).mpr ⟨by have := hB.2.1.1; omega, fun x hx _ => by have := (hA.2.1 x hx).2; omega⟩
theorem xReckL35 {a : AS} (hA : wfA 600 a) (hB : wfBg 0 0 a) : ∀ d k n σ, k + d = cS a 1 → d + 200 < n → XR a σ → (∀ j, j < k → gA σ 59 j = nI (opG a (cN a 10) j) ∧ gA σ 60 j = nI (soA a (cN a 10) j)) → gI σ 25 = nI (sumTo (fun j => costA a j (soA a (cN a 10) j)) k) →
    ∃ σ', fX1_reckonSoonest_35_L7 n (nI k) σ = some σ' ∧ fr [25] [59, 60] [] σ σ' ∧ (∀ j, j < cS a 1 → gA σ' 59 j = nI (opG a (cN a 10) j) ∧ gA σ' 60 j = nI (soA a (cN a 10) j)) ∧ gI σ' 25 = nI (sumTo (fun j => costA a j (soA a (cN a 10) j)) (cS a 1)) := by
  have hK := hB.1.1
  have hs := hs_of hB
  intro d
  induction d with
  | zero =>
    intro k n σ hk hn hX h1 h2
    obtain ⟨m, rfl⟩ : ∃ m, n = m + 1 := ⟨n - 1, by omega⟩
    have : k = cS a 1 := by omega
    subst this
    exact ⟨σ, by rw [fX1_reckonSoonest_35_L7, hX.2.2.2.2.2.1.1, if_pos (nI_le (Nat.le_refl _) (by omega))], fr_rf, h1, h2⟩
  | succ d ih =>
    intro k n σ hk hn hX h1 h2
    obtain ⟨m, rfl⟩ : ∃ m, n = m + 1 := ⟨n - 1, by omega⟩
    have hkK : k < cS a 1 := by omega
    have hk7 : k < 7 := by omega
    have i7 : ix (nI k) 7 := ix_nI hk7 (by decide)
    have bt := hB.1.2.2.2 k hkK
    have h3 := hB.2.1.1
    have h6 : cS a 6 < 128 := Nat.lt_of_lt_of_le hB.2.1.2.2.2 (pow_le_128 hK)
    -- what comes behind the end
    have key : ∀ e : Nat, e = soA a (cN a 10) k → ∃ σ', Option.bind (fX1_costOf (nI k) (ldA (stA (stA σ 59 (nI k) (nI (opG a (cN a 10) k))) 60 (nI k) (nI e)) 60 (nI k)) (stA (stA σ 59 (nI k) (nI (opG a (cN a 10) k))) 60 (nI k) (nI e))) (fun q_11 => fX1_reckonSoonest_35_L7 m (nI k + 1) (sI q_11.2 25 (gI (stA (stA σ 59 (nI k) (nI (opG a (cN a 10) k))) 60 (nI k) (nI e)) 25 + q_11.1))) = some σ' ∧ fr [25] [59, 60] [] σ σ' ∧ (∀ j, j < cS a 1 → gA σ' 59 j = nI (opG a (cN a 10) j) ∧ gA σ' 60 j = nI (soA a (cN a 10) j)) ∧ gI σ' 25 = nI (sumTo (fun j => costA a j (soA a (cN a 10) j)) (cS a 1)) := by
      intro e he
      have hle : e ≤ 400 := by rw [he]; exact soA_le hs hkK
      rw [stA_nI σ 59 k _ (by omega), stA_nI _ 60 k _ (by omega), ldA_nI _ 60 k (by omega), gA_sA, if_pos rfl, upd_at, if_pos rfl]
      generalize hs1 : sA (sA σ 59 (upd (gA σ 59) k (nI (opG a (cN a 10) k)))) 60 (upd (gA (sA σ 59 (upd (gA σ 59) k (nI (opG a (cN a 10) k)))) 60) k (nI e)) = σ1
      have f1 : fr [25] [59, 60] [] σ σ1 := by rw [← hs1]; exact fr_sA (fr_sA fr_rf (by decide)) (by decide)
      have g59 : gA σ1 59 = upd (gA σ 59) k (nI (opG a (cN a 10) k)) := by rw [← hs1]; rfl
      have g60 : gA σ1 60 = upd (gA σ 60) k (nI e) := by rw [← hs1]; rfl
      have g25 : gI σ1 25 = gI σ 25 := by rw [← hs1]; rfl
      clear hs1
      have hX1 : XR a σ1 := XR_fo (fr_up f1 (by decide) (by decide) (by decide)) hX
      rw [xCost hX1 hB hkK (by omega), Option.bind_some, g25, h2, nI_add, nI_1]
      have f2 : fr [25] [59, 60] [] σ1 (sI σ1 25 (nI (sumTo (fun j => costA a j (soA a (cN a 10) j)) k + costA a k e))) := fr_sI fr_rf (by decide)
      obtain ⟨σ', r1, r2, r3⟩ := ih (k + 1) m (sI σ1 25 (nI (sumTo (fun j => costA a j (soA a (cN a 10) j)) k + costA a k e))) (by omega) (by omega) (XR_fo (fr_up f2 (by decide) (by decide) (by decide)) hX1) (fun j hj => by
        show gA σ1 59 j = _ ∧ gA σ1 60 j = _
        rw [g59, g60, upd_at, upd_at]
        by_cases c : j = k
        · rw [if_pos c, if_pos c, c, he]; exact ⟨rfl, rfl⟩
        · rw [if_neg c, if_neg c]; exact h1 j (by omega)) (by
        show nI _ = nI _
        rw [sumTo, he])
      exact ⟨σ', r1, fr_tr f1 (fr_tr f2 r2), r3⟩
    rw [fX1_reckonSoonest_35_L7, hX.2.2.2.2.2.1.1, if_neg (nI_ge hkK (by omega)), xOp35 (by omega) hX hA hB hkK, Option.bind_some]
    simp only [lt_def, if_pos i7]
    have f0 : fr [25] [59, 60] [] σ (stA σ 59 (nI k) (nI (opG a (cN a 10) k))) := by rw [stA_nI σ 59 k _ (by omega)]; exact fr_sA fr_rf (by decide)
    have g59' : ldA (stA σ 59 (nI k) (nI (opG a (cN a 10) k))) 59 (nI k) = nI (opG a (cN a 10) k) := by
      rw [stA_nI σ 59 k _ (by omega), ldA_nI _ 59 k (by omega), gA_sA, if_pos rfl, upd_at, if_pos rfl]
    have g60' : ∀ j, gA (stA σ 59 (nI k) (nI (opG a (cN a 10) k))) 60 j = gA σ 60 j := fun j => by rw [stA_nI σ 59 k _ (by omega)]; rfl
    generalize hs0 : stA σ 59 (nI k) (nI (opG a (cN a 10) k)) = σ0 at f0 g59' g60' key
    have hX0 : XR a σ0 := XR_fo (fr_up f0 (by decide) (by decide) (by decide)) hX
    obtain ⟨w, hw, w1, w2⟩ := hX0.2.2.2.2.2.2.1.2.2.2.1
    have hwb := way_bit (a := a) hk7 w2
    have heq := soA_eq (a := a) (ld := cN a 10) hkK
    unfold soV at heq
    rw [xDone hX0.2.2.2.2.2.2.1.2.2.1 (by omega) (by omega), Option.bind_some]
    simp only [pif]
    by_cases c1 : (cS a 6).testBit k = true
    · rw [if_pos c1] at heq
      rw [if_pos c1, ldA_nI _ 55 k (by omega), hX0.2.2.2.2.2.2.1.2.2.2.2.2.2.2.1 k hkK c1]
      exact key _ heq.symm
    · rw [if_neg c1] at heq
      rw [if_neg c1, xWay w1 (by omega) (by omega), Option.bind_some]
      simp only [pif, hwb]
      by_cases c2 : wayB a k = true
      · rw [if_pos c2] at heq
        obtain ⟨h, hh3, hh⟩ := (wayB_iff a k).mp c2
        have b6 := hB.2.2.2.2.2.1 h hh3 (by omega)
        have e57 := hX0.2.2.2.2.2.2.1.2.2.2.2.2.2.2.2.2 h hh3 (by omega)
        rw [hh, Nat.add_sub_cancel] at b6 e57
        rw [if_pos c2, ldA_nI _ 21 k (by omega), ldA_nI _ 57 k (by omega), e57, (hX0.2.2.2.2.2.1.2.2.1 k hkK).1, hX0.2.2.2.2.2.2.1.1, nI_add, pk_sub (by omega), nI_min4 (by omega)]
        exact key _ heq.symm
      · rw [if_neg c2] at heq
        have hpl : prtN a (soA a (cN a 10)) k ≤ 401 := prtN_le (fun j hj => by have := soA_le (ld := cN a 10) hs (show j < cS a 1 by omega); omega)
        have hol := opG_le35 hA hB k
        have hpart : fX1_partsOpening m (nI k) σ0 = some (nI (prtN a (soA a (cN a 10)) k), σ0) := by
          unfold fX1_partsOpening
          rw [lt_def, lt_def]
          exact xParts hX0 hB hkK (fun j hj => ⟨by rw [g60']; exact (h1 j hj).2, by have := soA_le (ld := cN a 10) hs (show j < cS a 1 by omega); omega⟩) k 0 m (by omega) (by omega) (by show 0 ≤ 1001; omega)
        rw [if_neg c2, hpart, Option.bind_some, g59']
        simp only []
        rw [nI_max (by omega) (by omega), ldA_nI _ 21 k (by omega), (hX0.2.2.2.2.2.1.2.2.1 k hkK).1, nI_add, show (1 : Int32) = nI 1 from rfl, pk_sub (by omega), nI_min4 (by omega)]
        exact key _ heq.symm
theorem xReck35 {a : AS} {n : Nat} {σ : ST} (hn : 300 ≤ n) (hA : wfA 600 a) (hB : wfBg 0 0 a) (hX : XR a σ) : ∃ σ', fX1_reckonSoonest_35 n σ = some σ' ∧ fr [25] [59, 60] [] σ σ' ∧ (∀ j, j < cS a 1 → gA σ' 59 j = nI (opG a (cN a 10) j) ∧ gA σ' 60 j = nI (soA a (cN a 10) j)) ∧ gI σ' 25 = nI (sumTo (fun j => costA a j (soA a (cN a 10) j)) (cS a 1)) := by
  have hK := hB.1.1
  unfold fX1_reckonSoonest_35
  rw [lt_def, lt_def]
  have f0 : fr [25] [59, 60] [] σ (sI σ 25 0) := fr_sI fr_rf (by decide)
  obtain ⟨σ', r1, r2, r3⟩ := xReckL35 hA hB (cS a 1) 0 n (sI σ 25 0) (by omega) (by omega) (XR_fo (fr_up f0 (by decide) (by decide) (by decide)) hX) (fun j hj => absurd hj (Nat.not_lt_zero j)) rfl
  exact ⟨σ', r1, fr_tr f0 r2, r3⟩
