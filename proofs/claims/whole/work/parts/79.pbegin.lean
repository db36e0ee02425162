/-! ===== PURE: tick: steps begin ===== -/
def wfBg (m t : Nat) (a : AS) : Prop :=
  (cS a 1 ≤ 7 ∧ cS a 5 < 128 ∧ cS a 9 ≤ 400 ∧ ∀ k, k < cS a 1 → 1 ≤ cN a 0 k ∧ cN a 0 k ≤ 20 ∧ cN a 1 k ≤ 399 ∧ cN a 2 k ≤ 100 ∧ ((cS a 5).testBit k = false → cN a 1 k = 0 ∧ cN a 2 k = 0) ∧ cN a 3 k < 64 ∧ cN a 4 k < 2 ^ k ∧ cN a 5 k < 64 ∧
    (∀ x, (cN a 3 k).testBit x = true → (cN a 5 k).testBit x = true) ∧ (∀ j, (cN a 4 k).testBit j = true → ∀ x, (cN a 5 j).testBit x = true → (cN a 5 k).testBit x = true)) ∧
  (cS a 3 ≤ 399 ∧ 1 ≤ cS a 4 ∧ cS a 4 ≤ 3 ∧ cS a 6 < 2 ^ cS a 1) ∧
  (∀ h, h < 3 → cN a 12 h ≤ cS a 1) ∧ (∀ h h', h < 3 → h' < 3 → cN a 12 h ≠ 0 → cN a 12 h = cN a 12 h' → h = h') ∧ (∀ h, cS a 4 ≤ h → h < 3 → cN a 12 h = 0) ∧
  (∀ h, h < 3 → cN a 12 h ≠ 0 → m ≤ cN a 16 (cN a 12 h - 1) ∧ cN a 16 (cN a 12 h - 1) < cN a 0 (cN a 12 h - 1) ∧ (cS a 6).testBit (cN a 12 h - 1) = false) ∧
  (∀ k, k < cS a 1 → (cS a 6).testBit k = true → cN a 14 k ≤ cS a 3) ∧
  (∀ k, k < cS a 1 → ((cS a 6).testBit k = true ∨ ∃ h, h < 3 ∧ cN a 12 h = k + 1) → (∀ j, (cN a 4 k).testBit j = true → (cS a 6).testBit j = true) ∧ ∀ x, (cN a 3 k).testBit x = true → (cS a 8).testBit x = true) ∧
  (∀ i, i < cS a 1 → cN a 13 i < cS a 1) ∧ (∀ i j, i < cS a 1 → j < cS a 1 → cN a 13 i = cN a 13 j → i = j)
theorem wfBg_1 {t : Nat} {a : AS} (h : wfB t a) : wfBg 1 t a := h
theorem wfBg_0 {t : Nat} {a : AS} (h : wfBg 1 t a) : wfBg 0 t a := ⟨h.1, h.2.1, h.2.2.1, h.2.2.2.1, h.2.2.2.2.1, fun q h1 h2 => ⟨Nat.zero_le _, (h.2.2.2.2.2.1 q h1 h2).2⟩, h.2.2.2.2.2.2⟩
theorem wfBg_up {t : Nat} {a : AS} (h : wfBg 0 t a) (hw : ∀ q, q < 3 → cN a 12 q ≠ 0 → 1 ≤ cN a 16 (cN a 12 q - 1)) : wfB t a := ⟨h.1, h.2.1, h.2.2.1, h.2.2.2.1, h.2.2.2.2.1, fun q h1 h2 => ⟨hw q h1 h2, (h.2.2.2.2.2.1 q h1 h2).2⟩, h.2.2.2.2.2.2⟩
def aBeg (a : AS) (h k : Nat) : AS := tN (tN a 12 (uN (cN a 12) h (k + 1))) 16 (uN (cN a 16) k 0)
theorem beg_wfB {t h k : Nat} {a : AS} (hh : h < cS a 4) (hk : k < cS a 1) (h0 : cN a 12 h = 0) (hr : readyP a k) (hB : wfBg 0 t a) : wfBg 0 t (aBeg a h k) := by
  obtain ⟨b1, b2, b3, b4, b5, b6, b7, b8, b9, b10⟩ := hB
  have h3 : h < 3 := by have := b2.2.2.1; omega
  refine ⟨b1, b2, fun q hq => ?_, fun q q' hq hq' hz he => ?_, fun q hq hq3 => ?_, fun q hq hz => ?_, b7, fun j hj hd => ?_, b9, b10⟩
  · show uN (cN a 12) h (k + 1) q ≤ cS a 1
    rw [uN_at]
    split
    · omega
    · exact b3 q hq
  · have hz' : uN (cN a 12) h (k + 1) q ≠ 0 := hz
    have he' : uN (cN a 12) h (k + 1) q = uN (cN a 12) h (k + 1) q' := he
    rw [uN_at, uN_at] at he'
    rw [uN_at] at hz'
    by_cases e : q = h
    · by_cases e' : q' = h
      · omega
      · rw [if_pos e, if_neg e'] at he'
        exact absurd ⟨q', hq', he'.symm⟩ hr.2.1
    · by_cases e' : q' = h
      · rw [if_neg e, if_pos e'] at he'
        exact absurd ⟨q, hq, he'⟩ hr.2.1
      · rw [if_neg e, if_neg e'] at he'
        rw [if_neg e] at hz'
        exact b4 q q' hq hq' hz' he'
  · show uN (cN a 12) h (k + 1) q = 0
    have hq' : cS a 4 ≤ q := hq
    rw [uN_at, if_neg (by omega)]
    exact b5 q hq' hq3
  · have hz' : uN (cN a 12) h (k + 1) q ≠ 0 := hz
    show 0 ≤ uN (cN a 16) k 0 (uN (cN a 12) h (k + 1) q - 1) ∧ uN (cN a 16) k 0 (uN (cN a 12) h (k + 1) q - 1) < cN a 0 (uN (cN a 12) h (k + 1) q - 1) ∧ (cS a 6).testBit (uN (cN a 12) h (k + 1) q - 1) = false
    rw [uN_at (cN a 12)] at hz' ⊢
    by_cases e : q = h
    · rw [if_pos e, Nat.add_sub_cancel, uN_at, if_pos rfl]
      exact ⟨Nat.le_refl 0, (b1.2.2.2 k hk).1, hr.1⟩
    · rw [if_neg e] at hz' ⊢
      have hne : cN a 12 q - 1 ≠ k := fun z => hr.2.1 ⟨q, hq, by omega⟩
      rw [uN_at, if_neg hne]
      exact b6 q hq hz'
  · by_cases e : j = k
    · subst e
      exact ⟨hr.2.2.2, hr.2.2.1⟩
    · refine b8 j hj (hd.imp id (fun ⟨q, hq, he⟩ => ⟨q, hq, ?_⟩))
      have he' : uN (cN a 12) h (k + 1) q = j + 1 := he
      rw [uN_at] at he'
      by_cases z : q = h
      · rw [if_pos z] at he'; omega
      · rw [if_neg z] at he'; exact he'
theorem xFirst {a : AS} {σ : ST} (hK : cS a 1 ≤ 7) (hB : wfBg 0 0 a) (h8 : cS a 8 < 64) (hX : XR a σ) : ∀ d i n, i + d = cS a 1 → d < n →
    ((∀ q, i ≤ q → q < cS a 1 → ¬ readyP a (cN a 13 q)) → fX9_firstReady_L2 n (nI i) σ = some (-1, σ)) ∧ (∀ p, i ≤ p → p < cS a 1 → readyP a (cN a 13 p) → (∀ q, i ≤ q → q < p → ¬ readyP a (cN a 13 q)) → fX9_firstReady_L2 n (nI i) σ = some (nI (cN a 13 p), σ)) := by
  have h10 : gI σ 10 = nI (cS a 1) := hX.2.2.2.2.2.1.1
  have h6 : cS a 6 < 128 := Nat.lt_of_lt_of_le hB.2.1.2.2.2 (pow_le_128 hK)
  intro d
  induction d with
  | zero =>
    intro i n hi hn
    obtain ⟨m, rfl⟩ : ∃ m, n = m + 1 := ⟨n - 1, by omega⟩
    refine ⟨fun _ => ?_, fun p h1 h2 => by omega⟩
    rw [fX9_firstReady_L2, h10, if_pos (nI_le (by omega) (by omega))]
  | succ d ih =>
    intro i n hi hn
    obtain ⟨m, rfl⟩ : ∃ m, n = m + 1 := ⟨n - 1, by omega⟩
    have hiK : i < cS a 1 := by omega
    obtain ⟨i1, i2⟩ := ih (i + 1) m (by omega) (by omega)
    have ho := hB.2.2.2.2.2.2.2.2.1 i hiK
    have hs := hB.1.2.2.2 (cN a 13 i) ho
    have e54 : gA σ 54 i = nI (cN a 13 i) := hX.2.2.2.2.2.2.1.2.2.2.2.2.1 i (by omega)
    obtain ⟨r1, r2⟩ := xReady hK ho hs.2.2.2.2.2.1 (Nat.lt_of_lt_of_le hs.2.2.2.2.2.2.1 (pow_le_128 (by omega))) h6 h8 hX
    have i7 : ix (nI i) 7 := ix_nI (by omega) (by decide)
    rw [fX9_firstReady_L2, h10, if_neg (nI_ge hiK (by omega)), if_pos i7, ldA_nI _ _ _ (by omega), e54]
    by_cases c : readyP a (cN a 13 i)
    · rw [r1 c, Option.bind_some]
      simp only [if_neg one_ne, if_pos i7]
      rw [ldA_nI _ _ _ (by omega), e54]
      refine ⟨fun h => absurd c (h i (Nat.le_refl i) hiK), fun p h1 h2 h3 h4 => ?_⟩
      have : p = i := by
        rcases Nat.lt_or_ge i p with z | z
        · exact absurd c (h4 i (Nat.le_refl i) z)
        · omega
      rw [this]
    · rw [r2 c, Option.bind_some]
      simp only [if_true, lt_def, nI_1]
      refine ⟨fun h => i1 (fun q h1 h2 => h q (by omega) h2), fun p h1 h2 h3 h4 => i2 p ?_ h2 h3 (fun q z1 z2 => h4 q (by omega) z2)⟩
      rcases Nat.lt_or_ge i p with z | z
      · exact z
      · have : p = i := by omega
        rw [this] at h3
        exact absurd h3 c
theorem xBegNo {a : AS} {σ : ST} {h n : Nat} (hn : 100 ≤ n) (hK : cS a 1 ≤ 7) (hB : wfBg 0 0 a) (h8 : cS a 8 < 64) (hX : XR a σ) (hno : ∀ q, q < cS a 1 → ¬ readyP a (cN a 13 q)) : fX9_beginAt n (nI h) σ = some σ := by
  unfold fX9_beginAt
  rw [show fX9_firstReady n σ = fX9_firstReady_L2 n (nI 0) σ from rfl, (xFirst hK hB h8 hX (cS a 1) 0 n (by omega) (by omega)).1 (fun q _ hq => hno q hq), Option.bind_some]
  simp only [lt_def]
  rw [xStep_no hX (Or.inl (by decide)), Option.bind_some]
  rfl
theorem xBeg {a : AS} {σ : ST} {h n p : Nat} (hn : 100 ≤ n) (hh : h < 3) (hK : cS a 1 ≤ 7) (hB : wfBg 0 0 a) (h8 : cS a 8 < 64) (hX : XR a σ) (h0 : cN a 12 h = 0) (hp : p < cS a 1) (hr : readyP a (cN a 13 p)) (hf : ∀ q, q < p → ¬ readyP a (cN a 13 q)) : ∃ σ', fX9_beginAt n (nI h) σ = some σ' ∧ XR (aBeg a h (cN a 13 p)) σ' := by
  have ho := hB.2.2.2.2.2.2.2.2.1 p hp
  generalize hk : cN a 13 p = k at hr ho
  have hX0 := hX
  obtain ⟨xT, xP, xS, xTb, xR, xSc, xW, xPo⟩ := hX
  obtain ⟨y18, y19, y20, ⟨w, hw, w1, w2⟩, y53, y54, y56, y55, y45, y57⟩ := xW
  have hk7 : k < 7 := by omega
  unfold fX9_beginAt
  rw [show fX9_firstReady n σ = fX9_firstReady_L2 n (nI 0) σ from rfl, (xFirst hK hB h8 hX0 (cS a 1) 0 n (by omega) (by omega)).2 p (Nat.zero_le _) hp (by rw [hk]; exact hr) (fun q _ hq => hf q hq), Option.bind_some, hk]
  simp only [lt_def]
  rw [xStep_yes xSc.1 hK ho, Option.bind_some]
  simp only [if_neg one_ne]
  rw [if_pos (ix_nI hh (by decide)), stA_nI σ 53 h (nI k) (by omega), gI_sA, w1, nI_shl1 (by omega), nI_or, if_pos (ix_nI hk7 (by decide)), stA_nI _ _ _ _ (by omega)]
  refine ⟨_, rfl, xT, xP, xS, xTb, xR, xSc, ⟨y18, y19, y20, ⟨w ||| 2 ^ k, ?_, rfl, fun j hj => ?_⟩, fun q hq => ?_, y54, y56, y55, y45, fun q hq hz => ?_⟩, xPo⟩
  · exact or_lt (n := 7) hw (Nat.pow_lt_pow_right (by decide) hk7)
  · rw [testBit_set]
    constructor
    · intro z
      rw [Bool.or_eq_true] at z
      rcases z with z | z
      · obtain ⟨q, q1, q2⟩ := (w2 j hj).mp z
        refine ⟨q, q1, ?_⟩
        show uN (cN a 12) h (k + 1) q = j + 1
        rw [uN_at, if_neg (fun e => by rw [e, h0] at q2; omega)]
        exact q2
      · refine ⟨h, hh, ?_⟩
        show uN (cN a 12) h (k + 1) h = j + 1
        rw [uN_at, if_pos rfl, of_decide_eq_true z]
    · rintro ⟨q, q1, q2⟩
      have q2' : uN (cN a 12) h (k + 1) q = j + 1 := q2
      rw [uN_at] at q2'
      rw [Bool.or_eq_true]
      by_cases e : q = h
      · rw [if_pos e] at q2'
        right; exact decide_eq_true (by omega)
      · rw [if_neg e] at q2'
        left; exact (w2 j hj).mpr ⟨q, q1, q2'⟩
  · show upd (gA σ 53) h (nI k) q = if uN (cN a 12) h (k + 1) q = 0 then -1 else nI (uN (cN a 12) h (k + 1) q - 1)
    rw [upd_at, uN_at]
    by_cases e : q = h
    · rw [if_pos e, if_pos e, if_neg (by omega), Nat.add_sub_cancel]
    · rw [if_neg e, if_neg e]; exact y53 q hq
  · have hz' : uN (cN a 12) h (k + 1) q ≠ 0 := hz
    show upd (gA σ 57) k 0 (uN (cN a 12) h (k + 1) q - 1) = nI (uN (cN a 16) k 0 (uN (cN a 12) h (k + 1) q - 1))
    rw [uN_at (cN a 12)] at hz' ⊢
    by_cases e : q = h
    · rw [if_pos e, Nat.add_sub_cancel, upd_at, uN_at, if_pos rfl, if_pos rfl]; rfl
    · rw [if_neg e] at hz' ⊢
      have hne : cN a 12 q - 1 ≠ k := fun z => hr.2.1 ⟨q, hq, by omega⟩
      rw [upd_at, uN_at, if_neg hne, if_neg hne]
      exact y57 q hq hz'
theorem mFirst {a : AS} {τ : ST} {h : Nat} (hh : h < 3) (hK : cS a 1 ≤ 7) (hA : wfA 600 a) (hB : wfBg 0 0 a) (h0 : cN a 12 h = 0) (hM : MR a τ) (k103 : Int32 → ST → Option (Int32 × ST)) : ∀ d i n, i + d = cS a 1 → d + 100 < n →
    ((∀ q, i ≤ q → q < cS a 1 → ¬ readyP a (cN a 13 q)) → fX11_tick_L34 k103 n (nI h) (nI i) τ = k103 (nI h) τ) ∧ (∀ p, i ≤ p → p < cS a 1 → readyP a (cN a 13 p) → (∀ q, i ≤ q → q < p → ¬ readyP a (cN a 13 q)) → ∃ τ', fX11_tick_L34 k103 n (nI h) (nI i) τ = k103 (nI h) τ' ∧ fr [] [33, 37] [] τ τ' ∧ MR (aBeg a h (cN a 13 p)) τ') := by
  have hM0 := hM
  obtain ⟨mT, mP, mS, mTb, mR, ⟨v, hv, s11, s8, sK, sC⟩, ⟨y18, y19, y33, y34, y36, y35, y38, y37⟩, mPo⟩ := hM
  intro d
  induction d with
  | zero =>
    intro i n hi hn
    obtain ⟨m, rfl⟩ : ∃ m, n = m + 1 := ⟨n - 1, by omega⟩
    refine ⟨fun _ => ?_, fun p h1 h2 => by omega⟩
    rw [fX11_tick_L34, s11, if_pos (ix_nI hv (by decide)), ldA_nI _ _ _ (by omega), s8, if_pos (nI_le (by omega) (by omega))]
  | succ d ih =>
    intro i n hi hn
    obtain ⟨m, rfl⟩ : ∃ m, n = m + 1 := ⟨n - 1, by omega⟩
    have hiK : i < cS a 1 := by omega
    obtain ⟨i1, i2⟩ := ih (i + 1) m (by omega) (by omega)
    have ho := hB.2.2.2.2.2.2.2.2.1 i hiK
    have hs := hB.1.2.2.2 (cN a 13 i) ho
    have e34 : gA τ 34 i = nI (cN a 13 i) := y34 i (by omega)
    have sk := sK (cN a 13 i) ho
    have e33 : gA τ 33 h = -1 := by rw [y33 h hh, if_pos h0]
    obtain ⟨r1, r2⟩ := mReady (a := a) (τ := τ) (n := m) (k := cN a 13 i) (by omega) hv ho hK s11 sk.2.2.2.2.1 sk.2.2.2.2.2.1 hs.2.2.2.2.2.1 hs.2.2.2.2.2.2.1 (fun x hx => (mTb.1 x hx).1) (fun x hx => ⟨by have := (hA.2.2.1.2 x hx).1; omega, (hA.2.2.1.2 x hx).2.2.2.1⟩) y35 (fun j hj hd => by have := hB.2.2.2.2.2.2.1 j hj hd; have := hB.2.1.1; omega) y33 (fun q hq => Nat.le_trans (hB.2.2.1 q hq) hK)
    have i7 : ix (nI i) 7 := ix_nI (by omega) (by decide)
    have i3 : ix (nI h) 3 := ix_nI hh (by decide)
    rw [fX11_tick_L34, s11, if_pos (ix_nI hv (by decide)), ldA_nI _ _ _ (by omega), s8, if_neg (nI_ge hiK (by omega)), if_pos i3, ldA_nI _ _ _ (by omega), e33, if_pos rfl, if_pos i7, ldA_nI _ _ _ (by omega), e34]
    by_cases c : readyP a (cN a 13 i)
    · rw [r1 c, Option.bind_some]
      simp only [if_neg one_ne, if_pos i7, if_pos i3, lt_def]
      refine ⟨fun z => absurd c (z i (Nat.le_refl i) hiK), fun p h1 h2 h3 h4 => ?_⟩
      have ep : p = i := by
        rcases Nat.lt_or_ge i p with z | z
        · exact absurd c (h4 i (Nat.le_refl i) z)
        · omega
      subst ep
      rw [ldA_nI τ 34 p (by omega), e34, stA_nI τ 33 h _ (by omega), ldA_nI _ 34 p (by omega), gA_sA, if_neg (show ¬ (34 = 33) by decide), e34, if_pos (ix_nI (show cN a 13 p < 7 by omega) (by decide)), stA_nI _ _ _ _ (by omega), nI_1]
      have f1 : fr [] [33, 37] [] τ (sA (sA τ 33 (upd (gA τ 33) h (nI (cN a 13 p)))) 37 (upd (gA (sA τ 33 (upd (gA τ 33) h (nI (cN a 13 p)))) 37) (cN a 13 p) 0)) := fr_sA (fr_sA fr_rf (by decide)) (by decide)
      refine ⟨_, ?_, f1, mT, mP, mS, mTb, mR, ⟨v, hv, s11, s8, sK, sC⟩, ⟨y18, y19, fun q hq => ?_, y34, y36, y35, y38, fun q hq hz => ?_⟩, mPo⟩
      · -- the rest of the loop: the host is taken
        generalize hτ : (sA (sA τ 33 (upd (gA τ 33) h (nI (cN a 13 p)))) 37 (upd (gA (sA τ 33 (upd (gA τ 33) h (nI (cN a 13 p)))) 37) (cN a 13 p) 0)) = τ1 at f1
        obtain ⟨m', rfl⟩ : ∃ m', m = m' + 1 := ⟨m - 1, by omega⟩
        have g33 : gA τ1 33 h = nI (cN a 13 p) := by
          rw [← hτ]; show upd (gA τ 33) h (nI (cN a 13 p)) h = _
          rw [upd_at, if_pos rfl]
        rw [fX11_tick_L34, f1.1 11 (by decide), s11, if_pos (ix_nI hv (by decide)), ldA_nI _ _ _ (by omega), f1.2.1 8 (by decide), s8]
        by_cases z : nI (cS a 1) ≤ nI (p + 1)
        · rw [if_pos z]
        · rw [if_neg z, if_pos i3, ldA_nI _ _ _ (by omega), g33, if_neg (nI_ne_m1 (by omega))]
      · show upd (gA τ 33) h (nI (cN a 13 p)) q = if uN (cN a 12) h (cN a 13 p + 1) q = 0 then -1 else nI (uN (cN a 12) h (cN a 13 p + 1) q - 1)
        rw [upd_at, uN_at]
        by_cases e : q = h
        · rw [if_pos e, if_pos e, if_neg (by omega), Nat.add_sub_cancel]
        · rw [if_neg e, if_neg e]; exact y33 q hq
      · have hz' : uN (cN a 12) h (cN a 13 p + 1) q ≠ 0 := hz
        show upd (gA τ 37) (cN a 13 p) 0 (uN (cN a 12) h (cN a 13 p + 1) q - 1) = nI (uN (cN a 16) (cN a 13 p) 0 (uN (cN a 12) h (cN a 13 p + 1) q - 1))
        rw [uN_at (cN a 12)] at hz' ⊢
        by_cases e : q = h
        · rw [if_pos e, Nat.add_sub_cancel, upd_at, uN_at, if_pos rfl, if_pos rfl]; rfl
        · rw [if_neg e] at hz' ⊢
          have hne : cN a 12 q - 1 ≠ cN a 13 p := fun z => c.2.1 ⟨q, hq, by omega⟩
          rw [upd_at, uN_at, if_neg hne, if_neg hne]
          exact y37 q hq hz'
    · rw [r2 c, Option.bind_some]
      simp only [if_true, lt_def, nI_1]
      refine ⟨fun z => i1 (fun q h1 h2 => z q (by omega) h2), fun p h1 h2 h3 h4 => i2 p ?_ h2 h3 (fun q z1 z2 => h4 q (by omega) z2)⟩
      rcases Nat.lt_or_ge i p with z | z
      · exact z
      · have : p = i := by omega
        rw [this] at h3
        exact absurd h3 c
theorem mBegSkip {a : AS} {τ : ST} {h n : Nat} (hn : 1 ≤ n) (hh : h < 3) (hK : cS a 1 ≤ 7) (hb : cN a 12 h ≤ 7) (h0 : cN a 12 h ≠ 0) (hM : MR a τ) (k103 : Int32 → ST → Option (Int32 × ST)) : fX11_tick_L34 k103 n (nI h) (nI 0) τ = k103 (nI h) τ := by
  obtain ⟨m, rfl⟩ : ∃ m, n = m + 1 := ⟨n - 1, by omega⟩
  obtain ⟨mT, mP, mS, mTb, mR, ⟨v, hv, s11, s8, sK, sC⟩, ⟨y18, y19, y33, y34, y36, y35, y38, y37⟩, mPo⟩ := hM
  rw [fX11_tick_L34, s11, if_pos (ix_nI hv (by decide)), ldA_nI _ _ _ (by omega), s8]
  by_cases z : nI (cS a 1) ≤ nI 0
  · rw [if_pos z]
  · rw [if_neg z, if_pos (ix_nI hh (by decide)), ldA_nI _ _ _ (by omega), y33 h hh, if_neg h0, if_neg (nI_ne_m1 (by omega))]
theorem leastP (P : Nat → Prop) : ∀ n, (∀ q, q < n → ¬ P q) ∨ ∃ p, p < n ∧ P p ∧ ∀ q, q < p → ¬ P q := by
  intro n
  induction n with
  | zero => exact Or.inl (fun q hq => absurd hq (Nat.not_lt_zero q))
  | succ n ih =>
    rcases ih with h | ⟨p, h1, h2, h3⟩
    · by_cases c : P n
      · exact Or.inr ⟨n, Nat.lt_succ_self n, c, h⟩
      · left
        intro q hq
        rcases Nat.lt_or_ge q n with z | z
        · exact h q z
        · have : q = n := by omega
          subst this; exact c
    · exact Or.inr ⟨p, by omega, h2, h3⟩
theorem begins {H : Nat} (kx : ST → Option ST) (km : ST → Option (Int32 × ST)) : ∀ d h n a σ τ, h + d = H → d + 200 < n → cS a 4 = H → wfA 600 a → wfBg 0 0 a → wfD a → XR a σ → MR a τ → mKeys τ →
    ∃ a' σ' τ', fX9_passTick_L12 kx n (nI h) σ = kx σ' ∧ fX11_tick_L24 km n (nI h) τ = km τ' ∧ cS a' 4 = H ∧ wfA 600 a' ∧ wfBg 0 0 a' ∧ wfD a' ∧ XR a' σ' ∧ MR a' τ' ∧ mKeys τ' ∧ (∀ c, wfCm c a → wfCm c a') ∧ (∀ t, wfA t a → wfA t a') ∧ cS a' 3 = cS a 3 := by
  intro d
  induction d with
  | zero =>
    intro h n a σ τ hh hn hH hA hB hD hX hM hk
    obtain ⟨m, rfl⟩ : ∃ m, n = m + 1 := ⟨n - 1, by omega⟩
    have hH3 := hB.2.1.2.2.1
    refine ⟨a, σ, τ, ?_, ?_, hH, hA, hB, hD, hX, hM, hk, fun c z => z, fun t z => z, rfl⟩
    · rw [fX9_passTick_L12, hX.2.2.2.2.2.2.1.2.1, hH, if_pos (nI_le (by omega) (by omega))]
    · rw [fX11_tick_L24, hM.2.2.2.2.2.2.1.2.1, hH, if_pos (nI_le (by omega) (by omega))]
  | succ d ih =>
    intro h n a σ τ hh hn hH hA hB hD hX hM hk
    obtain ⟨m, rfl⟩ : ∃ m, n = m + 1 := ⟨n - 1, by omega⟩
    have hH3 := hB.2.1.2.2.1
    have h3 : h < 3 := by omega
    have hK : cS a 1 ≤ 7 := hB.1.1
    have h8 : cS a 8 < 64 := hA.2.2.1.1
    have x53 := hX.2.2.2.2.2.2.1.2.2.2.2.1 h h3
    rw [fX9_passTick_L12, hX.2.2.2.2.2.2.1.2.1, hH, if_neg (nI_ge (by omega) (by omega)), if_pos (ix_nI h3 (by decide)), ldA_nI _ _ _ (by omega), x53, fX11_tick_L24, hM.2.2.2.2.2.2.1.2.1, hH, if_neg (nI_ge (by omega) (by omega)), lt_def]
    simp only [lt_def]
    by_cases h0 : cN a 12 h = 0
    · rw [if_pos h0, if_pos rfl]
      rcases leastP (fun q => readyP a (cN a 13 q)) (cS a 1) with hno | ⟨p, p1, p2, p3⟩
      · rw [xBegNo (by omega) hK hB h8 hX hno, Option.bind_some, show (0 : Int32) = nI 0 from rfl, (mFirst h3 hK hA hB h0 hM (fun (x1_21 : Int32) (σ_22 : ST) => (fX11_tick_L24 km m (x1_21 + 1) σ_22)) (cS a 1) 0 m (by omega) (by omega)).1 (fun q _ hq => hno q hq), nI_1]
        exact ih (h + 1) m a σ τ (by omega) (by omega) hH hA hB hD hX hM hk
      · obtain ⟨σ1, x1, x2⟩ := xBeg (n := m) (by omega) h3 hK hB h8 hX h0 p1 p2 p3
        obtain ⟨τ1, y1, y2, y3⟩ := (mFirst h3 hK hA hB h0 hM (fun (x1_21 : Int32) (σ_22 : ST) => (fX11_tick_L24 km m (x1_21 + 1) σ_22)) (cS a 1) 0 m (by omega) (by omega)).2 p (Nat.zero_le _) p1 p2 (fun q _ hq => p3 q hq)
        have ho := hB.2.2.2.2.2.2.2.2.1 p p1
        rw [x1, Option.bind_some, show (0 : Int32) = nI 0 from rfl, y1, nI_1]
        obtain ⟨a', σ', τ', z1, z2, z3, z4, z5, z6, z7, z8, z9, z10, z11, z12⟩ := ih (h + 1) m (aBeg a h (cN a 13 p)) σ1 τ1 (by omega) (by omega) hH hA (beg_wfB (by omega) ho h0 p2 hB) hD x2 y3 (mKeys_fr y2 (by decide) hk)
        exact ⟨a', σ', τ', z1, z2, z3, z4, z5, z6, z7, z8, z9, fun c hc => z10 c hc, fun t ht => z11 t ht, z12⟩
    · rw [if_neg h0, if_neg (nI_ne_m1 (by have := hB.2.2.1 h h3; omega)), show (0 : Int32) = nI 0 from rfl, mBegSkip (by omega) h3 hK (by have := hB.2.2.1 h h3; omega) h0 hM, nI_1]
      exact ih (h + 1) m a σ τ (by omega) (by omega) hH hA hB hD hX hM hk
