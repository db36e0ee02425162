/-! ===== PURE: count ===== -/
def popc (b : Nat) : Nat := sumTo (fun k => if b.testBit k then 1 else 0) 7
def bcE (x0 : Int32) : Int32 :=
  let x1 := x0 - (((x0.toUInt32 >>> ((1 : Int32).toUInt32 &&& Int32.toUInt32 31)).toInt32) &&& (1431655765 : Int32))
  let x2 := (x1 &&& (858993459 : Int32)) + (((x1.toUInt32 >>> ((2 : Int32).toUInt32 &&& Int32.toUInt32 31)).toInt32) &&& (858993459 : Int32))
  let x3 := (x2 + ((x2.toUInt32 >>> ((4 : Int32).toUInt32 &&& Int32.toUInt32 31)).toInt32)) &&& (252645135 : Int32)
  let x4 := x3 + ((x3.toUInt32 >>> ((8 : Int32).toUInt32 &&& Int32.toUInt32 31)).toInt32)
  let x5 := x4 + ((x4.toUInt32 >>> ((16 : Int32).toUInt32 &&& Int32.toUInt32 31)).toInt32)
  x5 &&& (63 : Int32)
theorem bcE_all : ∀ b : Fin 128, bcE (nI b.1) = nI (popc b.1) := by decide +kernel
theorem xBitCount {b : Nat} (hb : b < 128) (σ : ST) : fJ6_bitCount_0f7a4 (nI b) σ = some (nI (popc b), σ) := by
  have h : fJ6_bitCount_0f7a4 (nI b) σ = some (bcE (nI b), σ) := rfl
  rw [h, bcE_all ⟨b, hb⟩]
theorem sumTo_ext {f : Nat → Nat} {n : Nat} : ∀ d, (∀ k, n ≤ k → f k = 0) → sumTo f (n + d) = sumTo f n := by
  intro d
  induction d with
  | zero => intro _; rfl
  | succ d ih =>
    intro h
    rw [← Nat.add_assoc, sumTo, ih h, h _ (by omega), Nat.add_zero]
def msk3 (p q r : Nat) : Nat := (if p = 0 then 0 else 2 ^ (p - 1)) ||| ((if q = 0 then 0 else 2 ^ (q - 1)) ||| (if r = 0 then 0 else 2 ^ (r - 1)))
theorem msk3_all : ∀ p q r : Fin 8, (p.1 ≠ 0 → p ≠ q ∧ p ≠ r) → (q.1 ≠ 0 → q ≠ r) → popc (msk3 p.1 q.1 r.1) = (if p.1 = 0 then 0 else 1) + (if q.1 = 0 then 0 else 1) + (if r.1 = 0 then 0 else 1) := by decide +kernel
theorem bitOf (p k : Nat) : (if p = 0 then 0 else 2 ^ (p - 1)).testBit k = decide (p = k + 1) := by
  by_cases h : p = 0
  · rw [if_pos h, Nat.zero_testBit]; simp; omega
  · rw [if_neg h, Nat.testBit_two_pow]
    rw [Bool.eq_iff_iff, decide_eq_true_iff, decide_eq_true_iff]; omega
theorem msk3_bit (p q r k : Nat) : (msk3 p q r).testBit k = (decide (p = k + 1) || (decide (q = k + 1) || decide (r = k + 1))) := by
  unfold msk3
  rw [Nat.testBit_or, Nat.testBit_or, bitOf, bitOf, bitOf]
theorem way_eq {a : AS} {w : Nat} (hw : w < 128) (hb : ∀ k, k < 7 → (w.testBit k = true ↔ ∃ h, h < 3 ∧ cN a 12 h = k + 1)) (hat : ∀ h, h < 3 → cN a 12 h ≤ 7) : w = msk3 (cN a 12 0) (cN a 12 1) (cN a 12 2) := by
  apply Nat.eq_of_testBit_eq
  intro k
  rw [msk3_bit]
  rcases Nat.lt_or_ge k 7 with hk | hk
  · rw [Bool.eq_iff_iff, hb k hk, three (P := fun h => cN a 12 h = k + 1)]
    simp
  · have h0 := hat 0 (by decide)
    have h1 := hat 1 (by decide)
    have h2 := hat 2 (by decide)
    rw [Nat.testBit_lt_two_pow (Nat.lt_of_lt_of_le hw (show 2 ^ 7 ≤ 2 ^ k from Nat.pow_le_pow_right (by decide) hk))]
    have e0 : decide (cN a 12 0 = k + 1) = false := by simp; omega
    have e1 : decide (cN a 12 1 = k + 1) = false := by simp; omega
    have e2 : decide (cN a 12 2 = k + 1) = false := by simp; omega
    rw [e0, e1, e2]; rfl
theorem mCount4 {a : AS} {τ : ST} (hM : ∀ h, h < 3 → gA τ 33 h = if cN a 12 h = 0 then -1 else nI (cN a 12 h - 1)) (hb : ∀ h, h < 3 → cN a 12 h ≤ 7) :
    fX11_count_L75 FU 0 0 τ = some (nI ((if cN a 12 0 = 0 then 0 else 1) + (if cN a 12 1 = 0 then 0 else 1) + (if cN a 12 2 = 0 then 0 else 1)), τ) := by
  have step : ∀ (n c h : Nat), h < 3 → fX11_count_L75 (n + 1) (nI c) (nI h) τ = fX11_count_L75 n (nI (c + (if cN a 12 h = 0 then 0 else 1))) (nI (h + 1)) τ := by
    intro n c h hh
    rw [fX11_count_L75, show (3 : Int32) = nI 3 from rfl, if_neg (nI_ge hh (by decide)), if_pos (ix_nI hh (by decide)), ldA_nI _ _ _ (by omega), hM h hh]
    simp only [lt_def]
    by_cases e : cN a 12 h = 0
    · rw [if_pos e, if_pos e, if_pos rfl, nI_1, show (0 : Int32) = nI 0 from rfl, nI_add]
    · rw [if_neg e, if_neg e, if_neg (nI_ne_m1 (by have := hb h hh; omega)), nI_1, nI_1]
  have last : ∀ n c, fX11_count_L75 (n + 1) (nI c) (nI 3) τ = some (nI c, τ) := by
    intro n c
    rw [fX11_count_L75, show (3 : Int32) = nI 3 from rfl, if_pos (nI_le (Nat.le_refl 3) (by decide))]
  rw [show (0 : Int32) = nI 0 from rfl, show FU = 999996 + 1 + 1 + 1 + 1 from rfl, step _ _ 0 (by decide), step _ _ 1 (by decide), step _ _ 2 (by decide), last, Nat.zero_add]
theorem mCount5 {a : AS} {τ : ST} {v : Nat} (hv : v < 2) (m1 : gI τ 11 = nI v) (m2 : gA τ 8 v = nI (cS a 1)) (hK : cS a 1 ≤ 7) (hM : ∀ k, k < cS a 1 → gA τ 35 k = if (cS a 6).testBit k then nI (cN a 14 k) else -1) (hd : ∀ k, k < cS a 1 → (cS a 6).testBit k = true → cN a 14 k < 2 ^ 31) :
    ∀ d s n, s + d = cS a 1 → d < n → fX11_count_L108 n (nI (sumTo (fun k => if (cS a 6).testBit k then 1 else 0) s)) (nI s) τ = some (nI (sumTo (fun k => if (cS a 6).testBit k then 1 else 0) (cS a 1)), τ) := by
  intro d
  induction d with
  | zero =>
    intro s n hs hn
    obtain ⟨m, rfl⟩ : ∃ m, n = m + 1 := ⟨n - 1, by omega⟩
    have : s = cS a 1 := by omega
    subst this
    rw [fX11_count_L108, m1, if_pos (ix_nI hv (by decide)), ldA_nI _ _ _ (by omega), m2, if_pos (nI_le (Nat.le_refl _) (by omega))]
  | succ d ih =>
    intro s n hs hn
    obtain ⟨m, rfl⟩ : ∃ m, n = m + 1 := ⟨n - 1, by omega⟩
    rw [fX11_count_L108, m1, if_pos (ix_nI hv (by decide)), ldA_nI _ _ _ (by omega), m2, if_neg (nI_ge (by omega) (by omega)), if_pos (ix_nI (show s < 7 by omega) (by decide)), ldA_nI _ _ _ (by omega), hM s (by omega)]
    simp only [lt_def]
    have hh := ih (s + 1) m (by omega) (by omega)
    rw [sumTo] at hh
    by_cases e : (cS a 6).testBit s = true
    · rw [if_pos e] at hh ⊢
      rw [if_neg (nI_ne_m1 (hd s (by omega) e)), nI_1, nI_1]
      exact hh
    · rw [if_neg e] at hh ⊢
      rw [if_pos rfl, nI_1, show (0 : Int32) = nI 0 from rfl, nI_add]
      exact hh
theorem mCount6 {τ : ST} (f : Nat → Nat) (hM : ∀ i, i < 42 → gA τ 41 i = nI (f i)) : ∀ d s n, s + d = 42 → d < n → fX11_count_L149 n (nI (sumTo f s)) (nI s) τ = some (nI (sumTo f 42), τ) := by
  intro d
  induction d with
  | zero =>
    intro s n hs hn
    obtain ⟨m, rfl⟩ : ∃ m, n = m + 1 := ⟨n - 1, by omega⟩
    have : s = 42 := by omega
    subst this
    rw [fX11_count_L149, show (42 : Int32) = nI 42 from rfl, if_pos (nI_le (Nat.le_refl _) (by omega))]
  | succ d ih =>
    intro s n hs hn
    obtain ⟨m, rfl⟩ : ∃ m, n = m + 1 := ⟨n - 1, by omega⟩
    rw [fX11_count_L149, if_neg (show ¬ (42 : Int32) ≤ nI s from nI_ge (show s < 42 by omega) (by decide)), if_pos (ix_nI (show s < 42 by omega) (by decide)), ldA_nI _ _ _ (by omega), hM s (by omega)]
    simp only [lt_def]
    rw [nI_add, nI_1]
    exact ih (s + 1) m (by omega) (by omega)
theorem sim_count (x : Int32) : SimStep Rel0 (fX10_count x) (fX11_count FU x) := by
  intro t σ τ ht hR
  obtain ⟨a, hA, hB, hC, hD, hX, hM, hk⟩ := id hR
  have hK : cS a 1 ≤ 7 := hB.1.1
  obtain ⟨v, hv, m1, m2, mst, -⟩ := hM.2.2.2.2.2.1
  have x1 : gI σ 10 = nI (cS a 1) := hX.2.2.2.2.2.1.1
  have xr : gI σ 15 = nI (cS a 2) := hX.2.2.2.2.1.1
  have mr : gI τ 17 = nI (cS a 2) := hM.2.2.2.2.1.1
  obtain ⟨xw1, xw2, xw3, ⟨w, hw, xw4, xw5⟩, -⟩ := hX.2.2.2.2.2.2.1
  obtain ⟨mw1, mw2, mw3, mw4, mw5, mw6, -⟩ := hM.2.2.2.2.2.2.1
  have hat : ∀ h, h < 3 → cN a 12 h ≤ 7 := fun h hh => Nat.le_trans (hB.2.2.1 h hh) hK
  have hdb : cS a 6 < 128 := Nat.lt_of_lt_of_le hB.2.1.2.2.2 (pow_le_128 hK)
  have p1 : gI σ 17 = nI (cS a 10) := hX.2.2.2.2.2.2.2.1
  have n2 := hM.2.2.2.2.2.2.2.2.1
  have c6 := mCount6 (τ := τ) (cN a 18) (fun i hi => (n2 i hi).1) 42 0 FU (by decide) (by decide)
  have c5 := mCount5 hv m1 m2 hK mw6 (fun k hk hb => by have := hB.2.2.2.2.2.2.1 k hk hb; have := hB.2.1.1; omega) (cS a 1) 0 FU (by omega) (by show cS a 1 < 1000000; omega)
  have hpw : popc w = (if cN a 12 0 = 0 then 0 else 1) + (if cN a 12 1 = 0 then 0 else 1) + (if cN a 12 2 = 0 then 0 else 1) := by
    rw [way_eq hw xw5 hat]
    have h0 := hat 0 (by decide)
    have h1 := hat 1 (by decide)
    have h2 := hat 2 (by decide)
    have hd := hB.2.2.2.1
    refine msk3_all ⟨cN a 12 0, by omega⟩ ⟨cN a 12 1, by omega⟩ ⟨cN a 12 2, by omega⟩ (fun z => ⟨fun q => ?_, fun q => ?_⟩) (fun z q => ?_)
    · have := hd 0 1 (by decide) (by decide) z (Fin.mk.inj_iff.mp q); omega
    · have := hd 0 2 (by decide) (by decide) z (Fin.mk.inj_iff.mp q); omega
    · have := hd 1 2 (by decide) (by decide) z (Fin.mk.inj_iff.mp q); omega
  have hpd : popc (cS a 6) = sumTo (fun k => if (cS a 6).testBit k then 1 else 0) (cS a 1) := by
    unfold popc
    obtain ⟨d, hd⟩ : ∃ d, 7 = cS a 1 + d := ⟨7 - cS a 1, by omega⟩
    rw [hd]
    refine sumTo_ext d (fun k hk => ?_)
    have := Nat.testBit_lt_two_pow (Nat.lt_of_lt_of_le hB.2.1.2.2.2 (show 2 ^ cS a 1 ≤ 2 ^ k from Nat.pow_le_pow_right (by decide) hk))
    simp [this]
  unfold fX10_count fX11_count
  simp only [lt_def]
  rw [x1, xr, xw1, xw2, xw3, xw4, p1, hX.1.1, m1, if_pos (ix_nI hv (by decide)), ldA_nI _ _ _ (by omega), m2, mr, mw1, mw2, hM.1.1, xBitCount hw, xBitCount hdb, hpw, hpd, hC.2.2.1, mCount4 mw3 hat, show fX11_count_L108 FU 0 0 τ = _ from c5, show fX11_count_L149 FU 0 0 τ = _ from c6]
  simp only [Option.bind_some]
  refine ⟨if x = 0 then nI (cS a 1) else if x = 1 then nI (cS a 2) else if x = 2 then nI (cS a 3) else if x = 3 then nI (cS a 4) else if x = 4 then nI ((if cN a 12 0 = 0 then 0 else 1) + (if cN a 12 1 = 0 then 0 else 1) + (if cN a 12 2 = 0 then 0 else 1)) else if x = 5 then nI (sumTo (fun k => if (cS a 6).testBit k then 1 else 0) (cS a 1)) else if x = 6 then nI (sumTo (cN a 18) 42) else if x = 7 then nI (cS a 0) else -1, σ, τ, ?_, ?_, rel_same hR⟩
  · simp only [some_ite]
  · simp only [some_ite]
