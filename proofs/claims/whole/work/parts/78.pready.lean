/-! ===== PURE: a step is ready ===== -/
theorem andN_zero {x y : Nat} (hx : x < 2 ^ 32) : (andN x y = 0) ↔ ∀ j, x.testBit j = true → y.testBit j = true := by
  constructor
  · intro h j hj
    have hj32 : j < 32 := by
      rcases Nat.lt_or_ge j 32 with z | z
      · exact z
      · rw [Nat.testBit_lt_two_pow (Nat.lt_of_lt_of_le hx (Nat.pow_le_pow_right (by decide) z))] at hj; cases hj
    have e := andN_bit x y j hj32
    rw [h, Nat.zero_testBit, hj] at e
    cases hy : y.testBit j
    · rw [hy] at e; cases e
    · rfl
  · intro h
    apply Nat.eq_of_testBit_eq
    intro j
    rw [Nat.zero_testBit]
    rcases Nat.lt_or_ge j 32 with z | z
    · rw [andN_bit x y j z]
      cases hj : x.testBit j
      · rfl
      · rw [h j hj]; rfl
    · exact Nat.testBit_lt_two_pow (Nat.lt_of_le_of_lt (andN_le x y) (Nat.lt_of_lt_of_le hx (Nat.pow_le_pow_right (by decide) z)))
def readyP (a : AS) (k : Nat) : Prop := (cS a 6).testBit k = false ∧ (¬ ∃ h, h < 3 ∧ cN a 12 h = k + 1) ∧ (∀ x, (cN a 3 k).testBit x = true → (cS a 8).testBit x = true) ∧ (∀ j, (cN a 4 k).testBit j = true → (cS a 6).testBit j = true)
theorem xReady {a : AS} {σ : ST} {k : Nat} (hK : cS a 1 ≤ 7) (hk : k < cS a 1) (h3 : cN a 3 k < 64) (h4 : cN a 4 k < 128) (h6 : cS a 6 < 128) (h8 : cS a 8 < 64) (hX : XR a σ) : (readyP a k → fX9_isReady (nI k) σ = some (1, σ)) ∧ (¬ readyP a k → fX9_isReady (nI k) σ = some (0, σ)) := by
  obtain ⟨xT, xP, xS, xTb, xR, xSc, xW, xPo⟩ := hX
  obtain ⟨w, hw, w1, w2⟩ := xW.2.2.2.1
  have e24 : gA σ 24 k = nI (cN a 3 k) := (xSc.2.2.1 k hk).2.2.2.1
  have e25 : gA σ 25 k = nI (cN a 4 k) := (xSc.2.2.1 k hk).2.2.2.2.1
  have i7 : ix (nI k) 7 := ix_nI (by omega) (by decide)
  have ea : (nI (andN (cN a 3 k) (cS a 8)) = 0) ↔ ∀ x, (cN a 3 k).testBit x = true → (cS a 8).testBit x = true := by
    rw [← andN_zero (x := cN a 3 k) (y := cS a 8) (by omega)]
    exact nI_eq (b := 0) (by have := andN_le (cN a 3 k) (cS a 8); omega) (by decide)
  have eb : (nI (andN (cN a 4 k) (cS a 6)) = 0) ↔ ∀ j, (cN a 4 k).testBit j = true → (cS a 6).testBit j = true := by
    rw [← andN_zero (x := cN a 4 k) (y := cS a 6) (by omega)]
    exact nI_eq (b := 0) (by have := andN_le (cN a 4 k) (cS a 6); omega) (by decide)
  have main : fX9_isReady (nI k) σ = if (cS a 6).testBit k = true then some (0, σ) else if w.testBit k = true then some (0, σ) else if nI (andN (cN a 3 k) (cS a 8)) = 0 then (if nI (andN (cN a 4 k) (cS a 6)) = 0 then some (1, σ) else some (0, σ)) else some (0, σ) := by
    unfold fX9_isReady
    rw [xStep_yes xSc.1 hK hk, Option.bind_some]
    simp only [if_neg one_ne]
    rw [xDone xW.2.2.1 (by omega) (by omega), Option.bind_some]
    simp only [pif]
    rw [xWay w1 (by omega) (by omega), Option.bind_some]
    simp only [pif]
    rw [if_pos i7, if_pos i7, ldA_nI _ _ _ (by omega), ldA_nI _ _ _ (by omega), e24, e25, xTb.1, xW.2.2.1, nI_andN, nI_andN]
  rw [main]
  constructor
  · rintro ⟨r1, r2, r3, r4⟩
    rw [if_neg (by rw [r1]; decide), if_neg (fun q => r2 ((w2 k (by omega)).mp q)), if_pos (ea.mpr r3), if_pos (eb.mpr r4)]
  · intro hn
    by_cases c1 : (cS a 6).testBit k = true
    · rw [if_pos c1]
    · rw [if_neg c1]
      by_cases c2 : w.testBit k = true
      · rw [if_pos c2]
      · rw [if_neg c2]
        by_cases c3 : nI (andN (cN a 3 k) (cS a 8)) = 0
        · rw [if_pos c3]
          by_cases c4 : nI (andN (cN a 4 k) (cS a 6)) = 0
          · exact absurd ⟨by simpa using c1, fun q => c2 ((w2 k (by omega)).mpr q), ea.mp c3, eb.mp c4⟩ hn
          · rw [if_neg c4]
        · rw [if_neg c3]
/-- a loop over bits of a number: all of those that are set keep P, or one does not -/
theorem mReadyT {a : AS} {τ : ST} {k v : Nat} (hv : v < 2) (hk : k < 7) (h11 : gI τ 11 = nI v) (e16 : gA τ 16 (7 * v + k) = nI (cN a 3 k)) (h3 : cN a 3 k < 64) (e24 : ∀ x, x < 6 → gA τ 24 x = nI (cN a 6 x)) (h6 : ∀ x, x < 6 → cN a 6 x < 2 ^ 31) (k67 : Int32 → ST → Option (Int32 × ST)) : ∀ d x n, x + d = 6 → d < n →
    ((∀ q, x ≤ q → q < 6 → (cN a 3 k).testBit q = true → 0 < cN a 6 q) → fX11_isReady_L22 k67 n (nI k) (nI x) τ = k67 (nI k) τ) ∧ ((∃ q, x ≤ q ∧ q < 6 ∧ (cN a 3 k).testBit q = true ∧ cN a 6 q = 0) → fX11_isReady_L22 k67 n (nI k) (nI x) τ = some (0, τ)) := by
  intro d
  induction d with
  | zero =>
    intro x n hx hn
    obtain ⟨m, rfl⟩ : ∃ m, n = m + 1 := ⟨n - 1, by omega⟩
    have : x = 6 := by omega
    subst this
    refine ⟨fun _ => ?_, fun ⟨q, h1, h2, _⟩ => by omega⟩
    rw [fX11_isReady_L22, show (6 : Int32) = nI 6 from rfl, if_pos (nI_le (Nat.le_refl 6) (by decide))]
  | succ d ih =>
    intro x n hx hn
    obtain ⟨m, rfl⟩ : ∃ m, n = m + 1 := ⟨n - 1, by omega⟩
    have hx6 : x < 6 := by omega
    obtain ⟨i1, i2⟩ := ih (x + 1) m (by omega) (by omega)
    have e0 : (nI (cN a 6 x) = 0) ↔ cN a 6 x = 0 := nI_eq (b := 0) (h6 x hx6) (by decide)
    rw [fX11_isReady_L22, if_neg (show ¬ (6 : Int32) ≤ nI x from nI_ge hx6 (by decide)), h11, m7, if_pos (ix_nI (show 7 * v + k < 14 by omega) (by decide)), ldA_nI _ _ _ (by omega), e16]
    simp only [lt_def, nI_1]
    by_cases c : (cN a 3 k).testBit x = true
    · rw [if_pos ((bit_one (by omega) (by omega)).mpr c), if_pos (ix_nI hx6 (by decide)), ldA_nI _ _ _ (by omega), e24 x hx6]
      by_cases z : cN a 6 x = 0
      · rw [if_pos (e0.mpr z)]
        exact ⟨fun h => by have := h x (Nat.le_refl x) hx6 c; omega, fun _ => rfl⟩
      · rw [if_neg (fun q => z (e0.mp q))]
        refine ⟨fun h => i1 (fun q h1 => h q (by omega)), fun ⟨q, h1, h2, h3, h4⟩ => i2 ⟨q, ?_, h2, h3, h4⟩⟩
        rcases Nat.lt_or_ge x q with y | y
        · exact y
        · have : q = x := by omega
          subst this; exact absurd h4 z
    · rw [if_neg (fun q => c ((bit_one (by omega) (by omega)).mp q))]
      refine ⟨fun h => i1 (fun q h1 => h q (by omega)), fun ⟨q, h1, h2, h3, h4⟩ => i2 ⟨q, ?_, h2, h3, h4⟩⟩
      rcases Nat.lt_or_ge x q with y | y
      · exact y
      · have : q = x := by omega
        subst this; exact absurd h3 c
theorem mReadyP {a : AS} {τ : ST} {k v : Nat} (hv : v < 2) (hk : k < 7) (h11 : gI τ 11 = nI v) (e17 : gA τ 17 (7 * v + k) = nI (cN a 4 k)) (h4 : cN a 4 k < 128) (e35 : ∀ j, j < k → gA τ 35 j = if (cS a 6).testBit j then nI (cN a 14 j) else -1) (h14 : ∀ j, j < k → (cS a 6).testBit j = true → cN a 14 j < 2 ^ 31) : ∀ d x n, x + d = k → d < n →
    ((∀ q, x ≤ q → q < k → (cN a 4 k).testBit q = true → (cS a 6).testBit q = true) → fX11_isReady_L69 n (nI k) (nI x) τ = some (1, τ)) ∧ ((∃ q, x ≤ q ∧ q < k ∧ (cN a 4 k).testBit q = true ∧ (cS a 6).testBit q = false) → fX11_isReady_L69 n (nI k) (nI x) τ = some (0, τ)) := by
  intro d
  induction d with
  | zero =>
    intro x n hx hn
    obtain ⟨m, rfl⟩ : ∃ m, n = m + 1 := ⟨n - 1, by omega⟩
    have : x = k := by omega
    subst this
    refine ⟨fun _ => ?_, fun ⟨q, h1, h2, _⟩ => by omega⟩
    rw [fX11_isReady_L69, if_pos (nI_le (Nat.le_refl x) (by omega))]
  | succ d ih =>
    intro x n hx hn
    obtain ⟨m, rfl⟩ : ∃ m, n = m + 1 := ⟨n - 1, by omega⟩
    have hxk : x < k := by omega
    obtain ⟨i1, i2⟩ := ih (x + 1) m (by omega) (by omega)
    rw [fX11_isReady_L69, if_neg (nI_ge hxk (by omega)), h11, m7, if_pos (ix_nI (show 7 * v + k < 14 by omega) (by decide)), ldA_nI _ _ _ (by omega), e17]
    simp only [lt_def, nI_1]
    by_cases c : (cN a 4 k).testBit x = true
    · rw [if_pos ((bit_one (by omega) (by omega)).mpr c), if_pos (ix_nI (show x < 7 by omega) (by decide)), ldA_nI _ _ _ (by omega), e35 x hxk]
      by_cases z : (cS a 6).testBit x = true
      · rw [if_pos z, if_neg (nI_ne_m1 (h14 x hxk z))]
        refine ⟨fun h => i1 (fun q h1 => h q (by omega)), fun ⟨q, h1, h2, h3, h4⟩ => i2 ⟨q, ?_, h2, h3, h4⟩⟩
        rcases Nat.lt_or_ge x q with y | y
        · exact y
        · have : q = x := by omega
          subst this; rw [z] at h4; cases h4
      · rw [if_neg z, if_pos rfl]
        exact ⟨fun h => absurd (h x (Nat.le_refl x) hxk c) z, fun _ => rfl⟩
    · rw [if_neg (fun q => c ((bit_one (by omega) (by omega)).mp q))]
      refine ⟨fun h => i1 (fun q h1 => h q (by omega)), fun ⟨q, h1, h2, h3, h4⟩ => i2 ⟨q, ?_, h2, h3, h4⟩⟩
      rcases Nat.lt_or_ge x q with y | y
      · exact y
      · have : q = x := by omega
        subst this; exact absurd h3 c
theorem mAtHostN {at_ : Nat → Nat} {k : Nat} {τ : ST} (hM : ∀ h, h < 3 → gA τ 33 h = if at_ h = 0 then -1 else nI (at_ h - 1)) (hb : ∀ h, h < 3 → at_ h ≤ 7) (hk : k < 7) : ∀ d h n, h + d = 3 → d < n →
    ((∃ q, h ≤ q ∧ q < 3 ∧ at_ q = k + 1) → fX11_isAtHost_L2 n (nI k) (nI h) τ = some (1, τ)) ∧ ((¬ ∃ q, h ≤ q ∧ q < 3 ∧ at_ q = k + 1) → fX11_isAtHost_L2 n (nI k) (nI h) τ = some (0, τ)) := by
  intro d
  induction d with
  | zero =>
    intro h n hh hn
    obtain ⟨m, rfl⟩ : ∃ m, n = m + 1 := ⟨n - 1, by omega⟩
    have : h = 3 := by omega
    subst this
    refine ⟨fun ⟨q, h1, h2, _⟩ => by omega, fun _ => ?_⟩
    rw [fX11_isAtHost_L2, show (3 : Int32) = nI 3 from rfl, if_pos (nI_le (Nat.le_refl 3) (by decide))]
  | succ d ih =>
    intro h n hh hn
    obtain ⟨m, rfl⟩ : ∃ m, n = m + 1 := ⟨n - 1, by omega⟩
    have h3 : h < 3 := by omega
    obtain ⟨i1, i2⟩ := ih (h + 1) m (by omega) (by omega)
    have hc : (gA τ 33 h = nI k) ↔ at_ h = k + 1 := by
      have hbb := hb h h3
      rw [hM h h3]
      split
      · rename_i e
        constructor
        · intro q; exact absurd q.symm (nI_ne_m1 (by omega))
        · intro q; omega
      · rename_i e
        rw [nI_eq (by omega) (by omega)]; omega
    rw [fX11_isAtHost_L2, if_neg (show ¬ (3 : Int32) ≤ nI h from nI_ge h3 (by decide)), if_pos (ix_nI h3 (by decide)), ldA_nI _ _ _ (by omega), lt_def, nI_1]
    by_cases e : at_ h = k + 1
    · rw [if_pos (hc.mpr e)]
      exact ⟨fun _ => rfl, fun z => absurd ⟨h, Nat.le_refl h, h3, e⟩ z⟩
    · rw [if_neg (fun q => e (hc.mp q))]
      refine ⟨fun ⟨q, h1, h2, h4⟩ => i1 ⟨q, ?_, h2, h4⟩, fun z => i2 (fun ⟨q, h1, h2, h4⟩ => z ⟨q, by omega, h2, h4⟩)⟩
      rcases Nat.lt_or_ge h q with y | y
      · exact y
      · have : q = h := by omega
        subst this; exact absurd h4 e
theorem mReady {a : AS} {τ : ST} {n k v : Nat} (hn : 100 ≤ n) (hv : v < 2) (hk : k < cS a 1) (hK : cS a 1 ≤ 7) (h11 : gI τ 11 = nI v) (e16 : gA τ 16 (7 * v + k) = nI (cN a 3 k)) (e17 : gA τ 17 (7 * v + k) = nI (cN a 4 k)) (h3 : cN a 3 k < 64) (h4 : cN a 4 k < 2 ^ k) (e24 : ∀ x, x < 6 → gA τ 24 x = nI (cN a 6 x)) (h6 : ∀ x, x < 6 → cN a 6 x < 2 ^ 31 ∧ ((cS a 8).testBit x = true ↔ 0 < cN a 6 x))
    (e35 : ∀ j, j < cS a 1 → gA τ 35 j = if (cS a 6).testBit j then nI (cN a 14 j) else -1) (h14 : ∀ j, j < cS a 1 → (cS a 6).testBit j = true → cN a 14 j < 2 ^ 31) (e33 : ∀ h, h < 3 → gA τ 33 h = if cN a 12 h = 0 then -1 else nI (cN a 12 h - 1)) (h12 : ∀ h, h < 3 → cN a 12 h ≤ 7) :
    (readyP a k → fX11_isReady n (nI k) τ = some (1, τ)) ∧ (¬ readyP a k → fX11_isReady n (nI k) τ = some (0, τ)) := by
  have hk7 : k < 7 := by omega
  have h4' : cN a 4 k < 128 := Nat.lt_of_lt_of_le h4 (pow_le_128 (by omega))
  obtain ⟨a1, a2⟩ := mAtHostN (at_ := cN a 12) (τ := τ) e33 h12 hk7 3 0 n (by omega) (by omega)
  have bitK : ∀ q, (cN a 4 k).testBit q = true → q < k := fun q hq => by
    rcases Nat.lt_or_ge q k with z | z
    · exact z
    · rw [Nat.testBit_lt_two_pow (Nat.lt_of_lt_of_le h4 (Nat.pow_le_pow_right (by decide) z))] at hq; cases hq
  have bit6 : ∀ q, (cN a 3 k).testBit q = true → q < 6 := fun q hq => by
    rcases Nat.lt_or_ge q 6 with z | z
    · exact z
    · rw [Nat.testBit_lt_two_pow (Nat.lt_of_lt_of_le (show cN a 3 k < 2 ^ 6 from h3) (Nat.pow_le_pow_right (by decide) z))] at hq; cases hq
  obtain ⟨t1, t2⟩ := mReadyT (a := a) hv hk7 h11 e16 h3 e24 (fun x hx => (h6 x hx).1) (fun (x1_13 : Int32) (σ_14 : ST) => (fX11_isReady_L69 n x1_13 0 σ_14)) 6 0 n (by omega) (by omega)
  obtain ⟨p1, p2⟩ := mReadyP (a := a) hv hk7 h11 e17 h4' (fun j hj => e35 j (by omega)) (fun j hj => h14 j (by omega)) k 0 n (by omega) (by omega)
  have hat : fX11_isAtHost n (nI k) τ = fX11_isAtHost_L2 n (nI k) (nI 0) τ := rfl
  have ix7 : ix (nI k) 7 := ix_nI hk7 (by decide)
  unfold fX11_isReady
  rw [if_pos ix7, ldA_nI _ _ _ (by omega), e35 k hk]
  simp only [lt_def, hat]
  rw [show (0 : Int32) = nI 0 from rfl] at t1 t2 ⊢
  constructor
  · rintro ⟨r1, r2, r3, r4⟩
    have r1' : ¬ (cS a 6).testBit k = true := by rw [r1]; decide
    rw [if_neg r1', if_pos rfl, a2 (fun ⟨h, q1, q2, q3⟩ => r2 ⟨h, q2, q3⟩), Option.bind_some]
    simp only [show (0 : Int32) = nI 0 from rfl, if_true]
    rw [t1 (fun q _ hq hb => (h6 q hq).2.mp (r3 q hb))]
    exact p1 (fun q _ _ hb => r4 q hb)
  · intro hnr
    by_cases c1 : (cS a 6).testBit k = true
    · rw [if_pos c1, if_neg (nI_ne_m1 (h14 k hk c1))]
    · rw [if_neg c1, if_pos rfl]
      by_cases c2 : ∃ h, 0 ≤ h ∧ h < 3 ∧ cN a 12 h = k + 1
      · rw [a1 c2, Option.bind_some]
        simp only [show ¬ (1 : Int32) = nI 0 by decide, if_false]
      · rw [a2 c2, Option.bind_some]
        simp only [show (0 : Int32) = nI 0 from rfl, if_true]
        by_cases c3 : ∀ x, (cN a 3 k).testBit x = true → (cS a 8).testBit x = true
        · rw [t1 (fun q _ hq hb => (h6 q hq).2.mp (c3 q hb))]
          apply p2
          by_cases c4 : ∀ j, (cN a 4 k).testBit j = true → (cS a 6).testBit j = true
          · exact absurd ⟨by simpa using c1, fun ⟨h, q1, q2⟩ => c2 ⟨h, Nat.zero_le _, q1, q2⟩, c3, c4⟩ hnr
          · rw [Classical.not_forall] at c4
            obtain ⟨j, hj⟩ := c4
            rw [Classical.not_imp] at hj
            exact ⟨j, Nat.zero_le _, bitK j hj.1, hj.1, by simpa using hj.2⟩
        · apply t2
          rw [Classical.not_forall] at c3
          obtain ⟨x, hx⟩ := c3
          rw [Classical.not_imp] at hx
          have hx6 := bit6 x hx.1
          exact ⟨x, Nat.zero_le _, hx6, hx.1, by
            rcases Nat.eq_zero_or_pos (cN a 6 x) with z | z
            · exact z
            · exact absurd ((h6 x hx6).2.mpr z) hx.2⟩
