/-! ===== PURE: works of the reference: the loop over the code ===== -/
theorem nI_dec (n : Nat) : nI (n + 1) + (-1) = nI n := by
  rw [← Int32.sub_eq_add_neg, nI_pred]
theorem mOp8 {s p pc k : Nat} {X Y : Nat → Int64} (hk5 : 5 ≤ k) (hk9 : k < 9) (hp : p < 490) (k190 : Int32 → Int32 → Int32 → ST → Option ST) :
    ∀ d g n τ, g + d = 8 → d < n → (∀ q, g ≤ q → q < 8 → gB τ 43 (8 * p + q) = X q ∧ gB τ 43 (8 * (p + 1) + q) = Y q) → ∃ τ', fX11_works_L74 k190 n (nI s) (nI (p + 1)) (nI pc) (nI k) (nI g) τ = k190 (nI s) (nI (p + 1)) (nI pc) τ' ∧ fr [] [] [43] τ τ' ∧ ∀ i, gB τ' 43 i = if 8 * p + g ≤ i ∧ i < 8 * p + 8 then opL k (X (i - 8 * p)) (Y (i - 8 * p)) else gB τ 43 i := by
  intro d
  induction d with
  | zero =>
    intro g n τ hg hn h
    obtain ⟨m, rfl⟩ : ∃ m, n = m + 1 := ⟨n - 1, by omega⟩
    have : g = 8 := by omega
    subst this
    refine ⟨τ, ?_, fr_rf, fun i => ?_⟩
    · rw [fX11_works_L74, show (8 : Int32) = nI 8 from rfl, if_pos (nI_le (Nat.le_refl 8) (by decide))]
    · rw [if_neg (by omega)]
  | succ d ih =>
    intro g n τ hg hn h
    obtain ⟨m, rfl⟩ : ∃ m, n = m + 1 := ⟨n - 1, by omega⟩
    have hg8 : g < 8 := by omega
    have i1 : ix (nI (8 * p + g)) 4000 := ix_nI (by omega) (by decide)
    have i2 : ix (nI (8 * (p + 1) + g)) 4000 := ix_nI (by omega) (by decide)
    obtain ⟨hx, hy⟩ := h g (Nat.le_refl g) hg8
    have key : ∀ z : Int64, z = opL k (X g) (Y g) → ∃ τ', fX11_works_L74 k190 m (nI s) (nI (p + 1)) (nI pc) (nI k) (nI (g + 1)) (sB τ 43 (vp_updL (gB τ 43) (8 * p + g) z)) = k190 (nI s) (nI (p + 1)) (nI pc) τ' ∧ fr [] [] [43] τ τ' ∧ ∀ i, gB τ' 43 i = if 8 * p + g ≤ i ∧ i < 8 * p + 8 then opL k (X (i - 8 * p)) (Y (i - 8 * p)) else gB τ 43 i := by
      intro z hz
      obtain ⟨τ', r1, r2, r3⟩ := ih (g + 1) m (sB τ 43 (vp_updL (gB τ 43) (8 * p + g) z)) (by omega) (by omega) (fun q h1 h2 => by
        have := h q (by omega) h2
        rw [gB_sB, if_pos rfl, updL_at, updL_at, if_neg (by omega), if_neg (by omega)]
        exact this)
      refine ⟨τ', r1, fr_tr (fr_sB fr_rf (by decide)) r2, fun i => ?_⟩
      rw [r3 i, gB_sB, if_pos rfl, updL_at]
      by_cases e : i = 8 * p + g
      · rw [if_neg (by omega), if_pos e, if_pos (by omega), hz, show i - 8 * p = g by omega]
      · rw [if_neg e]
        by_cases c : 8 * p + g ≤ i ∧ i < 8 * p + 8
        · rw [if_pos (by omega), if_pos c]
        · rw [if_neg (by omega), if_neg c]
    rw [fX11_works_L74, if_neg (show ¬ (8 : Int32) ≤ nI g from nI_ge hg8 (by decide))]
    simp only [nI_pred, lt_def, m8, if_pos i1, if_pos i2, ldB_nI _ _ (8 * p + g) (show 8 * p + g < 2 ^ 31 by omega), ldB_nI _ _ (8 * (p + 1) + g) (show 8 * (p + 1) + g < 2 ^ 31 by omega), stB_nI _ _ (8 * p + g) _ (show 8 * p + g < 2 ^ 31 by omega), nI_1, hx, hy]
    rcases (show k = 5 ∨ k = 6 ∨ k = 7 ∨ k = 8 by omega) with rfl | rfl | rfl | rfl
    · rw [if_pos (show nI 5 = (5 : Int32) from rfl)]
      exact key _ rfl
    · rw [if_neg (show ¬ nI 6 = (5 : Int32) by decide), if_pos (show nI 6 = (6 : Int32) from rfl)]
      exact key _ rfl
    · rw [if_neg (show ¬ nI 7 = (5 : Int32) by decide), if_neg (show ¬ nI 7 = (6 : Int32) by decide), if_pos (show nI 7 = (7 : Int32) from rfl)]
      exact key _ rfl
    · rw [if_neg (show ¬ nI 8 = (5 : Int32) by decide), if_neg (show ¬ nI 8 = (6 : Int32) by decide), if_neg (show ¬ nI 8 = (7 : Int32) by decide)]
      have e : opL 8 (X g) (Y g) = if Y g < X g then X g else Y g := rfl
      by_cases l : Y g < X g
      · rw [if_neg (fun q => (lgc_le _ _).mp q l)]
        exact key _ (by rw [e, if_pos l])
      · rw [if_pos ((lgc_le _ _).mpr l)]
        exact key _ (by rw [e, if_neg l])
theorem mPile_op {τ τ' : ST} {p k v : Nat} {ss : Nat → List Int64} {fig : Nat → Nat → Nat → Int64} {val : Nat → Nat → Int64} (hk5 : 5 ≤ k) (hs : mPile τ (p + 2) ss) (h : ∀ i, gB τ' 43 i = if 8 * p + 0 ≤ i ∧ i < 8 * p + 8 then opL k (gB τ 43 (8 * p + (i - 8 * p))) (gB τ 43 (8 * (p + 1) + (i - 8 * p))) else gB τ 43 i) : mPile τ' (p + 1) (fun g => stepL (fig g) (val g) k v (ss g)) := by
  intro g hg
  obtain ⟨h1, h2⟩ := hs g hg
  show (stepL (fig g) (val g) k v (ss g)).length = p + 1 ∧ ∀ j, j < p + 1 → gB τ' 43 (8 * j + g) = (stepL (fig g) (val g) k v (ss g)).getD (p + 1 - 1 - j) 0
  generalize hss : ss g = s at h1 h2
  match s, h1, h2 with
  | [], h1, _ => simp at h1
  | [_], h1, _ => simp at h1
  | y :: x :: r, h1, h2 =>
    simp only [List.length_cons] at h1
    have e : stepL (fig g) (val g) k v (y :: x :: r) = opL k x y :: r := by
      unfold stepL
      rw [if_neg (by omega)]
    rw [e]
    refine ⟨by rw [List.length_cons]; omega, fun j hj => ?_⟩
    rw [h]
    by_cases c : j = p
    · subst c
      have hx := h2 j (by omega)
      have hy := h2 (j + 1) (by omega)
      rw [show j + 2 - 1 - j = 1 by omega] at hx
      rw [show j + 2 - 1 - (j + 1) = 0 by omega] at hy
      rw [if_pos (by omega), show 8 * j + g - 8 * j = g by omega, hx, hy, show j + 1 - 1 - j = 0 by omega]; rfl
    · have hq := h2 j (by omega)
      rw [show p + 2 - 1 - j = (p - 1 - j) + 2 by omega] at hq
      rw [if_neg (by omega), hq, show p + 1 - 1 - j = (p - 1 - j) + 1 by omega]; rfl
def mCodeOk (a : AS) (k v : Nat) (τ : ST) : Prop := gI τ 11 = nI v ∧ gA τ 15 (7 * v + k) = nI (500 * v + cN a 21 k) ∧ (∀ i, i < cS a 9 → gA τ 19 (500 * v + i) = nI (cN a 19 i) ∧ gA τ 20 (500 * v + i) = nI (cN a 20 i)) ∧ mRowsOk a τ ∧ (∀ w, (cN a 4 k).testBit w = true → w < k → ∀ g, g < 8 → gB τ 38 (8 * w + g) = cL a 0 (8 * w + g))
theorem mCodeOk_fr {a : AS} {k v : Nat} {τ τ' : ST} (f : fr [] [] [43] τ τ') (h : mCodeOk a k v τ) : mCodeOk a k v τ' := by
  obtain ⟨h1, h2, h3, h4, h5⟩ := h
  refine ⟨?_, ?_, ?_, ?_, ?_⟩
  · rw [f.1 11 (by decide)]; exact h1
  · rw [f.2.1 15 (by decide)]; exact h2
  · rw [f.2.1 19 (by decide), f.2.1 20 (by decide)]; exact h3
  · unfold mRowsOk at *
    rw [f.2.1 28 (by decide), f.2.1 29 (by decide), f.2.1 30 (by decide)]; exact h4
  · rw [f.2.2 38 (by decide)]; exact h5
theorem mRunL {a : AS} {k v : Nat} (hv : v < 2) (hK : cS a 1 ≤ 7) (hk : k < cS a 1) (hD : wfD a) (h9 : cS a 9 ≤ 400) (k196 : Int32 → ST → Option ST) :
    ∀ d i n τ, i + d = cN a 21 k - cdB a k → d + 300 < n → mCodeOk a k v τ → mPile τ (htA (cN a 19) (cdB a k) i) (fun g => evL (figA a g) (fun w => cL a 0 (8 * w + g)) (cN a 19) (cN a 20) (cdB a k) i) →
      ∃ τ', fX11_works_L17 k196 n (nI k) (nI (htA (cN a 19) (cdB a k) i)) (nI (500 * v + cdB a k + i)) τ = k196 (nI k) τ' ∧ fr [] [] [43] τ τ' ∧ mPile τ' 1 (evA a k) := by
  obtain ⟨d1, d2, d3, d4⟩ := hD k hk
  intro d
  induction d with
  | zero =>
    intro i n τ hi hn hO hs
    obtain ⟨m, rfl⟩ : ∃ m, n = m + 1 := ⟨n - 1, by omega⟩
    have ei : i = cN a 21 k - cdB a k := by omega
    refine ⟨τ, ?_, fr_rf, ?_⟩
    · rw [fX11_works_L17, hO.1, m7, if_pos (ix_nI (show 7 * v + k < 14 by omega) (by decide)), ldA_nI _ _ _ (by omega), hO.2.1, if_pos (nI_le (by omega) (by omega))]
    · rw [ei, d3] at hs
      exact hs
  | succ d ih =>
    intro i n τ hi hn hO hs
    obtain ⟨m, rfl⟩ : ∃ m, n = m + 1 := ⟨n - 1, by omega⟩
    have hb : cdB a k + i < cS a 9 := by omega
    obtain ⟨o1, o2, o3, o4, o5⟩ := id hO
    obtain ⟨c1, c2⟩ := o3 _ hb
    obtain ⟨e1, e2, e3, e4, e5⟩ := d4 i (by omega)
    have hle := htA_le (cN a 19) (cdB a k) i
    have i1000 : ix (nI (500 * v + cdB a k + i)) 1000 := ix_nI (by omega) (by decide)
    rw [← Nat.add_assoc] at c1 c2
    rw [fX11_works_L17, o1, m7, if_pos (ix_nI (show 7 * v + k < 14 by omega) (by decide)), ldA_nI _ _ _ (by omega), o2, if_neg (nI_ge (by omega) (by omega)), if_pos i1000, ldA_nI _ _ _ (by omega), c1]
    simp only [lt_def, if_pos i1000, ldA_nI _ _ (500 * v + cdB a k + i) (show 500 * v + cdB a k + i < 2 ^ 31 by omega), c2]
    have hstep := htA.eq_2 (cN a 19) (cdB a k) i
    by_cases c5 : cN a 19 (cdB a k + i) < 5
    · rw [if_pos c5] at hstep
      rw [if_neg (show ¬ (5 : Int32) ≤ nI (cN a 19 (cdB a k + i)) from nI_ge c5 (by decide))]
      obtain ⟨τ1, r1, r2, r3⟩ := mPut2 (a := a) (n := m) (v := cN a 20 (cdB a k + i)) (by omega) c5 e5 e3 (fun q => by have := (e4 q).1; omega) (by omega) o4 (fun q => o5 _ (e4 q).2 (e4 q).1) hs
      rw [r1, Option.bind_some, nI_1, nI_1]
      obtain ⟨τ', s1, s2, s3⟩ := ih (i + 1) m τ1 (by omega) (by omega) (mCodeOk_fr r2 hO) (by rw [hstep]; exact r3)
      rw [hstep] at s1
      exact ⟨τ', s1, fr_tr r2 s2, s3⟩
    · rw [if_neg c5] at hstep
      have h2 := e2 (by omega)
      rw [if_pos (show (5 : Int32) ≤ nI (cN a 19 (cdB a k + i)) from by rw [show (5 : Int32) = nI 5 from rfl]; exact nI_le (by omega) (by omega))]
      obtain ⟨p, hp⟩ : ∃ p, htA (cN a 19) (cdB a k) i = p + 2 := ⟨htA (cN a 19) (cdB a k) i - 2, by omega⟩
      rw [hp] at hs hstep ⊢
      rw [nI_dec]
      obtain ⟨τ1, r1, r2, r3⟩ := mOp8 (s := k) (p := p) (pc := 500 * v + cdB a k + i) (k := cN a 19 (cdB a k + i)) (X := fun q => gB τ 43 (8 * p + q)) (Y := fun q => gB τ 43 (8 * (p + 1) + q)) (by omega) e1 (by omega) (fun (x1_35 : Int32) (x2_36 : Int32) (x3_37 : Int32) (σ_38 : ST) => (fX11_works_L17 k196 m x1_35 x2_36 (x3_37 + 1) σ_38)) 8 0 m τ (by omega) (by omega) (fun q _ _ => ⟨rfl, rfl⟩)
      rw [show (0 : Int32) = nI 0 from rfl, r1, nI_1]
      have r4 := mPile_op (v := cN a 20 (cdB a k + i)) (fig := figA a) (val := fun g w => cL a 0 (8 * w + g)) (by omega) hs r3
      obtain ⟨τ', s1, s2, s3⟩ := ih (i + 1) m τ1 (by omega) (by omega) (mCodeOk_fr r2 hO) (by rw [hstep]; exact r4)
      rw [hstep] at s1
      exact ⟨τ', s1, fr_tr r2 s2, s3⟩
theorem mWrite {k : Nat} (hk : k < 7) : ∀ d g n τ, g + d = 8 → d < n → ∃ τ', fX11_works_L198 n (nI k) (nI g) τ = some τ' ∧ fr [] [] [38] τ τ' ∧ ∀ i, gB τ' 38 i = if 8 * k + g ≤ i ∧ i < 8 * k + 8 then gB τ 43 (i - 8 * k) else gB τ 38 i := by
  intro d
  induction d with
  | zero =>
    intro g n τ hg hn
    obtain ⟨m, rfl⟩ : ∃ m, n = m + 1 := ⟨n - 1, by omega⟩
    have : g = 8 := by omega
    subst this
    refine ⟨τ, ?_, fr_rf, fun i => ?_⟩
    · rw [fX11_works_L198, show (8 : Int32) = nI 8 from rfl, if_pos (nI_le (Nat.le_refl 8) (by decide))]
    · rw [if_neg (by omega)]
  | succ d ih =>
    intro g n τ hg hn
    obtain ⟨m, rfl⟩ : ∃ m, n = m + 1 := ⟨n - 1, by omega⟩
    have hg8 : g < 8 := by omega
    rw [fX11_works_L198, if_neg (show ¬ (8 : Int32) ≤ nI g from nI_ge hg8 (by decide)), if_pos (ix_nI (show g < 4000 by omega) (by decide)), m8, if_pos (ix_nI (show 8 * k + g < 56 by omega) (by decide)), ldB_nI _ _ _ (by omega), stB_nI _ _ _ _ (by omega), lt_def, lt_def, nI_1]
    obtain ⟨τ', r1, r2, r3⟩ := ih (g + 1) m (sB τ 38 (vp_updL (gB τ 38) (8 * k + g) (gB τ 43 g))) (by omega) (by omega)
    refine ⟨τ', r1, fr_tr (fr_sB fr_rf (by decide)) r2, fun i => ?_⟩
    rw [r3 i, gB_sB τ 38 43, if_neg (show ¬ 43 = 38 by decide), gB_sB, if_pos rfl, updL_at]
    by_cases e : i = 8 * k + g
    · rw [if_neg (by omega), if_pos e, if_pos (by omega), show i - 8 * k = g by omega]
    · rw [if_neg e]
      by_cases c : 8 * k + g ≤ i ∧ i < 8 * k + 8
      · rw [if_pos (by omega), if_pos c]
      · rw [if_neg (by omega), if_neg c]
theorem mWorks {a : AS} {k v n : Nat} {τ : ST} (hn : 1000 ≤ n) (hv : v < 2) (hK : cS a 1 ≤ 7) (hk : k < cS a 1) (hD : wfD a) (h9 : cS a 9 ≤ 400) (hO : mCodeOk a k v τ) (h14 : gA τ 14 (7 * v + k) = nI (500 * v + cdB a k)) : ∃ τ', fX11_works n (nI k) τ = some τ' ∧ fr [] [] [38, 43] τ τ' ∧ ∀ i, gB τ' 38 i = if 8 * k ≤ i ∧ i < 8 * k + 8 then (evA a k (i - 8 * k)).headD 0 else gB τ 38 i := by
  have hd := hD k hk
  unfold fX11_works
  rw [lt_def, hO.1, m7, if_pos (ix_nI (show 7 * v + k < 14 by omega) (by decide)), ldA_nI _ _ _ (by omega), h14, lt_def]
  simp only [lt_def]
  obtain ⟨τ1, r1, r2, r3⟩ := mRunL hv hK hk hD h9 (fun (x1_44 : Int32) (σ_45 : ST) => (fX11_works_L198 n x1_44 0 σ_45)) (cN a 21 k - cdB a k) 0 n τ (by omega) (by omega) hO (fun g hg => ⟨rfl, fun j hj => absurd hj (Nat.not_lt_zero j)⟩)
  rw [Nat.add_zero] at r1
  rw [show (0 : Int32) = nI 0 from rfl]
  have r1' : fX11_works_L17 (fun (x1_44 : Int32) (σ_45 : ST) => (fX11_works_L198 n x1_44 (nI 0) σ_45)) n (nI k) (nI 0) (nI (500 * v + cdB a k)) τ = fX11_works_L198 n (nI k) (nI 0) τ1 := r1
  rw [r1']
  obtain ⟨τ2, s1, s2, s3⟩ := mWrite (show k < 7 by omega) 8 0 n τ1 (by omega) (by omega)
  refine ⟨τ2, s1, fr_tr (fr_up r2 (by decide) (by decide) (by decide)) (fr_up s2 (by decide) (by decide) (by decide)), fun i => ?_⟩
  rw [s3 i, Nat.add_zero, r2.2.2 38 (by decide)]
  by_cases c : 8 * k ≤ i ∧ i < 8 * k + 8
  · rw [if_pos c, if_pos c]
    obtain ⟨q1, q2⟩ := r3 (i - 8 * k) (by omega)
    have q3 := q2 0 (by omega)
    rw [Nat.mul_zero, Nat.zero_add] at q3
    rw [q3]
    obtain ⟨z, hz⟩ : ∃ z, evA a k (i - 8 * k) = [z] := List.length_eq_one_iff.mp q1
    rw [hz]; rfl
  · rw [if_neg c, if_neg c]
