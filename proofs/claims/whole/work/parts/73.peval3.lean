/-! ===== PURE: settle ===== -/
def figA (a : AS) (g k v : Nat) : Int64 := if k = 1 then fgS (cN a 23) (cI a 3) (40 * v) g (cN a 8 v) else if k = 2 then lN (fgC (cN a 23) (40 * v) g (cN a 8 v)) else fgM (cN a 23) (cI a 3) (40 * v) g (cN a 8 v)
def evA (a : AS) (k g : Nat) : List Int64 := evL (figA a g) (fun v => cL a 0 (8 * v + g)) (cN a 19) (cN a 20) (cdB a k) (cN a 21 k - cdB a k)
theorem htA_le (ck : Nat → Nat) (b : Nat) : ∀ n, htA ck b n ≤ n := by
  intro n
  induction n with
  | zero => exact Nat.le_refl 0
  | succ n ih => rw [htA]; split <;> omega
theorem xRun {a : AS} {k g : Nat} (hg : g < 8) (hK : cS a 1 ≤ 7) (hk : k < cS a 1) (hD : wfD a) (h9 : cS a 9 ≤ 400) (k88 : Int32 → Int32 → Int32 → ST → Option ST) :
    ∀ d i n σ, i + d = cN a 21 k - cdB a k → d < n → gI σ 10 = nI (cS a 1) → (∀ j, j < cS a 9 → gA σ 28 j = xopOf (cN a 19 j) ∧ gA σ 29 j = nI (cN a 20 j)) → (∀ q v, 1 ≤ q → q ≤ 3 → v < 6 → gB σ (36 + q) (8 * v + g) = figA a g q v) → (∀ v, (cN a 4 k).testBit v = true → v < k → gB σ 45 (8 * v + g) = cL a 0 (8 * v + g)) →
      xStk σ (evL (figA a g) (fun v => cL a 0 (8 * v + g)) (cN a 19) (cN a 20) (cdB a k) i) → ∃ σ', fX8_settle_L51 k88 n (nI k) (nI (cN a 21 k)) (nI g) (nI (cdB a k + i)) σ = k88 (nI k) (nI (cN a 21 k)) (nI g) σ' ∧ fr [14] [] [46] σ σ' ∧ xStk σ' (evA a k g) := by
  obtain ⟨d1, d2, d3, d4⟩ := hD k hk
  intro d
  induction d with
  | zero =>
    intro i n σ hi hn h10 hcd hfg hvl hs
    obtain ⟨m, rfl⟩ : ∃ m, n = m + 1 := ⟨n - 1, by omega⟩
    refine ⟨σ, ?_, fr_rf, ?_⟩
    · rw [fX8_settle_L51, if_pos (nI_le (by omega) (by omega))]
    · unfold evA; rw [← show i = cN a 21 k - cdB a k by omega]; exact hs
  | succ d ih =>
    intro i n σ hi hn h10 hcd hfg hvl hs
    obtain ⟨m, rfl⟩ : ∃ m, n = m + 1 := ⟨n - 1, by omega⟩
    have hb : cdB a k + i < cS a 9 := by omega
    have i400 : ix (nI (cdB a k + i)) 400 := ix_nI (by omega) (by decide)
    obtain ⟨e1, e2, e3, e4, e5⟩ := d4 i (by omega)
    have hlen := evL_len (fig := figA a g) (val := fun v => cL a 0 (8 * v + g)) (ck := cN a 19) (co := cN a 20) (b := cdB a k) (L := cN a 21 k - cdB a k) (fun j hj => (d4 j hj).2.1) i (by omega)
    have hle := htA_le (cN a 19) (cdB a k) i
    rw [fX8_settle_L51, if_neg (nI_ge (by omega) (by omega)), if_pos i400, if_pos i400, ldA_nI _ _ _ (by omega), ldA_nI _ _ _ (by omega), (hcd _ hb).1, (hcd _ hb).2]
    obtain ⟨σ1, r1, r2, r3⟩ := xPerform (σ := σ) (k := cN a 19 (cdB a k + i)) (v := cN a 20 (cdB a k + i)) (g := g) (figA a g) (fun v => cL a 0 (8 * v + g)) h10 hK hg e1 e5 hs (by omega) (fun q1 q3 => ⟨e3 q1 q3, hfg _ _ q1 q3 (e3 q1 q3)⟩) (fun q => ⟨by have := (e4 q).1; omega, hvl _ (e4 q).2 (e4 q).1⟩) (fun q => by rw [hlen]; exact e2 q)
    rw [r1, Option.bind_some, lt_def, nI_1]
    obtain ⟨σ', s1, s2, s3⟩ := ih (i + 1) m σ1 (by omega) (by omega) (by rw [r2.1 10 (by decide)]; exact h10) (fun j hj => by rw [r2.2.1 28 (by decide), r2.2.1 29 (by decide)]; exact hcd j hj) (fun q v q1 q3 hv => by
      rw [r2.2.2 (36 + q) (by simp; omega)]; exact hfg q v q1 q3 hv) (fun v z1 z2 => by rw [r2.2.2 45 (by decide)]; exact hvl v z1 z2) (by rw [evL]; exact r3)
    exact ⟨σ', s1, fr_tr r2 s2, s3⟩
theorem xBegin {a : AS} {k : Nat} {σ : ST} (hK : cS a 1 ≤ 7) (hk : k < cS a 1) (h27 : ∀ j, j < cS a 1 → gA σ 27 j = nI (cN a 21 j)) : fX4_codeBegin (nI k) σ = some (nI (cdB a k), σ) := by
  unfold fX4_codeBegin cdB
  by_cases e : k = 0
  · subst e; rfl
  · rw [if_neg (nI_nle (by omega) (by omega)), show (7 : Int32) = nI 7 from rfl, if_neg (nI_ge (by omega) (by decide)), show (1 : Int32) = nI 1 from rfl, pk_sub (by omega), if_pos (ix_nI (show k - 1 < 7 by omega) (by decide)), ldA_nI _ _ _ (by omega), h27 _ (by omega), if_neg e]
theorem xSettleL {a : AS} {k : Nat} (hK : cS a 1 ≤ 7) (hk : k < cS a 1) (hD : wfD a) (h9 : cS a 9 ≤ 400) : ∀ d g n σ, g + d = 8 → d + 500 < n → gI σ 10 = nI (cS a 1) → (∀ j, j < cS a 9 → gA σ 28 j = xopOf (cN a 19 j) ∧ gA σ 29 j = nI (cN a 20 j)) → (∀ j, j < cS a 1 → gA σ 27 j = nI (cN a 21 j)) → (∀ g q v, g < 8 → 1 ≤ q → q ≤ 3 → v < 6 → gB σ (36 + q) (8 * v + g) = figA a g q v) → (∀ g v, g < 8 → (cN a 4 k).testBit v = true → v < k → gB σ 45 (8 * v + g) = cL a 0 (8 * v + g)) →
    ∃ σ', fX8_settle_L30 n (nI k) (nI (cN a 21 k)) (nI g) σ = some σ' ∧ fr [14] [] [45, 46] σ σ' ∧ ∀ i, gB σ' 45 i = if 8 * k + g ≤ i ∧ i < 8 * k + 8 then (evA a k (i - 8 * k)).headD 0 else gB σ 45 i := by
  obtain ⟨d1, d2, d3, d4⟩ := hD k hk
  intro d
  induction d with
  | zero =>
    intro g n σ hg hn h10 hcd h27 hfg hvl
    obtain ⟨m, rfl⟩ : ∃ m, n = m + 1 := ⟨n - 1, by omega⟩
    have : g = 8 := by omega
    subst this
    refine ⟨σ, ?_, fr_rf, fun i => ?_⟩
    · rw [fX8_settle_L30, show (8 : Int32) = nI 8 from rfl, if_pos (nI_le (Nat.le_refl 8) (by decide))]
    · rw [if_neg (by omega)]
  | succ d ih =>
    intro g n σ hg hn h10 hcd h27 hfg hvl
    obtain ⟨m, rfl⟩ : ∃ m, n = m + 1 := ⟨n - 1, by omega⟩
    have hg8 : g < 8 := by omega
    rw [fX8_settle_L30, if_neg (show ¬ (8 : Int32) ≤ nI g from nI_ge hg8 (by decide))]
    simp only [lt_def]
    rw [xBegin (σ := sI σ 14 0) hK hk h27]
    simp only [Option.bind_some]
    obtain ⟨σ1, r1, r2, r3⟩ := xRun (g := g) hg8 hK hk hD h9 (fun (x1_15 : Int32) (x2_16 : Int32) (x3_17 : Int32) (σ_18 : ST) => (Option.bind (fX8_pop σ_18) (fun q_19 => (if ix ((x1_15 * ((8 : Int32))) + x3_17) 56 then (fX8_settle_L30 m x1_15 x2_16 (x3_17 + 1) (stB q_19.2 45 ((x1_15 * ((8 : Int32))) + x3_17) q_19.1)) else none)))) (cN a 21 k - cdB a k) 0 m (sI σ 14 0) (by omega) (by omega) h10 hcd (fun q v => hfg g q v hg8) (fun v => hvl g v hg8) ⟨rfl, fun j hj => absurd hj (Nat.not_lt_zero j)⟩
    rw [Nat.add_zero] at r1
    rw [r1]
    have hl1 : (evA a k g).length = 1 := by
      unfold evA
      rw [evL_len (L := cN a 21 k - cdB a k) (fun j hj => (d4 j hj).2.1) _ (Nat.le_refl _)]; exact d3
    obtain ⟨v, hv⟩ : ∃ v, evA a k g = [v] := List.length_eq_one_iff.mp hl1
    rw [hv] at r3
    obtain ⟨σ2, s1, s2, s3⟩ := xPop v r3 (by decide)
    have hi : 8 * k + g < 56 := by omega
    rw [s1, Option.bind_some, r8, if_pos (ix_nI hi (by decide)), stB_nI _ _ _ _ (by omega), nI_1]
    have f1 : fr [14] [] [46] σ σ2 := fr_tr (fr_tr (fr_sI fr_rf (by decide)) r2) s2
    have f2 : fr [14] [] [45, 46] σ (sB σ2 45 (vp_updL (gB σ2 45) (8 * k + g) v)) := fr_sB (fr_up f1 (by decide) (by decide) (by decide)) (by decide)
    have e45 : gB σ2 45 = gB σ 45 := f1.2.2 45 (by decide)
    obtain ⟨σ', t1, t2, t3⟩ := ih (g + 1) m (sB σ2 45 (vp_updL (gB σ2 45) (8 * k + g) v)) (by omega) (by omega) (by rw [f2.1 10 (by decide)]; exact h10) (fun j hj => by rw [f2.2.1 28 (by decide), f2.2.1 29 (by decide)]; exact hcd j hj) (fun j hj => by rw [f2.2.1 27 (by decide)]; exact h27 j hj) (fun g' q v' hg' q1 q3 hv' => by rw [f2.2.2 (36 + q) (by simp; omega)]; exact hfg g' q v' hg' q1 q3 hv') (fun g' v' hg' z1 z2 => by
      rw [gB_sB, if_pos rfl, updL_at, if_neg (by omega), e45]; exact hvl g' v' hg' z1 z2)
    refine ⟨σ', t1, fr_tr f2 t2, fun i => ?_⟩
    rw [t3 i, gB_sB, if_pos rfl, updL_at, e45]
    by_cases e : i = 8 * k + g
    · rw [if_neg (by omega), if_pos e, if_pos (by omega), show i - 8 * k = g by omega, hv]; rfl
    · rw [if_neg e]
      by_cases c : 8 * k + g ≤ i ∧ i < 8 * k + 8
      · rw [if_pos (by omega), if_pos c]
      · rw [if_neg (by omega), if_neg c]
