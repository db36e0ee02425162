/-! ===== PURE: offer and sends, on the abstract state ===== -/
def goesB (a : AS) (k r : Nat) : Bool := decide (cN a 18 (6 * k + r) = 0) || dfr (seenOf (cN a 11 r) (cL a 0) k) (cL a 1) (8 * (6 * k + r)) 0 8
def goesN (a : AS) (k r : Nat) : Nat := if goesB a k r = true then 1 else 0
def aOffer (a : AS) (k r : Nat) : AS := tL (tN (tS a 10 (cS a 10 + goesN a k r)) 18 (uN (cN a 18) (6 * k + r) (cN a 18 (6 * k + r) + goesN a k r))) 1 (fun i => if 8 * (6 * k + r) ≤ i ∧ i < 8 * (6 * k + r) + 8 then seenOf (cN a 11 r) (cL a 0) k (i - 8 * (6 * k + r)) else cL a 1 i)
theorem dfr_none {seen last : Nat → Int64} {o : Nat} : ∀ d g, dfr seen last o g d = false → ∀ q, g ≤ q → q < g + d → seen q = last (o + q) := by
  intro d
  induction d with
  | zero => intro g _ q h1 h2; omega
  | succ d ih =>
    intro g h q h1 h2
    rw [dfr, Bool.or_eq_false_iff] at h
    by_cases e : q = g
    · subst e
      have := h.1
      simpa using this
    · exact ih (g + 1) h.2 q (by omega) (by omega)
theorem bif1 (b : Bool) : (if decide (b = true) = true then (1 : Int32) else 0) = if b = true then 1 else 0 := by cases b <;> rfl
theorem xOffer {n : Nat} (hfu : 100 ≤ n) {a : AS} {σ : ST} {k r : Nat} (hk : k < 7) (hkK : k < cS a 1) (hr : r < cS a 2) (hn6 : cS a 2 ≤ 6) (hrt : cN a 11 r < 256) (hm : cN a 18 (6 * k + r) < 2 ^ 30) (hd : (cS a 6).testBit k = true) (hX : XR a σ) : ∃ σ', fX3_offer n (nI k) (nI r) σ = some σ' ∧ fr [17] [50] [51] σ σ' ∧ XR (aOffer a k r) σ' := by
  obtain ⟨xT, xP, xS, xTb, xR, xSc, xW, ⟨p1, p2, p3, p4⟩⟩ := hX
  have hr6 : r < 6 := by omega
  have hc : 6 * k + r < 42 := by omega
  have i42 : ix (nI (6 * k + r)) 42 := ix_nI hc (by decide)
  have h48 : gA σ 48 r = nI (cN a 11 r) := xR.2.2 r hr
  have h45 : ∀ q, q < 8 → gB σ 45 (8 * k + q) = cL a 0 (8 * k + q) := fun q hq => xW.2.2.2.2.2.2.2.2.1 k hkK hd q hq
  unfold fX3_offer
  rw [xBelow_yes (y := 7) (n := 7) rfl hk (by decide)]
  simp only [Option.bind_some, if_neg one_ne]
  rw [xBelow_yes (y := 6) (n := 6) rfl hr6 (by decide)]
  unfold fX3_cell
  simp only [Option.bind_some, if_neg one_ne, r6, lt_def, if_pos i42, ldA_nI _ _ (6 * k + r) (show 6 * k + r < 2 ^ 31 by omega), p3 _ hc]
  have e0 : (nI (cN a 18 (6 * k + r)) = 0) ↔ cN a 18 (6 * k + r) = 0 := nI_eq (b := 0) (by omega) (by decide)
  have common : ∀ y : Int32, y = (if decide (cN a 18 (6 * k + r) = 0) = true then 1 else 0) → ∃ σ', fX3_offer_L44 (fun (x3_62 : Int32) (x4_63 : Int32) (σ_64 : ST) => (if x4_63 = 0 then (some σ_64) else (if ix x3_62 42 then (if ix x3_62 42 then (some (sI (stA σ_64 50 x3_62 ((ldA σ_64 50 x3_62) + ((1 : Int32)))) 17 ((gI (stA σ_64 50 x3_62 ((ldA σ_64 50 x3_62) + ((1 : Int32)))) 17) + ((1 : Int32))))) else none) else none))) n (nI k) (nI r) (nI (6 * k + r)) y 0 σ = some σ' ∧ fr [17] [50] [51] σ σ' ∧ XR (aOffer a k r) σ' := by
    intro y hy
    obtain ⟨σ1, r1, r2, r3⟩ := xOfferL (val := cL a 0) hk hr6 hrt (fun (x3_62 : Int32) (x4_63 : Int32) (σ_64 : ST) => (if x4_63 = 0 then (some σ_64) else (if ix x3_62 42 then (if ix x3_62 42 then (some (sI (stA σ_64 50 x3_62 ((ldA σ_64 50 x3_62) + ((1 : Int32)))) 17 ((gI (stA σ_64 50 x3_62 ((ldA σ_64 50 x3_62) + ((1 : Int32)))) 17) + ((1 : Int32))))) else none) else none))) 8 0 n σ (decide (cN a 18 (6 * k + r) = 0)) (by omega) (by omega) h48 h45
    have hgo : (decide (cN a 18 (6 * k + r) = 0) || dfr (seenOf (cN a 11 r) (cL a 0) k) (gB σ 51) (8 * (6 * k + r)) 0 8) = goesB a k r := by
      unfold goesB
      rw [dfr_cg (last := gB σ 51) (last' := cL a 1) 8 0 (fun q h1 h2 => p4 _ (by omega))]
    rw [hgo, ← hy] at r1
    have r1' : fX3_offer_L44 (fun (x3_62 : Int32) (x4_63 : Int32) (σ_64 : ST) => (if x4_63 = 0 then (some σ_64) else (if ix x3_62 42 then (if ix x3_62 42 then (some (sI (stA σ_64 50 x3_62 ((ldA σ_64 50 x3_62) + ((1 : Int32)))) 17 ((gI (stA σ_64 50 x3_62 ((ldA σ_64 50 x3_62) + ((1 : Int32)))) 17) + ((1 : Int32))))) else none) else none))) n (nI k) (nI r) (nI (6 * k + r)) y 0 σ = _ := r1
    rw [r1']
    have w51 : ∀ i, i < 336 → gB σ1 51 i = cL (aOffer a k r) 1 i := by
      intro i hi
      rw [r3 i, Nat.add_zero]
      show _ = if 8 * (6 * k + r) ≤ i ∧ i < 8 * (6 * k + r) + 8 then seenOf (cN a 11 r) (cL a 0) k (i - 8 * (6 * k + r)) else cL a 1 i
      split
      · rfl
      · exact p4 i hi
    have e17 : gI σ1 17 = gI σ 17 := r2.1 17 (by decide)
    have e50 : gA σ1 50 = gA σ 50 := r2.2.1 50 (by decide)
    have e49 : gA σ1 49 = gA σ 49 := r2.2.1 49 (by decide)
    by_cases hg : goesB a k r = true
    · rw [if_pos hg, if_neg one_ne, if_pos i42, if_pos i42, stA_nI _ _ _ _ (by omega), ldA_nI _ _ _ (by omega), e50, p3 _ hc, nI_1, gI_sA, e17, p1, nI_1]
      have hg1 : goesN a k r = 1 := if_pos hg
      have f1 : fr [17] [50] [51] σ (sI (sA σ1 50 (upd (gA σ 50) (6 * k + r) (nI (cN a 18 (6 * k + r) + 1)))) 17 (nI (cS a 10 + 1))) := fr_sI (fr_sA (fr_up r2 (by decide) (by decide) (by decide)) (by decide)) (by decide)
      refine ⟨_, rfl, f1, xTape_fr f1 xT (by decide) (by decide) (by decide), xPlace_fr f1 xP (by decide) (by decide) (by decide), xSpan_fr f1 xS (by decide) (by decide) (by decide), xTab_fr f1 xTb (by decide) (by decide) (by decide), xRead_fr f1 xR (by decide) (by decide) (by decide), xScr_fr f1 xSc (by decide) (by decide) (by decide), xWrk_fr f1 xW (by decide) (by decide) (by decide), ?_, fun q hq => ?_, fun i hi => ?_, fun i hi => w51 i hi⟩
      · show nI (cS a 10 + 1) = nI (cS a 10 + goesN a k r)
        rw [hg1]
      · show gA σ1 49 q = nI (cN a 17 q)
        rw [e49]; exact p2 q hq
      · show upd (gA σ 50) (6 * k + r) (nI (cN a 18 (6 * k + r) + 1)) i = nI (uN (cN a 18) (6 * k + r) (cN a 18 (6 * k + r) + goesN a k r) i)
        rw [upd_at, uN_at, hg1]
        split
        · rfl
        · exact p3 i hi
    · rw [if_neg hg, if_pos rfl]
      have hg1 : goesN a k r = 0 := if_neg hg
      have f1 : fr [17] [50] [51] σ σ1 := fr_up r2 (by decide) (by decide) (by decide)
      refine ⟨_, rfl, f1, xTape_fr f1 xT (by decide) (by decide) (by decide), xPlace_fr f1 xP (by decide) (by decide) (by decide), xSpan_fr f1 xS (by decide) (by decide) (by decide), xTab_fr f1 xTb (by decide) (by decide) (by decide), xRead_fr f1 xR (by decide) (by decide) (by decide), xScr_fr f1 xSc (by decide) (by decide) (by decide), xWrk_fr f1 xW (by decide) (by decide) (by decide), ?_, fun q hq => ?_, fun i hi => ?_, fun i hi => w51 i hi⟩
      · show gI σ1 17 = nI (cS a 10 + goesN a k r)
        rw [hg1, e17]; exact p1
      · show gA σ1 49 q = nI (cN a 17 q)
        rw [e49]; exact p2 q hq
      · show gA σ1 50 i = nI (uN (cN a 18) (6 * k + r) (cN a 18 (6 * k + r) + goesN a k r) i)
        rw [e50, uN_at, hg1, Nat.add_zero, p3 i hi]
        split
        · rename_i e; rw [e]
        · rfl
  by_cases c0 : cN a 18 (6 * k + r) = 0
  · rw [if_pos (e0.mpr c0)]
    exact common 1 (by simp [c0])
  · rw [if_neg (fun q => c0 (e0.mp q))]
    exact common 0 (by simp [c0])
