/-! ===== PURE: read: the class cuts the text into TOKENS ===== -/
theorem xBl {c : Nat} (hc : c < 256) (σ : ST) : fX7_isBlank (nI c) σ = some (if bB c = true then 1 else 0, σ) := by
  have key : ∀ c : Fin 256, (if nI c.1 = 9 then (1 : Int32) else if nI c.1 = 10 then (1 : Int32) else if nI c.1 = 13 then (1 : Int32) else if nI c.1 = 32 then (1 : Int32) else 0) = (if bB c.1 = true then 1 else 0) := by decide +kernel
  rw [← show (if nI c = 9 then (1 : Int32) else if nI c = 10 then (1 : Int32) else if nI c = 13 then (1 : Int32) else if nI c = 32 then (1 : Int32) else 0) = (if bB c = true then 1 else 0) from key ⟨c, hc⟩]
  unfold fX7_isBlank
  by_cases h0 : nI c = 9
  · rw [if_pos h0, if_pos h0]
  · rw [if_neg h0, if_neg h0]
    by_cases h1 : nI c = 10
    · rw [if_pos h1, if_pos h1]
    · rw [if_neg h1, if_neg h1]
      by_cases h2 : nI c = 13
      · rw [if_pos h2, if_pos h2]
      · rw [if_neg h2, if_neg h2]
        by_cases h3 : nI c = 32
        · rw [if_pos h3, if_pos h3]
        · rw [if_neg h3, if_neg h3]
theorem xLe {c : Nat} (hc : c < 256) (σ : ST) : fX7_isLetter (nI c) σ = some (if bL c = true then 1 else 0, σ) := by
  unfold fX7_isLetter
  by_cases h0 : c < 97
  · rw [if_pos (show nI c < (97 : Int32) from nI_lt h0 (by decide)), if_neg (fun q => by rw [bL_iff] at q; omega)]
  · rw [if_neg (show ¬ nI c < (97 : Int32) from nI_nlt (b := 97) (by omega) (by omega))]
    by_cases h1 : 122 < c
    · rw [if_pos (show (122 : Int32) < nI c from nI_lt h1 (by omega)), if_neg (fun q => by rw [bL_iff] at q; omega)]
    · rw [if_neg (show ¬ (122 : Int32) < nI c from nI_nlt (a := 122) (by omega) (by decide)), if_pos ((bL_iff c).mpr ⟨by omega, by omega⟩)]
theorem xDi {c : Nat} (hc : c < 256) (σ : ST) : fX7_isDigit (nI c) σ = some (if bD c = true then 1 else 0, σ) := by
  unfold fX7_isDigit
  by_cases h0 : c < 48
  · rw [if_pos (show nI c < (48 : Int32) from nI_lt h0 (by decide)), if_neg (fun q => by rw [bD_iff] at q; omega)]
  · rw [if_neg (show ¬ nI c < (48 : Int32) from nI_nlt (b := 48) (by omega) (by omega))]
    by_cases h1 : 57 < c
    · rw [if_pos (show (57 : Int32) < nI c from nI_lt h1 (by omega)), if_neg (fun q => by rw [bD_iff] at q; omega)]
    · rw [if_neg (show ¬ (57 : Int32) < nI c from nI_nlt (a := 57) (by omega) (by decide)), if_pos ((bD_iff c).mpr ⟨by omega, by omega⟩)]
theorem mLe {c : Nat} (hc : c < 256) (σ : ST) : fX11_isLetter (nI c) σ = some (if bL c = true then 1 else 0, σ) := by
  unfold fX11_isLetter
  by_cases h0 : c < 97
  · rw [if_pos (show nI c < (97 : Int32) from nI_lt h0 (by decide)), if_neg (fun q => by rw [bL_iff] at q; omega)]
  · rw [if_neg (show ¬ nI c < (97 : Int32) from nI_nlt (b := 97) (by omega) (by omega))]
    by_cases h1 : 122 < c
    · rw [if_pos (show (122 : Int32) < nI c from nI_lt h1 (by omega)), if_neg (fun q => by rw [bL_iff] at q; omega)]
    · rw [if_neg (show ¬ (122 : Int32) < nI c from nI_nlt (a := 122) (by omega) (by decide)), if_pos ((bL_iff c).mpr ⟨by omega, by omega⟩)]
theorem mDi {c : Nat} (hc : c < 256) (σ : ST) : fX11_isDigit (nI c) σ = some (if bD c = true then 1 else 0, σ) := by
  unfold fX11_isDigit
  by_cases h0 : c < 48
  · rw [if_pos (show nI c < (48 : Int32) from nI_lt h0 (by decide)), if_neg (fun q => by rw [bD_iff] at q; omega)]
  · rw [if_neg (show ¬ nI c < (48 : Int32) from nI_nlt (b := 48) (by omega) (by omega))]
    by_cases h1 : 57 < c
    · rw [if_pos (show (57 : Int32) < nI c from nI_lt h1 (by omega)), if_neg (fun q => by rw [bD_iff] at q; omega)]
    · rw [if_neg (show ¬ (57 : Int32) < nI c from nI_nlt (a := 57) (by omega) (by decide)), if_pos ((bD_iff c).mpr ⟨by omega, by omega⟩)]
def isS (c : Nat) : Bool := decide (sg c ≠ 3)
theorem xSi {c : Nat} (hc : c < 256) (σ : ST) : fX7_isSign (nI c) σ = some (if isS c = true then 1 else 0, σ) := by
  have key : ∀ c : Fin 256, (if nI c.1 = 59 then (1 : Int32) else if nI c.1 = 44 then (1 : Int32) else if nI c.1 = 61 then (1 : Int32) else if nI c.1 = 43 then (1 : Int32) else if nI c.1 = 45 then (1 : Int32) else if nI c.1 = 42 then (1 : Int32) else if nI c.1 = 40 then (1 : Int32) else if nI c.1 = 41 then (1 : Int32) else 0) = (if isS c.1 = true then 1 else 0) := by decide +kernel
  rw [← show (if nI c = 59 then (1 : Int32) else if nI c = 44 then (1 : Int32) else if nI c = 61 then (1 : Int32) else if nI c = 43 then (1 : Int32) else if nI c = 45 then (1 : Int32) else if nI c = 42 then (1 : Int32) else if nI c = 40 then (1 : Int32) else if nI c = 41 then (1 : Int32) else 0) = (if isS c = true then 1 else 0) from key ⟨c, hc⟩]
  unfold fX7_isSign
  by_cases h0 : nI c = 59
  · rw [if_pos h0, if_pos h0]
  · rw [if_neg h0, if_neg h0]
    by_cases h1 : nI c = 44
    · rw [if_pos h1, if_pos h1]
    · rw [if_neg h1, if_neg h1]
      by_cases h2 : nI c = 61
      · rw [if_pos h2, if_pos h2]
      · rw [if_neg h2, if_neg h2]
        by_cases h3 : nI c = 43
        · rw [if_pos h3, if_pos h3]
        · rw [if_neg h3, if_neg h3]
          by_cases h4 : nI c = 45
          · rw [if_pos h4, if_pos h4]
          · rw [if_neg h4, if_neg h4]
            by_cases h5 : nI c = 42
            · rw [if_pos h5, if_pos h5]
            · rw [if_neg h5, if_neg h5]
              by_cases h6 : nI c = 40
              · rw [if_pos h6, if_pos h6]
              · rw [if_neg h6, if_neg h6]
                by_cases h7 : nI c = 41
                · rw [if_pos h7, if_pos h7]
                · rw [if_neg h7, if_neg h7]
theorem sg_kx : ∀ c : Fin 256, (if isS c.1 = true then nI c.1 else 259) = nI (kx (sg c.1)) := by decide +kernel
def XTp (v : Nat → Nat) (ln : Nat) (σ : ST) : Prop := gI σ 0 = nI ln ∧ ln ≤ 2000 ∧ (∀ q, v q < 256) ∧ ∀ q, q < ln → gA σ 2 q &&& 255 = nI (v q)
theorem XTp_fr {v : Nat → Nat} {ln : Nat} {I A B : List Nat} {σ σ' : ST} (f : fr I A B σ σ') (h : XTp v ln σ) (h0 : 0 ∉ I) (h2 : 2 ∉ A) : XTp v ln σ' := by
  unfold XTp at *
  rw [f.1 0 h0, f.2.1 2 h2]; exact h
theorem xByte {v : Nat → Nat} {ln q : Nat} {σ : ST} (h : XTp v ln σ) (hq : q < ln) : fX6_byteAt (nI q) σ = some (nI (v q), σ) := by
  obtain ⟨h0, hl, hv, hb⟩ := h
  unfold fX6_byteAt
  rw [xBelow_yes h0 hq (by omega), Option.bind_some]
  simp only [if_neg one_ne]
  rw [if_neg (show ¬ (2000 : Int32) ≤ nI q from nI_ge (show q < 2000 by omega) (by decide)), if_pos (ix_nI (show q < 2000 by omega) (by decide)), ldA_nI _ 2 _ (by omega), hb q hq]
theorem xByteE {v : Nat → Nat} {ln q : Nat} {σ : ST} (h : XTp v ln σ) (hq : ln ≤ q) (hq2 : q ≤ 2000) : fX6_byteAt (nI q) σ = some (-1, σ) := by
  obtain ⟨h0, hl, hv, hb⟩ := h
  unfold fX6_byteAt
  rw [xBelow_no h0 (Or.inr (nI_le hq (by omega))), Option.bind_some]
  simp only [if_true]
theorem xSkipL {v : Nat → Nat} {ln : Nat} : ∀ d p n σ, ln - p = d → d < n → p ≤ ln → XTp v ln σ → gI σ 1 = nI p → ∃ σ', fX7_skipBlanks_L0 n σ = some σ' ∧ fr [1] [] [] σ σ' ∧ gI σ' 1 = nI (en bB v ln p) := by
  intro d
  induction d with
  | zero =>
    intro p n σ hd hn hp hX h1
    obtain ⟨m, rfl⟩ : ∃ m, n = m + 1 := ⟨n - 1, by omega⟩
    have hl := hX.2.1
    rw [fX7_skipBlanks_L0, hX.1, h1, if_pos (nI_le (by omega) (by omega)), en_no (fun q => by omega)]
    exact ⟨σ, rfl, fr_rf, h1⟩
  | succ d ih =>
    intro p n σ hd hn hp hX h1
    obtain ⟨m, rfl⟩ : ∃ m, n = m + 1 := ⟨n - 1, by omega⟩
    have hl := hX.2.1
    have hb := hX.2.2.1 p
    rw [fX7_skipBlanks_L0, hX.1, h1, if_neg (nI_ge (by omega) (by omega)), xByte hX (by omega), Option.bind_some]
    simp only [xBl hb, Option.bind_some, lt_def]
    by_cases c : bB (v p) = true
    · rw [if_pos c, if_neg one_ne, h1, nI_1, en_yes (P := bB) (by omega) c]
      have f1 : fr [1] [] [] σ (sI σ 1 (nI (p + 1))) := fr_sI fr_rf (by decide)
      obtain ⟨σ', a, b, e⟩ := ih (p + 1) m (sI σ 1 (nI (p + 1))) (by omega) (by omega) (by omega) (XTp_fr f1 hX (by decide) (by decide)) rfl
      exact ⟨σ', a, fr_tr f1 b, e⟩
    · rw [if_neg c, if_pos rfl, en_no (fun q => c q.2)]
      exact ⟨σ, rfl, fr_rf, h1⟩
theorem xSkip {v : Nat → Nat} {ln p n : Nat} {σ : ST} (hn : 2000 < n) (hp : p ≤ ln) (hX : XTp v ln σ) (h1 : gI σ 1 = nI p) : ∃ σ', fX7_skipBlanks n σ = some σ' ∧ fr [1] [] [] σ σ' ∧ gI σ' 1 = nI (en bB v ln p) := by
  have e : fX7_skipBlanks n σ = fX7_skipBlanks_L0 (n + 1) σ := rfl
  rw [e]
  have := hX.2.1
  exact xSkipL (ln - p) p (n + 1) σ rfl (by omega) hp hX h1
theorem xNumL {v : Nat → Nat} {ln p : Nat} {k : Int32 → ST → Option (Int32 × ST)} {x1 : Int32} (hp : p ≤ ln) : ∀ d c n σ, en bD v ln p - (p + c) = d → p + c ≤ en bD v ln p → d < n → XTp v ln σ → gI σ 1 = nI (p + c) → gL σ 0 = lN (dw v p c) → ∃ σ', fX7_scanNumber_L5 k n x1 σ = k x1 σ' ∧ fr [1] [] [] σ σ' ∧ gI σ' 1 = nI (en bD v ln p) ∧ gL σ' 0 = lN (tvAt v ln p) := by
  have hle := en_le (P := bD) (v := v) hp
  intro d
  induction d with
  | zero =>
    intro c n σ hd hc hn hX h1 hL
    obtain ⟨m, rfl⟩ : ∃ m, n = m + 1 := ⟨n - 1, by omega⟩
    have hl := hX.2.1
    have e : p + c = en bD v ln p := by omega
    have ec : c = en bD v ln p - p := by omega
    have res : gI σ 1 = nI (en bD v ln p) ∧ gL σ 0 = lN (tvAt v ln p) := ⟨by rw [h1, e], by rw [hL]; unfold tvAt; rw [← ec]⟩
    rw [fX7_scanNumber_L5, hX.1, h1]
    by_cases q : p + c < ln
    · rw [if_neg (nI_ge q (by omega)), xByte hX q, Option.bind_some]
      simp only [xDi (hX.2.2.1 _), Option.bind_some]
      rw [if_neg (show ¬ bD (v (p + c)) = true from fun z => en_stop bD v ln p (by rw [← e]; exact ⟨q, z⟩)), if_pos rfl]
      exact ⟨σ, rfl, fr_rf, res⟩
    · rw [if_pos (nI_le (by omega) (by omega))]
      exact ⟨σ, rfl, fr_rf, res⟩
  | succ d ih =>
    intro c n σ hd hc hn hX h1 hL
    obtain ⟨m, rfl⟩ : ∃ m, n = m + 1 := ⟨n - 1, by omega⟩
    have hl := hX.2.1
    obtain ⟨q, z⟩ := en_all (P := bD) (v := v) (ln := ln) (p := p) (i := p + c) (by omega) (by omega)
    have hz := (bD_iff _).mp z
    rw [fX7_scanNumber_L5, hX.1, h1, if_neg (nI_ge q (by omega)), xByte hX q, Option.bind_some]
    simp only [xDi (hX.2.2.1 _), Option.bind_some]
    rw [if_pos z, if_neg one_ne, h1, xByte hX q, Option.bind_some]
    simp only [lt_def]
    have ev : (gL σ 0 * 10 + (nI (v (p + c))).toInt64) - 48 = lN (dw v p (c + 1)) := by
      have := hX.2.2.1 (p + c)
      rw [hL, nI_l (by omega), show (10 : Int64) = lN 10 from rfl, lN_mul, lN_add, show (48 : Int64) = lN 48 from rfl, lN_sub (by omega), dw]
      exact congrArg lN (by omega)
    rw [ev]
    have g1 : gI (sL σ 0 (lN (dw v p (c + 1)))) 1 = nI (p + c) := h1
    rw [g1, nI_1]
    have f1 : fr [1] [] [] σ (sI (sL σ 0 (lN (dw v p (c + 1)))) 1 (nI (p + c + 1))) := fr_sI (fr_sL fr_rf) (by decide)
    obtain ⟨σ', a, b, e⟩ := ih (c + 1) m (sI (sL σ 0 (lN (dw v p (c + 1)))) 1 (nI (p + c + 1))) (by omega) (by omega) (by omega) (XTp_fr f1 hX (by decide) (by decide)) rfl rfl
    exact ⟨σ', a, fr_tr f1 b, e⟩
theorem xWrdL {v : Nat → Nat} {ln p : Nat} {k : Int32 → ST → Option (Int32 × ST)} {x1 : Int32} (hp : p ≤ ln) : ∀ d c n σ, en bW v ln p - (p + c) = d → p + c ≤ en bW v ln p → d < n → XTp v ln σ → gI σ 1 = nI (p + c) → gL σ 0 = lN (wX8 v p c) → ∃ σ', fX7_scanWord_L5 k n x1 σ = k x1 σ' ∧ fr [1] [] [] σ σ' ∧ gI σ' 1 = nI (en bW v ln p) ∧ gL σ' 0 = xnAt v ln p := by
  have hle := en_le (P := bW) (v := v) hp
  intro d
  induction d with
  | zero =>
    intro c n σ hd hc hn hX h1 hL
    obtain ⟨m, rfl⟩ : ∃ m, n = m + 1 := ⟨n - 1, by omega⟩
    have hl := hX.2.1
    have e : p + c = en bW v ln p := by omega
    have ec : c = en bW v ln p - p := by omega
    have res : gI σ 1 = nI (en bW v ln p) ∧ gL σ 0 = xnAt v ln p := ⟨by rw [h1, e], by rw [hL]; unfold xnAt; rw [← ec]⟩
    rw [fX7_scanWord_L5, hX.1, h1]
    by_cases q : p + c < ln
    · have st : ¬ bW (v (p + c)) = true := fun z => en_stop bW v ln p (by rw [← e]; exact ⟨q, z⟩)
      have nl : ¬ bL (v (p + c)) = true := fun z => st (by unfold bW; rw [z]; rfl)
      have nd : ¬ bD (v (p + c)) = true := fun z => st (by unfold bW; rw [z, Bool.or_true])
      rw [if_neg (nI_ge q (by omega)), xByte hX q, Option.bind_some]
      simp only [xLe (hX.2.2.1 _), Option.bind_some, lt_def, if_neg nl, if_true, h1, xByte hX q, xDi (hX.2.2.1 _), if_neg nd]
      exact ⟨σ, rfl, fr_rf, res⟩
    · rw [if_pos (nI_le (by omega) (by omega))]
      exact ⟨σ, rfl, fr_rf, res⟩
  | succ d ih =>
    intro c n σ hd hc hn hX h1 hL
    obtain ⟨m, rfl⟩ : ∃ m, n = m + 1 := ⟨n - 1, by omega⟩
    have hl := hX.2.1
    have hb := hX.2.2.1 (p + c)
    obtain ⟨q, z⟩ := en_all (P := bW) (v := v) (ln := ln) (p := p) (i := p + c) (by omega) (by omega)
    have ev : (gL σ 0 <<< (((8 : Int32)).toInt64 &&& 63)) ||| (nI (v (p + c))).toInt64 = lN (wX8 v p (c + 1)) := by
      rw [hL, nI_l (by omega), lN_cat hb]; rfl
    have f1 : fr [1] [] [] σ (sI (sL σ 0 (lN (wX8 v p (c + 1)))) 1 (nI (p + c + 1))) := fr_sI (fr_sL fr_rf) (by decide)
    obtain ⟨σ', a, b, e⟩ := ih (c + 1) m (sI (sL σ 0 (lN (wX8 v p (c + 1)))) 1 (nI (p + c + 1))) (by omega) (by omega) (by omega) (XTp_fr f1 hX (by decide) (by decide)) rfl rfl
    have g1 : gI (sL σ 0 (lN (wX8 v p (c + 1)))) 1 = nI (p + c) := h1
    refine ⟨σ', ?_, fr_tr f1 b, e⟩
    rw [fX7_scanWord_L5, hX.1, h1, if_neg (nI_ge q (by omega)), xByte hX q, Option.bind_some]
    by_cases l : bL (v (p + c)) = true
    · simp only [xLe (hX.2.2.1 _), Option.bind_some, lt_def, if_pos l, if_neg one_ne, h1, xByte hX q]
      rw [ev, g1, nI_1]; exact a
    · have dd : bD (v (p + c)) = true := by
        unfold bW at z
        rw [Bool.eq_false_iff.mpr l, Bool.false_or] at z; exact z
      simp only [xLe (hX.2.2.1 _), Option.bind_some, lt_def, if_neg l, if_true, h1, xByte hX q, xDi (hX.2.2.1 _), if_pos dd, if_neg one_ne]
      rw [ev, g1, nI_1]; exact a
