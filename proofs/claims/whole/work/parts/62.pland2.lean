/-! ===== PURE: land, the reference ===== -/
theorem mCopy {j r : Nat} (hj : j < 6) (hr : r ≤ 40) (k71 : Int32 → ST → Option (Int32 × ST)) : ∀ d c n τ, c + d = 40 * j + r → 40 * j ≤ c → d < n → gA τ 28 j = nI r → ∃ τ', fX11_land_L26 k71 n (nI j) (nI c) τ = k71 (nI j) τ' ∧ fr [] [29, 30] [] τ τ' ∧ ∀ i, gA τ' 29 i = (if c ≤ i ∧ i < 40 * j + r then gA τ 26 i else gA τ 29 i) ∧ gA τ' 30 i = (if c ≤ i ∧ i < 40 * j + r then gA τ 27 i else gA τ 30 i) := by
  intro d
  induction d with
  | zero =>
    intro c n τ hc h8 hn h28
    obtain ⟨m, rfl⟩ : ∃ m, n = m + 1 := ⟨n - 1, by omega⟩
    have : c = 40 * j + r := by omega
    subst this
    refine ⟨τ, ?_, fr_rf, fun i => ?_⟩
    · rw [fX11_land_L26, if_pos (ix_nI hj (by decide)), ldA_nI _ _ _ (by omega), h28, m40, if_pos (nI_le (Nat.le_refl _) (by omega))]
    · have : ¬ (40 * j + r ≤ i ∧ i < 40 * j + r) := by omega
      simp only [if_neg this, and_self]
  | succ d ih =>
    intro c n τ hc h8 hn h28
    obtain ⟨m, rfl⟩ : ∃ m, n = m + 1 := ⟨n - 1, by omega⟩
    have i240 : ix (nI c) 240 := ix_nI (by omega) (by decide)
    have hle : ¬ (nI (40 * j + r) ≤ nI c) := nI_ge (by omega) (by omega)
    rw [fX11_land_L26, if_pos (ix_nI hj (by decide)), ldA_nI _ _ _ (by omega), h28, m40, if_neg hle]
    simp only [if_pos i240, lt_def, stA_nI _ _ c _ (show c < 2 ^ 31 by omega), ldA_nI _ _ c (show c < 2 ^ 31 by omega), nI_1, gA_sA, Nat.reduceEqDiff, if_true, if_false]
    obtain ⟨τ', r1, r2, r3⟩ := ih (c + 1) m (sA (sA τ 29 (upd (gA τ 29) c (gA τ 26 c))) 30 (upd (gA τ 30) c (gA τ 27 c))) (by omega) (by omega) (by omega) h28
    refine ⟨τ', r1, fr_tr (fr_sA (fr_sA fr_rf (by decide)) (by decide)) r2, fun i => ?_⟩
    have q := r3 i
    simp only [gA_sA, Nat.reduceEqDiff, if_true, if_false, upd_at] at q
    by_cases e : i = c
    · subst e
      have c1 : ¬ (i + 1 ≤ i ∧ i < 40 * j + r) := by omega
      have c2 : i ≤ i ∧ i < 40 * j + r := by omega
      simp only [if_neg c1, if_true] at q
      simp only [if_pos c2]
      exact q
    · by_cases c2 : c ≤ i ∧ i < 40 * j + r
      · have c1 : c + 1 ≤ i ∧ i < 40 * j + r := by omega
        simp only [if_pos c1] at q
        simp only [if_pos c2]
        exact q
      · have c1 : ¬ (c + 1 ≤ i ∧ i < 40 * j + r) := by omega
        simp only [if_neg c1, if_neg e] at q
        simp only [if_neg c2]
        exact q
/-- the hosts that held step s hold nothing -/
def atWo (at_ : Nat → Nat) (s : Nat) : Nat → Nat := fun h => if at_ h = s + 1 then 0 else at_ h
theorem enc_eq {p s : Nat} (hp : p ≤ 7) (hs : s < 7) : (enc p = nI s) ↔ p = s + 1 := by
  unfold enc
  split
  · constructor
    · intro q; exact absurd q.symm (nI_ne_m1 (by omega))
    · intro q; omega
  · rw [nI_eq (by omega) (by omega)]; omega
theorem mDrop {at_ : Nat → Nat} {j s : Nat} (hs : s < 7) (hat : ∀ h, h < 3 → at_ h ≤ 7) (k171 : Int32 → Int32 → ST → Option (Int32 × ST)) : ∀ d h n τ, h + d = 3 → d < n → (∀ q, q < 3 → gA τ 33 q = enc (if q < h then atWo at_ s q else at_ q)) → ∃ τ', fX11_land_L143 k171 n (nI j) (nI s) (nI h) τ = k171 (nI j) (nI s) τ' ∧ fr [] [33] [] τ τ' ∧ ∀ q, q < 3 → gA τ' 33 q = enc (atWo at_ s q) := by
  intro d
  induction d with
  | zero =>
    intro h n τ hd hn h33
    obtain ⟨m, rfl⟩ : ∃ m, n = m + 1 := ⟨n - 1, by omega⟩
    have : h = 3 := by omega
    subst this
    refine ⟨τ, ?_, fr_rf, fun q hq => ?_⟩
    · rw [fX11_land_L143, show (3 : Int32) = nI 3 from rfl, if_pos (nI_le (Nat.le_refl _) (by decide))]
    · rw [h33 q hq, if_pos hq]
  | succ d ih =>
    intro h n τ hd hn h33
    obtain ⟨m, rfl⟩ : ∃ m, n = m + 1 := ⟨n - 1, by omega⟩
    have hh : h < 3 := by omega
    have e33 := h33 h hh
    rw [if_neg (Nat.lt_irrefl h)] at e33
    rw [fX11_land_L143, show (3 : Int32) = nI 3 from rfl, if_neg (nI_ge hh (by decide)), if_pos (ix_nI hh (by decide)), if_pos (ix_nI hh (by decide)), ldA_nI _ _ _ (by omega), e33]
    simp only [lt_def]
    rw [nI_1]
    by_cases e : at_ h = s + 1
    · rw [if_pos ((enc_eq (hat h hh) hs).mpr e), stA_nI _ _ _ _ (by omega)]
      obtain ⟨τ', r1, r2, r3⟩ := ih (h + 1) m (sA τ 33 (upd (gA τ 33) h (-1))) (by omega) (by omega) (fun q hq => by
        rw [gA_sA, if_pos rfl, upd_at]
        by_cases eq : q = h
        · subst eq
          rw [if_pos rfl, if_pos (Nat.lt_succ_self q)]
          unfold atWo
          rw [if_pos e]; rfl
        · rw [if_neg eq, h33 q hq]
          by_cases hl : q < h
          · rw [if_pos hl, if_pos (by omega)]
          · rw [if_neg hl, if_neg (by omega)])
      exact ⟨τ', r1, fr_tr (fr_sA fr_rf (by decide)) r2, r3⟩
    · rw [if_neg (fun q => e ((enc_eq (hat h hh) hs).mp q))]
      refine ih (h + 1) m τ (by omega) (by omega) (fun q hq => ?_)
      rw [h33 q hq]
      by_cases eq : q = h
      · subst eq
        rw [if_neg (Nat.lt_irrefl q), if_pos (Nat.lt_succ_self q)]
        unfold atWo
        rw [if_neg e]
      · by_cases hl : q < h
        · rw [if_pos hl, if_pos (by omega)]
        · rw [if_neg hl, if_neg (by omega)]
/-- the loop over the steps: those that need the table are not done, and at no host -/
theorem mLose {al at0 : Nat → Nat} {K j v : Nat} {ans : Int32} {d0 w0 : Nat → Int32} (hK : K ≤ 7) (hv : v < 2) (hj : j < 6) (hal : ∀ k, k < K → al k < 64) (hat : ∀ h, h < 3 → at0 h ≤ K) :
    ∀ d s n τ, s + d = K → d + 5 < n → gI τ 11 = nI v → gA τ 8 v = nI K → (∀ k, k < K → gA τ 18 (7 * v + k) = nI (al k)) → gA τ 24 j = ans →
      (∀ q, q < 3 → gA τ 33 q = enc (atLost at0 (lostM al j s) q)) → (∀ k, k < 7 → gA τ 35 k = if (lostM al j s).testBit k then -1 else d0 k) → (∀ k, k < 7 → gA τ 37 k = if (lostM al j s).testBit k then 0 else w0 k) →
      ∃ τ', fX11_land_L90 n (nI j) (nI s) τ = some (ans, τ') ∧ fr [] [33, 35, 37] [] τ τ' ∧ (∀ q, q < 3 → gA τ' 33 q = enc (atLost at0 (lostM al j K) q)) ∧ (∀ k, k < 7 → gA τ' 35 k = if (lostM al j K).testBit k then -1 else d0 k) ∧ (∀ k, k < 7 → gA τ' 37 k = if (lostM al j K).testBit k then 0 else w0 k) := by
  intro d
  induction d with
  | zero =>
    intro s n τ hs hn h11 h8 h18 h24 h33 h35 h37
    obtain ⟨m, rfl⟩ : ∃ m, n = m + 1 := ⟨n - 1, by omega⟩
    have : s = K := by omega
    subst this
    refine ⟨τ, ?_, fr_rf, h33, h35, h37⟩
    rw [fX11_land_L90, h11, if_pos (ix_nI hv (by decide)), ldA_nI _ _ _ (by omega), h8, if_pos (nI_le (Nat.le_refl _) (by omega)), if_pos (ix_nI hj (by decide)), ldA_nI _ _ _ (by omega), h24]
  | succ d ih =>
    intro s n τ hs hn h11 h8 h18 h24 h33 h35 h37
    obtain ⟨m, rfl⟩ : ∃ m, n = m + 1 := ⟨n - 1, by omega⟩
    have has := hal s (by omega)
    rw [fX11_land_L90, h11, if_pos (ix_nI hv (by decide)), ldA_nI _ _ _ (by omega), h8, if_neg (nI_ge (by omega) (by omega)), m7, if_pos (ix_nI (show 7 * v + s < 14 by omega) (by decide)), ldA_nI _ _ _ (by omega), h18 s (by omega)]
    simp only [lt_def]
    by_cases hb : (al s).testBit j = true
    · have hlm : lostM al j (s + 1) = lostM al j s ||| 2 ^ s := by rw [lostM, if_pos hb]
      rw [if_neg (fun q => by rw [bit_zero (by omega) (by omega), hb] at q; cases q), if_pos (ix_nI (show s < 7 by omega) (by decide)), if_pos (ix_nI (show s < 7 by omega) (by decide)), stA_nI _ _ _ _ (by omega), stA_nI _ _ _ _ (by omega)]
      obtain ⟨τ1, r1, r2, r3⟩ := mDrop (at_ := atLost at0 (lostM al j s)) (j := j) (s := s) (by omega) (fun h hh => by unfold atLost; have := hat h hh; split <;> omega) (fun (x1_41 : Int32) (x2_42 : Int32) (σ_43 : ST) => fX11_land_L90 m x1_41 (x2_42 + 1) σ_43) 3 0 m (sA (sA τ 35 (upd (gA τ 35) s (-1))) 37 (upd (gA (sA τ 35 (upd (gA τ 35) s (-1))) 37) s 0)) (by omega) (by omega) (fun q hq => by
        rw [if_neg (Nat.not_lt_zero q)]; exact h33 q hq)
      have r1' : fX11_land_L143 (fun (x1_41 : Int32) (x2_42 : Int32) (σ_43 : ST) => fX11_land_L90 m x1_41 (x2_42 + 1) σ_43) m (nI j) (nI s) 0 (sA (sA τ 35 (upd (gA τ 35) s (-1))) 37 (upd (gA (sA τ 35 (upd (gA τ 35) s (-1))) 37) s 0)) = _ := r1
      rw [r1', nI_1]
      have fr1 : fr [] [33, 35, 37] [] τ τ1 := fr_tr (fr_sA (fr_sA fr_rf (by decide)) (by decide)) (fr_up r2 (by decide) (by decide) (by decide))
      obtain ⟨τ', q1, q2, q3, q4, q5⟩ := ih (s + 1) m τ1 (by omega) (by omega) (by rw [fr1.1 11 (by decide)]; exact h11) (by rw [fr1.2.1 8 (by decide)]; exact h8) (fun k hk => by rw [fr1.2.1 18 (by decide)]; exact h18 k hk) (by rw [fr1.2.1 24 (by decide)]; exact h24)
        (fun q hq => by
          rw [r3 q hq, hlm]
          congr 1
          unfold atWo atLost
          by_cases e0 : at0 q = 0
          · simp [e0]
          · by_cases eq : at0 q = s + 1
            · have hb2 : (lostM al j s).testBit (at0 q - 1) = false := by
                rw [lostM_bit, eq]; simp
              have n1 : ¬ (at0 q ≠ 0 ∧ (lostM al j s).testBit (at0 q - 1) = true) := fun z => by rw [hb2] at z; exact absurd z.2 (by decide)
              rw [if_neg n1, if_pos eq, if_pos ⟨e0, by rw [testBit_set, eq]; simp⟩]
            · have hne : decide (s = at0 q - 1) = false := by simp; omega
              rw [testBit_set, hne, Bool.or_false]
              by_cases z : at0 q ≠ 0 ∧ (lostM al j s).testBit (at0 q - 1) = true
              · rw [if_pos z, if_neg (by omega)]
              · rw [if_neg z, if_neg eq])
        (fun k hk => by
          rw [r2.2.1 35 (by decide), gA_sA, if_neg (by decide), gA_sA, if_pos rfl, upd_at, hlm, testBit_set]
          by_cases e : k = s
          · subst e; rw [if_pos rfl]; simp
          · have hne : decide (s = k) = false := by simp; omega
            rw [if_neg e, hne, Bool.or_false]; exact h35 k hk)
        (fun k hk => by
          rw [r2.2.1 37 (by decide), gA_sA, if_pos rfl, upd_at, hlm, testBit_set]
          by_cases e : k = s
          · subst e; rw [if_pos rfl]; simp
          · have hne : decide (s = k) = false := by simp; omega
            rw [if_neg e, hne, Bool.or_false, gA_sA, if_neg (by decide)]; exact h37 k hk)
      exact ⟨τ', q1, fr_tr fr1 q2, q3, q4, q5⟩
    · have hlm : lostM al j (s + 1) = lostM al j s := by rw [lostM, if_neg hb]
      rw [if_pos ((bit_zero (by omega) (by omega)).mpr (by simpa using hb)), nI_1]
      exact ih (s + 1) m τ (by omega) (by omega) h11 h8 h18 h24 (by rw [hlm]; exact h33) (by rw [hlm]; exact h35) (by rw [hlm]; exact h37)
