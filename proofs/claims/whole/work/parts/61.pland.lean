/-! ===== PURE: land, the class ===== -/
def lostM (al : Nat → Nat) (j : Nat) : Nat → Nat
  | 0 => 0
  | s + 1 => if (al s).testBit j then lostM al j s ||| 2 ^ s else lostM al j s
theorem lostM_lt (al : Nat → Nat) (j : Nat) : ∀ s, lostM al j s < 2 ^ s := by
  intro s
  induction s with
  | zero => exact Nat.zero_lt_one
  | succ s ih =>
    rw [lostM]
    have h2 : lostM al j s < 2 ^ (s + 1) := Nat.lt_of_lt_of_le ih (Nat.pow_le_pow_right (by decide) (by omega))
    split
    · exact or_lt h2 (Nat.pow_lt_pow_right (by decide) (by omega))
    · exact h2
theorem lostM_bit (al : Nat → Nat) (j k : Nat) : ∀ s, (lostM al j s).testBit k = (decide (k < s) && (al k).testBit j) := by
  intro s
  induction s with
  | zero => rw [lostM, Nat.zero_testBit]; simp
  | succ s ih =>
    rw [lostM]
    by_cases hb : (al s).testBit j = true
    · rw [if_pos hb, testBit_set, ih]
      by_cases e : s = k
      · subst e; simp [hb]
      · have h1 : decide (s = k) = false := by simp [e]
        have h2 : decide (k < s + 1) = decide (k < s) := by
          rw [Bool.eq_iff_iff, decide_eq_true_iff, decide_eq_true_iff]; omega
        rw [h1, h2, Bool.or_false]
    · rw [if_neg hb, ih]
      by_cases e : s = k
      · subst e
        have : (al s).testBit j = false := by simpa using hb
        rw [this]; simp
      · have h2 : decide (k < s + 1) = decide (k < s) := by
          rw [Bool.eq_iff_iff, decide_eq_true_iff, decide_eq_true_iff]; omega
        rw [h2]
theorem xUndo1 {σ : ST} {al : Nat → Nat} {K j : Nat} (hK : K ≤ 7) (h10 : gI σ 10 = nI K) (hal : ∀ k, k < K → gA σ 26 k = nI (al k) ∧ al k < 64) (hj : j < 6) (k43 : Int32 → ST → Option ST) :
    ∀ d s n, s + d = K → d < n → fX9_undo_L4 k43 n (nI j) (nI (lostM al j s)) (nI s) σ = k43 (nI (lostM al j K)) σ := by
  intro d
  induction d with
  | zero =>
    intro s n hs hn
    obtain ⟨m, rfl⟩ : ∃ m, n = m + 1 := ⟨n - 1, by omega⟩
    have : s = K := by omega
    subst this
    rw [fX9_undo_L4, h10, if_pos (nI_le (Nat.le_refl _) (by omega))]
  | succ d ih =>
    intro s n hs hn
    obtain ⟨m, rfl⟩ : ∃ m, n = m + 1 := ⟨n - 1, by omega⟩
    have ha := hal s (by omega)
    rw [fX9_undo_L4, h10, if_neg (nI_ge (by omega) (by omega)), if_pos (ix_nI (show s < 7 by omega) (by decide)), ldA_nI _ _ _ (by omega), ha.1]
    simp only [lt_def]
    rw [nI_1, nI_shl1 (by omega), nI_or]
    have hh := ih (s + 1) m (by omega) (by omega)
    rw [lostM] at hh
    by_cases hb : (al s).testBit j = true
    · rw [if_pos hb] at hh
      rw [if_neg (fun q => by rw [bit_zero (by omega) (by omega), hb] at q; cases q)]
      exact hh
    · rw [if_neg hb] at hh
      rw [if_pos ((bit_zero (by omega) (by omega)).mpr (by simpa using hb))]
      exact hh
def enc (p : Nat) : Int32 := if p = 0 then -1 else nI (p - 1)
def atLost (at_ : Nat → Nat) (lm : Nat) : Nat → Nat := fun h => if at_ h ≠ 0 ∧ lm.testBit (at_ h - 1) = true then 0 else at_ h
theorem xUndo2 {at_ : Nat → Nat} {lm w : Nat} (hw : w < 128) (hat : ∀ h, h < 3 → at_ h ≤ 7) (hb : ∀ h, h < 3 → at_ h ≠ 0 → (w.testBit (at_ h - 1) = true ↔ ¬ lm.testBit (at_ h - 1) = true)) :
    ∀ d h n σ, h + d = 3 → d < n → gI σ 21 = nI w → (∀ q, q < 3 → gA σ 53 q = enc (if q < h then atLost at_ lm q else at_ q)) → ∃ σ', fX9_undo_L69 n (nI h) σ = some σ' ∧ fr [] [53] [] σ σ' ∧ ∀ q, q < 3 → gA σ' 53 q = enc (atLost at_ lm q) := by
  intro d
  induction d with
  | zero =>
    intro h n σ hs hn h21 h53
    obtain ⟨m, rfl⟩ : ∃ m, n = m + 1 := ⟨n - 1, by omega⟩
    have : h = 3 := by omega
    subst this
    refine ⟨σ, ?_, fr_rf, fun q hq => ?_⟩
    · rw [fX9_undo_L69, show (3 : Int32) = nI 3 from rfl, if_pos (nI_le (Nat.le_refl _) (by decide))]
    · rw [h53 q hq, if_pos hq]
  | succ d ih =>
    intro h n σ hs hn h21 h53
    obtain ⟨m, rfl⟩ : ∃ m, n = m + 1 := ⟨n - 1, by omega⟩
    have hh : h < 3 := by omega
    have e53 := h53 h hh
    rw [if_neg (Nat.lt_irrefl h)] at e53
    rw [fX9_undo_L69, show (3 : Int32) = nI 3 from rfl, if_neg (nI_ge hh (by decide)), if_pos (ix_nI hh (by decide)), if_pos (ix_nI hh (by decide)), ldA_nI _ _ _ (by omega), e53]
    simp only [lt_def]
    rw [nI_1]
    by_cases e0 : at_ h = 0
    · rw [show enc (at_ h) = -1 from if_pos e0, if_pos rfl]
      refine ih (h + 1) m σ (by omega) (by omega) h21 (fun q hq => ?_)
      rw [h53 q hq]
      by_cases eq : q = h
      · subst eq
        rw [if_neg (Nat.lt_irrefl q), if_pos (Nat.lt_succ_self q)]
        unfold atLost
        rw [if_neg (fun z => z.1 e0)]
      · by_cases hl : q < h
        · rw [if_pos hl, if_pos (by omega)]
        · rw [if_neg hl, if_neg (by omega)]
    · have h7 := hat h hh
      rw [show enc (at_ h) = nI (at_ h - 1) from if_neg e0, if_neg (nI_ne_m1 (by omega)), xWay h21 (by omega) (by omega)]
      simp only [Option.bind_some, pif]
      have hbb := hb h hh e0
      by_cases bw : w.testBit (at_ h - 1) = true
      · rw [if_pos bw]
        refine ih (h + 1) m σ (by omega) (by omega) h21 (fun q hq => ?_)
        rw [h53 q hq]
        by_cases eq : q = h
        · subst eq
          rw [if_neg (Nat.lt_irrefl q), if_pos (Nat.lt_succ_self q)]
          unfold atLost
          rw [if_neg (fun z => hbb.mp bw z.2)]
        · by_cases hl : q < h
          · rw [if_pos hl, if_pos (by omega)]
          · rw [if_neg hl, if_neg (by omega)]
      · rw [if_neg bw, if_pos (ix_nI hh (by decide)), stA_nI _ _ _ _ (by omega)]
        have hlm : lm.testBit (at_ h - 1) = true := by
          by_cases z : lm.testBit (at_ h - 1) = true
          · exact z
          · exact absurd (hbb.mpr z) bw
        obtain ⟨σ', r1, r2, r3⟩ := ih (h + 1) m (sA σ 53 (upd (gA σ 53) h (-1))) (by omega) (by omega) h21 (fun q hq => by
          rw [gA_sA, if_pos rfl, upd_at]
          by_cases eq : q = h
          · subst eq
            rw [if_pos rfl, if_pos (Nat.lt_succ_self q)]
            unfold atLost
            rw [if_pos ⟨e0, hlm⟩]; rfl
          · rw [if_neg eq, h53 q hq]
            by_cases hl : q < h
            · rw [if_pos hl, if_pos (by omega)]
            · rw [if_neg hl, if_neg (by omega)])
        exact ⟨σ', r1, fr_tr (fr_sA fr_rf (by decide)) r2, r3⟩
theorem xMove {j : Nat} (hj : j < 6) : ∀ d c n σ, c + d = 8 * j + 8 → 8 * j ≤ c → d < n → ∃ σ', fX0_moveFrom_L14 n (nI j) (nI c) σ = some σ' ∧ fr [] [] [37, 38, 39, 41, 42, 43] σ σ' ∧ ∀ i, gB σ' 37 i = (if c ≤ i ∧ i < 8 * j + 8 then gB σ 41 i else gB σ 37 i) ∧ gB σ' 38 i = (if c ≤ i ∧ i < 8 * j + 8 then gB σ 42 i else gB σ 38 i) ∧ gB σ' 39 i = (if c ≤ i ∧ i < 8 * j + 8 then gB σ 43 i else gB σ 39 i) ∧ gB σ' 41 i = (if c ≤ i ∧ i < 8 * j + 8 then 0 else gB σ 41 i) ∧ gB σ' 42 i = (if c ≤ i ∧ i < 8 * j + 8 then 0 else gB σ 42 i) ∧ gB σ' 43 i = (if c ≤ i ∧ i < 8 * j + 8 then 0 else gB σ 43 i) := by
  intro d
  induction d with
  | zero =>
    intro c n σ hc h8 hn
    obtain ⟨m, rfl⟩ : ∃ m, n = m + 1 := ⟨n - 1, by omega⟩
    have : c = 8 * j + 8 := by omega
    subst this
    refine ⟨σ, ?_, fr_rf, fun i => ?_⟩
    · rw [fX0_moveFrom_L14, nI_1, show (8 : Int32) = nI 8 from rfl, pk_mul, if_pos (nI_le (by omega) (by omega))]
    · have : ¬ (8 * j + 8 ≤ i ∧ i < 8 * j + 8) := by omega
      simp only [if_neg this, and_self]
  | succ d ih =>
    intro c n σ hc h8 hn
    obtain ⟨m, rfl⟩ : ∃ m, n = m + 1 := ⟨n - 1, by omega⟩
    have i48 : ix (nI c) 48 := ix_nI (by omega) (by decide)
    have hle : ¬ ((nI j + 1) * (8 : Int32) ≤ nI c) := by
      rw [nI_1, show (8 : Int32) = nI 8 from rfl, pk_mul]; exact nI_ge (by omega) (by omega)
    rw [fX0_moveFrom_L14, if_neg hle]
    simp only [if_pos i48, lt_def, stB_nI _ _ c _ (show c < 2 ^ 31 by omega), ldB_nI _ _ c (show c < 2 ^ 31 by omega), nI_1, gB_sB, Nat.reduceEqDiff, if_true, if_false]
    obtain ⟨σ', r1, r2, r3⟩ := ih (c + 1) m (sB (sB (sB (sB (sB (sB σ 37 (vp_updL (gB σ 37) c (gB σ 41 c))) 38 (vp_updL (gB σ 38) c (gB σ 42 c))) 39 (vp_updL (gB σ 39) c (gB σ 43 c))) 41 (vp_updL (gB σ 41) c 0)) 42 (vp_updL (gB σ 42) c 0)) 43 (vp_updL (gB σ 43) c 0)) (by omega) (by omega) (by omega)
    refine ⟨σ', r1, fr_tr (fr_sB (fr_sB (fr_sB (fr_sB (fr_sB (fr_sB fr_rf (by decide)) (by decide)) (by decide)) (by decide)) (by decide)) (by decide)) r2, fun i => ?_⟩
    have q := r3 i
    simp only [gB_sB, Nat.reduceEqDiff, if_true, if_false, updL_at] at q
    by_cases e : i = c
    · subst e
      have c1 : ¬ (i + 1 ≤ i ∧ i < 8 * j + 8) := by omega
      have c2 : i ≤ i ∧ i < 8 * j + 8 := by omega
      simp only [if_neg c1, if_true] at q
      simp only [if_pos c2]
      exact q
    · by_cases c2 : c ≤ i ∧ i < 8 * j + 8
      · have c1 : c + 1 ≤ i ∧ i < 8 * j + 8 := by omega
        simp only [if_pos c1, if_neg e] at q
        simp only [if_pos c2]
        exact q
      · have c1 : ¬ (c + 1 ≤ i ∧ i < 8 * j + 8) := by omega
        simp only [if_neg c1, if_neg e] at q
        simp only [if_neg c2]
        exact q
