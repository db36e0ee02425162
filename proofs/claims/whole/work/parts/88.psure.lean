/-! ===== PURE: when tables land, the reference; sure ===== -/
def lnd (a : AS) (ld : Nat → Nat) (x : Nat) : Nat := if 0 < cN a 6 x then 0 else max (ld x) (cS a 3 + 1)
theorem mLands {a : AS} {ld : Nat → Nat} {x1 : Int32} (hx1 : (x1 = 0 ∧ ld = cN a 9) ∨ (x1 = 1 ∧ ld = cN a 10)) (hA : wfA 600 a) (h3 : cS a 3 ≤ 399) : ∀ d x n τ, x + d = 6 → d < n → MR a τ → (∀ q, q < x → gA τ 48 q = nI (lnd a ld q)) → ∃ τ', fX11_lands_L2 n x1 (nI x) τ = some τ' ∧ fr [] [48] [] τ τ' ∧ ∀ q, q < 6 → gA τ' 48 q = nI (lnd a ld q) := by
  intro d
  induction d with
  | zero =>
    intro x n τ hx hn hM h
    obtain ⟨m, rfl⟩ : ∃ m, n = m + 1 := ⟨n - 1, by omega⟩
    have : x = 6 := by omega
    subst this
    exact ⟨τ, by rw [fX11_lands_L2, show (6 : Int32) = nI 6 from rfl, if_pos (nI_le (Nat.le_refl 6) (by decide))], fr_rf, h⟩
  | succ d ih =>
    intro x n τ hx hn hM h
    obtain ⟨m, rfl⟩ : ∃ m, n = m + 1 := ⟨n - 1, by omega⟩
    have hx6 : x < 6 := by omega
    have i6 : ix (nI x) 6 := ix_nI hx6 (by decide)
    have e24 : gA τ 24 x = nI (cN a 6 x) := (hM.2.2.2.1.1 x hx6).1
    have h6 := (hA.2.2.1.2 x hx6).1
    have hsp := hA.2.1 x hx6
    have e18 : gI τ 18 = nI (cS a 3) := hM.2.2.2.2.2.2.1.1
    have key : ∀ v : Nat, v = lnd a ld x → ∃ τ', fX11_lands_L2 m x1 (nI x + 1) (stA τ 48 (nI x) (nI v)) = some τ' ∧ fr [] [48] [] τ τ' ∧ ∀ q, q < 6 → gA τ' 48 q = nI (lnd a ld q) := by
      intro v hv
      rw [stA_nI τ 48 x _ (by omega), nI_1]
      have f1 : fr [] [48] [] τ (sA τ 48 (upd (gA τ 48) x (nI v))) := fr_sA fr_rf (by decide)
      obtain ⟨τ', r1, r2, r3⟩ := ih (x + 1) m (sA τ 48 (upd (gA τ 48) x (nI v))) (by omega) (by omega) hM (fun q hq => by
        show upd (gA τ 48) x (nI v) q = _
        rw [upd_at]
        by_cases c : q = x
        · rw [if_pos c, c, hv]
        · rw [if_neg c]; exact h q (by omega))
      exact ⟨τ', r1, fr_tr f1 r2, r3⟩
    have hld : ld x ≤ 399 := by
      rcases hx1 with ⟨-, rfl⟩ | ⟨-, rfl⟩
      · exact hsp.1
      · exact hsp.2
    have body : ∃ τ', (if (ldA τ 24 (nI x)) ≤ 0 then (if nI (ld x) ≤ (gI τ 18) then fX11_lands_L2 m x1 (nI x + 1) (stA τ 48 (nI x) ((gI τ 18) + 1)) else fX11_lands_L2 m x1 (nI x + 1) (stA τ 48 (nI x) (nI (ld x)))) else fX11_lands_L2 m x1 (nI x + 1) (stA τ 48 (nI x) 0)) = some τ' ∧ fr [] [48] [] τ τ' ∧ ∀ q, q < 6 → gA τ' 48 q = nI (lnd a ld q) := by
      have e18' : gI τ 18 + 1 = nI (cS a 3 + 1) := by rw [e18, nI_1]
      rw [ldA_nI τ 24 x (by omega), e24, e18', e18]
      by_cases c : 0 < cN a 6 x
      · rw [if_neg (nI_nle c (by omega))]
        exact key 0 (by unfold lnd; rw [if_pos c])
      · have c0 : cN a 6 x = 0 := by omega
        rw [c0, if_pos (show nI 0 ≤ (0 : Int32) by decide)]
        by_cases e : ld x ≤ cS a 3
        · rw [if_pos (nI_le e (by omega))]
          exact key _ (by unfold lnd; rw [if_neg c]; omega)
        · rw [if_neg (nI_ge (by omega) (by omega))]
          exact key _ (by unfold lnd; rw [if_neg c]; omega)
    rw [fX11_lands_L2, if_neg (show ¬ (6 : Int32) ≤ nI x from nI_ge hx6 (by decide))]
    simp only [lt_def, if_pos i6]
    rcases hx1 with ⟨rfl, rfl⟩ | ⟨rfl, rfl⟩
    · have e22 : ldA τ 22 (nI x) = nI (cN a 9 x) := by rw [ldA_nI τ 22 x (by omega)]; exact (hM.2.2.1 x hx6).1
      rw [if_pos rfl, e22]
      exact body
    · have e23 : ldA τ 23 (nI x) = nI (cN a 10 x) := by rw [ldA_nI τ 23 x (by omega)]; exact (hM.2.2.1 x hx6).2
      rw [if_neg one_ne, e23]
      exact body
theorem lnd_op {a : AS} {ld : Nat → Nat} {k t : Nat} (h8 : ∀ x, x < 6 → ((cS a 8).testBit x = true ↔ 0 < cN a 6 x)) (ht : cS a 3 + 1 ≤ t) : (∀ x, x < 6 → (cN a 3 k).testBit x = true → lnd a ld x ≤ t) ↔ opG a ld k ≤ t := by
  unfold opG
  rw [mxT_le]
  constructor
  · intro h
    refine ⟨ht, fun x hx hm => ?_⟩
    unfold misB at hm
    rw [Bool.and_eq_true] at hm
    have := h x hx hm.1
    unfold lnd at this
    rw [if_neg (fun z => by rw [(h8 x hx).mpr z] at hm; exact absurd hm.2 (by decide))] at this
    omega
  · rintro ⟨-, h⟩ x hx hb
    unfold lnd
    split
    · omega
    · rename_i c
      have := h x hx (by
        unfold misB
        rw [hb]
        cases z : (cS a 8).testBit x
        · rfl
        · exact absurd ((h8 x hx).mp z) c)
      omega
def eMV (a : AS) (ld f : Nat → Nat) (k : Nat) : Nat := if (cS a 6).testBit k = true then cN a 14 k else if wayB a k = true then cS a 3 + cN a 0 k - cN a 16 k else mxT (opG a ld k) (fun j => (cN a 4 k).testBit j && !(cS a 6).testBit j) (fun j => f j + 1) k + cN a 0 k - 1
theorem eM_so {a : AS} {ld f : Nat → Nat} {k : Nat} (hs : hs0 a) (hk : k < cS a 1) (hf : ∀ j, j < k → soA a ld j = min 400 (f j) ∧ ((cS a 6).testBit j = true → f j = cN a 14 j)) : soA a ld k = min 400 (eMV a ld f k) := by
  rw [soA_eq hk]
  have hk4 := (hs.2.2.2.1 k hk)
  have h3 := hs.2.1
  unfold soV eMV
  by_cases c1 : (cS a 6).testBit k = true
  · rw [if_pos c1, if_pos c1]
    have := hk4.2.2.2 c1
    omega
  · rw [if_neg c1, if_neg c1]
    by_cases c2 : wayB a k = true
    · rw [if_pos c2, if_pos c2]
    · rw [if_neg c2, if_neg c2]
      have hop : cS a 3 + 1 ≤ opG a ld k := by
        have := (mxT_le (b := cS a 3 + 1) (P := misB a k) (f := ld) (t := opG a ld k) 6).mp (Nat.le_refl _)
        exact this.1
      have hiff : ∀ t, t ≤ 400 → (max (opG a ld k) (prtN a (soA a ld) k) ≤ t ↔ mxT (opG a ld k) (fun j => (cN a 4 k).testBit j && !(cS a 6).testBit j) (fun j => f j + 1) k ≤ t) := by
        intro t ht
        unfold prtN
        rw [Nat.max_le, mxT_le, mxT_le]
        constructor
        · rintro ⟨h1, -, h2⟩
          refine ⟨h1, fun j hj hb => ?_⟩
          rw [Bool.and_eq_true] at hb
          have := h2 j hj hb.1
          have := (hf j hj).1
          show f j + 1 ≤ t
          omega
        · rintro ⟨h1, h2⟩
          refine ⟨h1, Nat.zero_le _, fun j hj hb => ?_⟩
          show soA a ld j + 1 ≤ t
          have e := (hf j hj).1
          by_cases d : (cS a 6).testBit j = true
          · have := (hs.2.2.2.1 j (by omega)).2.2.2 d
            have := (hf j hj).2 d
            omega
          · have : f j + 1 ≤ t := h2 j hj (by
              have hb' : (cN a 4 k).testBit j = true := hb
              show ((cN a 4 k).testBit j && !(cS a 6).testBit j) = true
              rw [hb']; simp at d; rw [d]; rfl)
            omega
      generalize max (opG a ld k) (prtN a (soA a ld) k) = B at hiff
      generalize mxT (opG a ld k) (fun j => (cN a 4 k).testBit j && !(cS a 6).testBit j) (fun j => f j + 1) k = A at hiff
      rcases Nat.lt_or_ge 400 A with z | z
      · have : ¬ B ≤ 400 := fun q => by have := (hiff 400 (Nat.le_refl _)).mp q; omega
        omega
      · have h1 := (hiff A z).mpr (Nat.le_refl _)
        have h2 := (hiff B (by omega)).mp (Nat.le_refl _)
        have : A = B := by omega
        rw [this]
theorem mSureT {a : AS} {τ : ST} {ld : Nat → Nat} {y k v : Nat} (hv : v < 2) (hk : k < 7) (h3 : cN a 3 k < 64) (e16 : gA τ 16 (7 * v + k) = nI (cN a 3 k)) (e48 : ∀ x, x < 6 → gA τ 48 x = nI (lnd a ld x)) (hl : ∀ x, x < 6 → lnd a ld x ≤ 400) (k169 : Int32 → Int32 → Int32 → Int32 → ST → Option (Int32 × ST)) : ∀ d x c n, x + d = 6 → d < n → c ≤ 400 → fX11_sure_L120 k169 n (nI y) (nI k) (nI (7 * v + k)) (nI (mxT c (fun x => (cN a 3 k).testBit x) (lnd a ld) x)) (nI x) τ = k169 (nI y) (nI k) (nI (7 * v + k)) (nI (mxT c (fun x => (cN a 3 k).testBit x) (lnd a ld) 6)) τ := by
  intro d
  induction d with
  | zero =>
    intro x c n hx hn hc
    obtain ⟨m, rfl⟩ : ∃ m, n = m + 1 := ⟨n - 1, by omega⟩
    have : x = 6 := by omega
    subst this
    rw [fX11_sure_L120, if_pos (show (6 : Int32) ≤ nI 6 by decide)]
  | succ d ih =>
    intro x c n hx hn hc
    obtain ⟨m, rfl⟩ : ∃ m, n = m + 1 := ⟨n - 1, by omega⟩
    have hx6 : x < 6 := by omega
    have hle : mxT c (fun x => (cN a 3 k).testBit x) (lnd a ld) x ≤ 400 := (mxT_le x).mpr ⟨hc, fun q hq _ => hl q (by omega)⟩
    have hh := ih (x + 1) c m (by omega) (by omega) hc
    have hstep := mxT.eq_2 c (fun x => (cN a 3 k).testBit x) (lnd a ld) x
    have hlx := hl x hx6
    rw [fX11_sure_L120, if_neg (show ¬ (6 : Int32) ≤ nI x from nI_ge hx6 (by decide)), if_pos (ix_nI (show 7 * v + k < 14 by omega) (by decide)), ldA_nI _ 16 _ (by omega), e16]
    simp only [lt_def, nI_1, if_pos (ix_nI hx6 (show 6 < 2 ^ 31 by decide)), ldA_nI _ _ x (show x < 2 ^ 31 by omega), e48 x hx6]
    by_cases b : (cN a 3 k).testBit x = true
    · rw [if_pos ((bit_one (by omega) (by omega)).mpr b)]
      rw [hstep, if_pos b] at hh
      by_cases z : lnd a ld x ≤ mxT c (fun x => (cN a 3 k).testBit x) (lnd a ld) x
      · rw [if_pos (nI_le z (by omega))]
        rw [Nat.max_eq_left z] at hh; exact hh
      · rw [if_neg (nI_ge (by omega) (by omega))]
        rw [Nat.max_eq_right (by omega)] at hh; exact hh
    · rw [if_neg (fun q => b ((bit_one (by omega) (by omega)).mp q))]
      rw [hstep, if_neg b] at hh; exact hh
theorem mSureP {a : AS} {τ : ST} {f : Nat → Nat} {y k v : Nat} (hv : v < 2) (hk : k < 7) (h4 : cN a 4 k < 128) (e17 : gA τ 17 (7 * v + k) = nI (cN a 4 k)) (e35 : ∀ j, j < k → gA τ 35 j = if (cS a 6).testBit j then nI (cN a 14 j) else -1) (h14 : ∀ j, j < k → (cS a 6).testBit j = true → cN a 14 j < 2 ^ 31) (e45 : ∀ j, j < k → gA τ 45 j = nI (f j)) (hf : ∀ j, j < k → f j ≤ 2000) (k235 : Int32 → Int32 → Int32 → Int32 → ST → Option (Int32 × ST)) : ∀ d j c n, j + d = k → d < n → c ≤ 2001 → fX11_sure_L172 k235 n (nI y) (nI k) (nI (7 * v + k)) (nI (mxT c (fun j => (cN a 4 k).testBit j && !(cS a 6).testBit j) (fun j => f j + 1) j)) (nI j) τ = k235 (nI y) (nI k) (nI (7 * v + k)) (nI (mxT c (fun j => (cN a 4 k).testBit j && !(cS a 6).testBit j) (fun j => f j + 1) k)) τ := by
  intro d
  induction d with
  | zero =>
    intro j c n hj hn hc
    obtain ⟨m, rfl⟩ : ∃ m, n = m + 1 := ⟨n - 1, by omega⟩
    have : j = k := by omega
    subst this
    rw [fX11_sure_L172, if_pos (nI_le (Nat.le_refl _) (by omega))]
  | succ d ih =>
    intro j c n hj hn hc
    obtain ⟨m, rfl⟩ : ∃ m, n = m + 1 := ⟨n - 1, by omega⟩
    have hjk : j < k := by omega
    have hle : mxT c (fun j => (cN a 4 k).testBit j && !(cS a 6).testBit j) (fun j => f j + 1) j ≤ 2001 := (mxT_le j).mpr ⟨hc, fun q hq _ => by have := hf q (by omega); show f q + 1 ≤ 2001; omega⟩
    have hh := ih (j + 1) c m (by omega) (by omega) hc
    have hstep := mxT.eq_2 c (fun j => (cN a 4 k).testBit j && !(cS a 6).testBit j) (fun j => f j + 1) j
    have hfj := hf j hjk
    have i7 : ix (nI j) 7 := ix_nI (by omega) (by decide)
    rw [fX11_sure_L172, if_neg (nI_ge hjk (by omega)), if_pos (ix_nI (show 7 * v + k < 14 by omega) (by decide)), ldA_nI _ 17 _ (by omega), e17]
    simp only [lt_def, nI_1, if_pos i7, ldA_nI _ _ j (show j < 2 ^ 31 by omega), e45 j hjk, e35 j hjk]
    by_cases b : (cN a 4 k).testBit j = true
    · rw [if_pos ((bit_one (by omega) (by omega)).mpr b)]
      by_cases dd : (cS a 6).testBit j = true
      · rw [if_pos dd, if_neg (nI_ne_m1 (h14 j hjk dd))]
        rw [hstep, if_neg (by rw [b, dd]; decide)] at hh
        exact hh
      · rw [if_neg dd, if_pos rfl]
        rw [hstep, if_pos (by rw [b]; simp at dd; rw [dd]; rfl)] at hh
        by_cases z : f j + 1 ≤ mxT c (fun j => (cN a 4 k).testBit j && !(cS a 6).testBit j) (fun j => f j + 1) j
        · rw [if_pos (nI_le z (by omega))]
          rw [Nat.max_eq_left z] at hh; exact hh
        · rw [if_neg (nI_ge (by omega) (by omega))]
          rw [Nat.max_eq_right (by omega)] at hh; exact hh
    · rw [if_neg (fun q => b ((bit_one (by omega) (by omega)).mp q))]
      rw [hstep, if_neg (fun q => by rw [Bool.and_eq_true] at q; exact b q.1)] at hh; exact hh
theorem mSureL {a : AS} {ld : Nat → Nat} {y v : Nat} (hv : v < 2) (hA : wfA 600 a) (hB : wfBg 0 0 a) (hld : ∀ x, x < 6 → ld x ≤ 399) (hy : y < cS a 1) (k258 : Int32 → ST → Option (Int32 × ST)) : ∀ d k n τ (f : Nat → Nat), k + d = y + 1 → d + 200 < n → MR a τ → gI τ 11 = nI v → gA τ 8 v = nI (cS a 1) → (∀ k, k < cS a 1 → gA τ 11 (7 * v + k) = nI (cN a 0 k) ∧ gA τ 16 (7 * v + k) = nI (cN a 3 k) ∧ gA τ 17 (7 * v + k) = nI (cN a 4 k)) → (∀ x, x < 6 → gA τ 48 x = nI (lnd a ld x)) → (∀ j, j < k → gA τ 45 j = nI (f j) ∧ f j ≤ 420 + 20 * j ∧ soA a ld j = min 400 (f j) ∧ ((cS a 6).testBit j = true → f j = cN a 14 j)) →
    ∃ τ' e, fX11_sure_L34 k258 n (nI y) (nI k) τ = k258 (nI y) τ' ∧ fr [] [45] [] τ τ' ∧ gA τ' 45 y = nI e ∧ e < 2 ^ 30 ∧ soA a ld y = min 400 e := by
  have hK := hB.1.1
  have hs := hs_of hB
  have h3 := hB.2.1.1
  intro d
  induction d with
  | zero =>
    intro k n τ f hk hn hM h11 h8 hS h48 h45
    obtain ⟨m, rfl⟩ : ∃ m, n = m + 1 := ⟨n - 1, by omega⟩
    obtain ⟨q1, q2, q3, q4⟩ := h45 y (by omega)
    refine ⟨τ, f y, ?_, fr_rf, q1, by omega, q3⟩
    rw [fX11_sure_L34, if_pos (nI_lt (by omega) (by omega))]
  | succ d ih =>
    intro k n τ f hk hn hM h11 h8 hS h48 h45
    obtain ⟨m, rfl⟩ : ∃ m, n = m + 1 := ⟨n - 1, by omega⟩
    have hkK : k < cS a 1 := by omega
    have hk7 : k < 7 := by omega
    have i7 : ix (nI k) 7 := ix_nI hk7 (by decide)
    have bt := hB.1.2.2.2 k hkK
    have h128 : cN a 4 k < 128 := Nat.lt_of_lt_of_le bt.2.2.2.2.2.2.1 (pow_le_128 (by omega))
    obtain ⟨sk1, sk2, sk3⟩ := hS k hkK
    obtain ⟨y18, y19, y33, y34, y36, y35, y38, y37⟩ := hM.2.2.2.2.2.2.1
    have heM := eM_so (ld := ld) (f := f) hs hkK (fun j hj => ⟨(h45 j hj).2.2.1, (h45 j hj).2.2.2⟩)
    have key : ∀ e : Nat, e = eMV a ld f k → e ≤ 420 + 20 * k → ∃ τ' e', fX11_sure_L34 k258 m (nI y) (nI k + 1) (stA τ 45 (nI k) (nI e)) = k258 (nI y) τ' ∧ fr [] [45] [] τ τ' ∧ gA τ' 45 y = nI e' ∧ e' < 2 ^ 30 ∧ soA a ld y = min 400 e' := by
      intro e he hle
      rw [stA_nI τ 45 k _ (by omega), nI_1]
      have f1 : fr [] [45] [] τ (sA τ 45 (upd (gA τ 45) k (nI e))) := fr_sA fr_rf (by decide)
      obtain ⟨τ', e', r1, r2, r3⟩ := ih (k + 1) m (sA τ 45 (upd (gA τ 45) k (nI e))) (uN f k e) (by omega) (by omega) hM h11 h8 hS h48 (fun j hj => by
        show upd (gA τ 45) k (nI e) j = _ ∧ _
        rw [upd_at, uN_at]
        by_cases c : j = k
        · subst c
          rw [if_pos rfl, if_pos rfl]
          refine ⟨rfl, hle, by rw [he]; exact heM, fun dd => ?_⟩
          rw [he]; unfold eMV; rw [if_pos dd]
        · rw [if_neg c, if_neg c]; exact h45 j (by omega))
      exact ⟨τ', e', r1, fr_tr f1 r2, r3⟩
    obtain ⟨a1, a2⟩ := mAtHostN (at_ := cN a 12) (τ := τ) y33 (fun q hq => Nat.le_trans (hB.2.2.1 q hq) hK) hk7 3 0 m (by omega) (by omega)
    have hat : fX11_isAtHost m (nI k) τ = fX11_isAtHost_L2 m (nI k) (nI 0) τ := rfl
    rw [fX11_sure_L34, if_neg (fun z => by rw [nI_lt_iff (by omega) (by omega)] at z; omega), h11, m7, lt_def, if_pos i7, ldA_nI _ 35 k (by omega), y35 k hkK]
    simp only [lt_def, if_pos i7, hat, if_pos (ix_nI (show 7 * v + k < 14 by omega) (show 14 < 2 ^ 31 by decide)), ldA_nI _ _ k (show k < 2 ^ 31 by omega), ldA_nI _ _ (7 * v + k) (show 7 * v + k < 2 ^ 31 by omega)]
    by_cases c1 : (cS a 6).testBit k = true
    · have b7 := hB.2.2.2.2.2.2.1 k hkK c1
      rw [if_pos c1, if_neg (nI_ne_m1 (by omega))]
      exact key _ (by unfold eMV; rw [if_pos c1]) (by omega)
    · rw [if_neg c1, if_pos rfl]
      by_cases c2 : wayB a k = true
      · obtain ⟨h, hh3, hh⟩ := (wayB_iff a k).mp c2
        have b6 := hB.2.2.2.2.2.1 h hh3 (by omega)
        have e37 := y37 h hh3 (by omega)
        rw [hh, Nat.add_sub_cancel] at b6 e37
        rw [a1 ⟨h, Nat.zero_le _, hh3, hh⟩, Option.bind_some]
        simp only [if_neg one_ne]
        rw [y18, sk1, e37, nI_add, pk_sub (by omega)]
        exact key _ (by unfold eMV; rw [if_neg c1, if_pos c2]) (by omega)
      · rw [a2 (fun ⟨h, q1, q2, q3⟩ => c2 ((wayB_iff a k).mpr ⟨h, q2, q3⟩)), Option.bind_some]
        simp only [if_true]
        rw [y18, nI_1]
        have hl : ∀ x, x < 6 → lnd a ld x ≤ 400 := fun x hx => by unfold lnd; have := hld x hx; split <;> omega
        have hop : mxT (cS a 3 + 1) (fun x => (cN a 3 k).testBit x) (lnd a ld) 6 = opG a ld k := by
          have h8' : ∀ x, x < 6 → ((cS a 8).testBit x = true ↔ 0 < cN a 6 x) := fun x hx => (hA.2.2.1.2 x hx).2.2.2.1
          have hge : cS a 3 + 1 ≤ opG a ld k := ((mxT_le (b := cS a 3 + 1) (P := misB a k) (f := ld) (t := opG a ld k) 6).mp (Nat.le_refl _)).1
          have hge2 := (mxT_le (b := cS a 3 + 1) (P := fun x => (cN a 3 k).testBit x) (f := lnd a ld) (t := mxT (cS a 3 + 1) (fun x => (cN a 3 k).testBit x) (lnd a ld) 6) 6).mp (Nat.le_refl _)
          apply Nat.le_antisymm
          · exact (mxT_le 6).mpr ⟨hge, (lnd_op h8' hge).mpr (Nat.le_refl _)⟩
          · exact (lnd_op h8' hge2.1).mp hge2.2
        have hopl : opG a ld k ≤ 400 := (mxT_le 6).mpr ⟨by omega, fun x hx _ => by have := hld x hx; omega⟩
        have t1 := mSureT (a := a) (τ := τ) (ld := ld) (y := y) (k := k) hv hk7 bt.2.2.2.2.2.1 sk2 h48 hl (fun (x1_25 : Int32) (x2_26 : Int32) (x3_27 : Int32) (x4_28 : Int32) (σ_29 : ST) => (fX11_sure_L172 (fun (x1_44 : Int32) (x2_45 : Int32) (x3_46 : Int32) (x4_47 : Int32) (σ_48 : ST) => (if ix x3_46 14 then (if ix x2_45 7 then (fX11_sure_L34 k258 m x1_44 (x2_45 + 1) (stA σ_48 45 x2_45 ((x4_47 + (ldA σ_48 11 x3_46)) - ((1 : Int32))))) else none) else none)) m x1_25 x2_26 x3_27 x4_28 0 σ_29)) 6 0 (cS a 3 + 1) m (by omega) (by omega) (by omega)
        have t1' := t1
        rw [hop] at t1'
        rw [show nI (mxT (cS a 3 + 1) (fun x => (cN a 3 k).testBit x) (lnd a ld) 0) = nI (cS a 3 + 1) from rfl, show nI 0 = (0 : Int32) from rfl] at t1'
        rw [t1']
        have t2 := mSureP (a := a) (τ := τ) (f := f) (y := y) (k := k) hv hk7 h128 sk3 (fun j hj => y35 j (by omega)) (fun j hj dd => by have := hB.2.2.2.2.2.2.1 j (by omega) dd; omega) (fun j hj => (h45 j hj).1) (fun j hj => by have := (h45 j hj).2.1; omega) (fun (x1_44 : Int32) (x2_45 : Int32) (x3_46 : Int32) (x4_47 : Int32) (σ_48 : ST) => (if ix x3_46 14 then (if ix x2_45 7 then (fX11_sure_L34 k258 m x1_44 (x2_45 + 1) (stA σ_48 45 x2_45 ((x4_47 + (ldA σ_48 11 x3_46)) - ((1 : Int32))))) else none) else none)) k 0 (opG a ld k) m (by omega) (by omega) (by omega)
        rw [show nI (mxT (opG a ld k) (fun j => (cN a 4 k).testBit j && !(cS a 6).testBit j) (fun j => f j + 1) 0) = nI (opG a ld k) from rfl, show nI 0 = (0 : Int32) from rfl] at t2
        rw [t2, if_pos (ix_nI (show 7 * v + k < 14 by omega) (by decide)), if_pos i7, ldA_nI _ 11 _ (by omega), sk1, nI_add, show (1 : Int32) = nI 1 from rfl, pk_sub (by omega)]
        refine key _ (by unfold eMV; rw [if_neg c1, if_neg c2]) ?_
        have hb : mxT (opG a ld k) (fun j => (cN a 4 k).testBit j && !(cS a 6).testBit j) (fun j => f j + 1) k ≤ 401 + 20 * k := (mxT_le k).mpr ⟨by omega, fun j hj _ => by have := (h45 j hj).2.1; show f j + 1 ≤ _; omega⟩
        omega
theorem sure_gen {n : Nat} (hn : 2000 ≤ n) (x : Int32) : SimStep Rel0 (fX10_sure n x) (fX11_sure n x) := by
  intro t σ τ ht hR
  obtain ⟨a, hA, hB, hC, hD, hX, hM, hk⟩ := id hR
  have hK : cS a 1 ≤ 7 := hB.1.1
  have hA6 := wfA_le hA (show t ≤ 600 by omega)
  have hB0 : wfBg 0 0 a := wfBg_0 (wfBg_1 hB)
  obtain ⟨v, hv, m1, m2, m3, m4⟩ := hM.2.2.2.2.2.1
  unfold fX10_sure fX11_sure
  rcases ix_or (x := x) (n := cS a 1) (by omega) with h | ⟨y, hy, rfl⟩
  · rw [xHasRep_no hX h, mStep_no hv m1 m2 h]
    simp only [Option.bind_some, if_true]
    exact ⟨-1, σ, τ, rfl, rfl, rel_same hR⟩
  · rw [xHasRep hX.2.2.2.2.2.1.1 hX.2.2.2.2.2.1.2.1 hK hB.1.2.1 hy, mStep_yes hv m1 m2 hK hy]
    simp only [Option.bind_some, if_neg one_ne, pif, m1, m7]
    have i14 : ix (nI (7 * v + y)) 14 := ix_nI (by omega) (by decide)
    rw [if_pos i14, ldA_nI _ 10 _ (by omega), (m3 y hy).1]
    simp only [pif]
    by_cases c : (cS a 5).testBit y = true
    · rw [if_pos c, if_pos c]
      obtain ⟨σ', r1, r2, r3, -⟩ := xReck34 (n := n) (by omega) hA6 hB0 hX
      have hX' := XR_fo (fr_up r2 (by decide) (by decide) (by decide)) hX
      obtain ⟨τ1, s1, s2, s3⟩ := mLands (a := a) (ld := cN a 9) (x1 := 0) (Or.inl ⟨rfl, rfl⟩) hA6 hB.2.1.1 6 0 n τ (by decide) (by omega) hM (fun q hq => absurd hq (Nat.not_lt_zero q))
      have hM1 : MR a τ1 := ⟨mTape_fr s2 hM.1 (by decide) (by decide) (by decide), mPlace_fr s2 hM.2.1 (by decide) (by decide) (by decide), mSpan_fr s2 hM.2.2.1 (by decide) (by decide) (by decide), mTab_fr s2 hM.2.2.2.1 (by decide) (by decide) (by decide), mRead_fr s2 hM.2.2.2.2.1 (by decide) (by decide) (by decide), mScr_fr s2 hM.2.2.2.2.2.1 (by decide) (by decide) (by decide), mWrk_fr s2 hM.2.2.2.2.2.2.1 (by decide) (by decide) (by decide), mPost_fr s2 hM.2.2.2.2.2.2.2 (by decide) (by decide) (by decide)⟩
      obtain ⟨τ2, e, u1, u2, u3, u4, u5⟩ := mSureL (a := a) (ld := cN a 9) (y := y) hv hA6 hB0 (fun q hq => (hA.2.1 q hq).1) hy (fun (x1_62 : Int32) (σ_63 : ST) => (if ix x1_62 7 then (if ix ((((7 : Int32)) * (gI σ_63 11)) + x1_62) 14 then (if (ldA σ_63 45 x1_62) ≤ (ldA σ_63 12 ((((7 : Int32)) * (gI σ_63 11)) + x1_62)) then (some ((0 : Int32), σ_63)) else (some ((1 : Int32), σ_63))) else none) else none)) (y + 1) 0 n τ1 (fun _ => 0) (by omega) (by omega) hM1 (by rw [s2.1 11 (by decide)]; exact m1) (by rw [s2.2.1 8 (by decide)]; exact m2) (fun k hk => by rw [s2.2.1 11 (by decide), s2.2.1 16 (by decide), s2.2.1 17 (by decide)]; exact ⟨(m3 k hk).2.1, (m3 k hk).2.2.2.2.1, (m3 k hk).2.2.2.2.2.1⟩) s3 (fun j hj => absurd hj (Nat.not_lt_zero j))
      have f2 : fr [] [45, 48] [] τ τ2 := fr_tr (fr_up s2 (by decide) (by decide) (by decide)) (fr_up u2 (by decide) (by decide) (by decide))
      have hM2 : MR a τ2 := ⟨mTape_fr f2 hM.1 (by decide) (by decide) (by decide), mPlace_fr f2 hM.2.1 (by decide) (by decide) (by decide), mSpan_fr f2 hM.2.2.1 (by decide) (by decide) (by decide), mTab_fr f2 hM.2.2.2.1 (by decide) (by decide) (by decide), mRead_fr f2 hM.2.2.2.2.1 (by decide) (by decide) (by decide), mScr_fr f2 hM.2.2.2.2.2.1 (by decide) (by decide) (by decide), mWrk_fr f2 hM.2.2.2.2.2.2.1 (by decide) (by decide) (by decide), mPost_fr f2 hM.2.2.2.2.2.2.2 (by decide) (by decide) (by decide)⟩
      have hrel : Rel0 (t + 1) σ' τ2 := ⟨a, wfA_mono hA, hB, wfC_mono hC, hD, hX', hM2, mKeys_fr f2 (by decide) hk⟩
      have bt := hB.1.2.2.2 y hy
      have hx : fX1_soonestEndOf n (nI y) σ = some (nI (soA a (cN a 9) y), σ') := by
        unfold fX1_soonestEndOf
        rw [r1, Option.bind_some, xBelow_yes (y := 7) (n := 7) rfl (by omega) (by decide), Option.bind_some]
        simp only [if_neg one_ne]
        rw [if_pos (ix_nI (show y < 7 by omega) (by decide)), ldA_nI _ 60 y (by omega), (r3 y hy).2]
      have e22 : gA σ' 22 y = nI (cN a 1 y) := (hX'.2.2.2.2.2.1.2.2.1 y hy).2.1
      have hs := hs_of hB0
      have hsl := soA_le (ld := cN a 9) hs hy
      rw [hx, Option.bind_some]
      simp only []
      rw [if_pos (ix_nI (show y < 7 by omega) (by decide)), ldA_nI _ 22 y (by omega), e22]
      have hland : fX11_lands n 0 τ = some τ1 := s1
      rw [hland, Option.bind_some, lt_def]
      have u1' : fX11_sure_L34 (fun (x1_62 : Int32) (σ_63 : ST) => (if ix x1_62 7 then (if ix ((((7 : Int32)) * (gI σ_63 11)) + x1_62) 14 then (if (ldA σ_63 45 x1_62) ≤ (ldA σ_63 12 ((((7 : Int32)) * (gI σ_63 11)) + x1_62)) then (some ((0 : Int32), σ_63)) else (some ((1 : Int32), σ_63))) else none) else none)) n (nI y) 0 τ1 = if (gA τ2 45 y) ≤ gA τ 12 (7 * v + y) then some (0, τ2) else some (1, τ2) := by
        refine u1.trans ?_
        show (if ix (nI y) 7 then (if ix ((((7 : Int32)) * (gI τ2 11)) + nI y) 14 then (if (ldA τ2 45 (nI y)) ≤ (ldA τ2 12 ((((7 : Int32)) * (gI τ2 11)) + nI y)) then (some ((0 : Int32), τ2)) else (some ((1 : Int32), τ2))) else none) else none) = _
        rw [if_pos (ix_nI (show y < 7 by omega) (by decide)), f2.1 11 (by decide), m1, m7, if_pos i14, ldA_nI _ 45 y (by omega), ldA_nI _ 12 _ (by omega), f2.2.1 12 (by decide)]
      rw [u1', u3, (m3 y hy).2.2.1]
      by_cases z : soA a (cN a 9) y ≤ cN a 1 y
      · rw [if_pos (nI_le z (by omega)), if_pos (nI_le (by omega) (by omega))]
        exact ⟨0, σ', τ2, rfl, rfl, hrel⟩
      · rw [if_neg (nI_ge (by omega) (by omega)), if_neg (nI_ge (by omega) (by omega))]
        exact ⟨1, σ', τ2, rfl, rfl, hrel⟩
    · rw [if_neg c, if_neg c]
      exact ⟨-1, σ, τ, rfl, rfl, rel_same hR⟩
theorem sim_sure (x : Int32) : SimStep Rel0 (fX10_sure FU x) (fX11_sure FU x) := sure_gen (by decide) x
