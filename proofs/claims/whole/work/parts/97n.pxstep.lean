/-! ===== PURE: read: a STEP's head, the class ===== -/
def bS (r : Res) (f : PS → Res) : Res :=
  match r with
  | .inl e => .inl e
  | .inr s => f s
def XRr (Q : Prop) (pl : Nat → Nat) (K : Nat) (al oT oP : Nat → Nat) (L : Nat) (r : Res) (σ : ST) : Prop := XRs Q pl K al oT oP L r σ ∧ ∀ s, r = .inr s → s.2.2.2.2.1 < 9
theorem XRs_out {Q : Prop} {pl : Nat → Nat} {K : Nat} {al oT oP : Nat → Nat} {L : Nat} {r : Res} {σ σ' : ST} (f : fr [] [10, 11, 12] [9] σ σ') (h : XRs Q pl K al oT oP L r σ) : XRs Q pl K al oT oP L r σ' := by
  cases r with
  | inl e =>
    have h' : XFl pl K e σ := h
    show XFl pl K e σ'
    unfold XFl at *
    rw [f.1 2 (by decide), f.1 3 (by decide), f.1 4 (by decide), f.1 7 (by decide), f.1 9 (by decide)]; exact h'
  | inr s =>
    have h' : XS Q pl K al oT oP L s σ := h
    show XS Q pl K al oT oP L s σ'
    unfold XS at *
    rw [f.1 2 (by decide), f.1 4 (by decide), f.1 5 (by decide), f.1 6 (by decide), f.1 7 (by decide), f.1 9 (by decide), f.2.1 13 (by decide), f.2.1 14 (by decide), f.2.1 15 (by decide), f.2.1 17 (by decide), f.2.1 18 (by decide)]; exact h'
theorem xAccR {Q : Prop} {tk tv pl : Nat → Nat} {xn : Nat → Int64} {K : Nat} {al oT oP : Nat → Nat} {L : Nat} {r : Res} {σ : ST} {k : Nat} (hT : TKs tk tv pl L) (hX : XTk tk tv pl xn L σ) (h : XRr Q pl K al oT oP L r σ) (hk : k < 29) (hk0 : k ≠ 0) (hk3 : k ≠ 3) : ∃ σ', fX2_accept (nI (kx k)) σ = some σ' ∧ fr [2, 3, 4, 5, 6] [] [] σ σ' ∧ XRr Q pl K al oT oP L (bS r (aAcc tk k)) σ' := by
  cases r with
  | inl e => exact ⟨σ, xAccF h.1 _, fr_rf, h.1, fun s hs => (by cases hs)⟩
  | inr s =>
    obtain ⟨σ', r1, r2, r3⟩ := xAccN hT hX h.1 hk hk0 hk3
    refine ⟨σ', r1, fr_up r2 (by decide) (by decide) (by decide), r3, fun s' hs => ?_⟩
    have := (aAcc_ok (s := s) hs).2.2
    rw [this]; exact h.2 s rfl
theorem xIntR {Q : Prop} {tk tv pl : Nat → Nat} {xn : Nat → Int64} {K : Nat} {al oT oP : Nat → Nat} {L : Nat} {r : Res} {σ : ST} {lo hi : Nat} (hlo : lo < 10000) (hhi : hi < 10000) (hT : TKs tk tv pl L) (hX : XTk tk tv pl xn L σ) (h : XRr Q pl K al oT oP L r σ) : ∃ σ' w, fX2_acceptInt (nI lo) (nI hi) σ = some (w, σ') ∧ fr [2, 3, 4, 5, 6] [] [] σ σ' ∧ XRr Q pl K al oT oP L (bS r (aInt tk tv lo hi)) σ' ∧ (∀ s s', r = .inr s → aInt tk tv lo hi s = .inr s' → s'.2.2.2.2.1 = 0 → lo ≤ tv s.1 ∧ tv s.1 ≤ hi ∧ w = nI (tv s.1)) := by
  cases r with
  | inl e =>
    obtain ⟨w, hw⟩ := xIntF h.1 (nI lo) (nI hi)
    exact ⟨σ, w, hw, fr_rf, ⟨h.1, fun s hs => (by cases hs)⟩, fun s s' hs => (by cases hs)⟩
  | inr s =>
    obtain ⟨σ', w, r1, r2, r3, r4⟩ := xIntN hlo hhi (h.2 s rfl) hT hX h.1
    refine ⟨σ', w, r1, r2, ⟨r3, fun s' hs => ?_⟩, fun s0 s' e hs hz => ?_⟩
    · obtain ⟨-, -, -, s0, h0, h1⟩ := aInt_ok (s := s) hs
      have := h.2 s rfl
      rw [h1]
      rcases h0 with rfl | rfl
      · exact this
      · unfold aNote; split
        · show 5 < 9; omega
        · exact this
    · obtain rfl := Sum.inr.inj e
      obtain ⟨i1, -, -, -⟩ := aInt_ok hs
      by_cases b : tv s.1 < lo ∨ hi < tv s.1
      · exfalso
        unfold aInt at hs
        rw [if_pos ⟨i1, b⟩] at hs
        have := (aAcc_ok hs).2.2
        rw [this] at hz
        unfold aNote at hz
        split at hz
        · have : 5 = 0 := hz
          omega
        · exact absurd hz (by assumption)
      · exact ⟨by omega, by omega, r4 i1 (by omega) (by omega)⟩
theorem xTellsL {nx : Nat → Int64} {rp K : Nat} {σ : ST} {w : Int64} (hN : NMx nx rp K σ) (hK : K < 7) (h7 : gI σ 7 = nI K) : ∀ d k n, k + d = K → d < n → ∃ b : Int32, fX4_tells_L2 n w (nI k) σ = some (b, σ) ∧ (b = 0 ↔ ¬ ∃ j, k ≤ j ∧ j < K ∧ nx j = w) := by
  obtain ⟨n1, n2, n3⟩ := hN
  intro d
  induction d with
  | zero =>
    intro k n hk hn
    obtain ⟨m, rfl⟩ : ∃ m, n = m + 1 := ⟨n - 1, by omega⟩
    rw [fX4_tells_L2, h7, if_pos (nI_le (by omega) (by omega))]
    exact ⟨0, rfl, iff_of_true rfl (fun ⟨j, a, b, _⟩ => by omega)⟩
  | succ d ih =>
    intro k n hk hn
    obtain ⟨m, rfl⟩ : ∃ m, n = m + 1 := ⟨n - 1, by omega⟩
    obtain ⟨b, hb, hb2⟩ := ih (k + 1) m (by omega) (by omega)
    rw [fX4_tells_L2, h7, if_neg (nI_ge (by omega) (by omega)), if_pos (ix_nI (show k < 7 by omega) (by decide)), ldB_nI _ 9 k (by omega), n1 k (by omega)]
    simp only [lt_def, nI_1]
    by_cases c1 : nx k = w
    · rw [if_pos ((lgc_eq _ _).mpr c1)]
      exact ⟨1, rfl, iff_of_false one_ne (fun z => z ⟨k, Nat.le_refl k, by omega, c1⟩)⟩
    · rw [if_neg (fun q => c1 ((lgc_eq _ _).mp q))]
      refine ⟨b, hb, hb2.trans ⟨fun z ⟨j, a1, a2, a3⟩ => z ⟨j, ?_, a2, a3⟩, fun z ⟨j, a1, a2, a3⟩ => z ⟨j, by omega, a2, a3⟩⟩⟩
      rcases Nat.lt_or_ge k j with q | q
      · exact q
      · have : j = k := by omega
        rw [this] at a3; exact absurd a3 c1
/-- the name of a step, noted where it is told before -/
def aNm (tk : Nat → Nat) (tw : Nat → Bool) (s : PS) : Res := aAcc tk 1 (if tk s.1 = 1 ∧ tw s.1 = true then aNote 3 s else s)
theorem xNameR {Q : Prop} {tk tv pl : Nat → Nat} {tw : Nat → Bool} {xn nx : Nat → Int64} {rp K n : Nat} {al oT oP : Nat → Nat} {L : Nat} {r : Res} {σ : ST} (hn : 20 ≤ n) (hK : K < 7) (hT : TKs tk tv pl L) (hX : XTk tk tv pl xn L σ) (hN : NMx nx rp K σ) (htw : ∀ i, i ≤ L → tk i = 1 → (tw i = true ↔ ∃ j, j < K ∧ nx j = xn i)) (h : XRr Q pl K al oT oP L r σ) : ∃ σ' w, fX2_acceptNewName n σ = some (w, σ') ∧ fr [2, 3, 4, 5, 6] [] [] σ σ' ∧ XRr Q pl K al oT oP L (bS r (aNm tk tw)) σ' ∧ (∀ s s', r = .inr s → aNm tk tw s = .inr s' → w = xn s.1) := by
  have e256 : (256 : Int32) = nI (kx 1) := rfl
  cases r with
  | inl e =>
    have hF : XFl pl K e σ := h.1
    obtain ⟨t, t1, t2⟩ := hF.2.2.2.1
    refine ⟨σ, ldB σ 6 (nI t), ?_, fr_rf, ⟨h.1, fun s hs => (by cases hs)⟩, fun s s' hs => (by cases hs)⟩
    unfold fX2_acceptNewName
    rw [t2, if_pos (ix_nI (show t < 401 by omega) (by decide))]
    simp only [lt_def]
    rw [xPeekF hF, Option.bind_some, if_neg (show ¬ (259 : Int32) = 256 by decide), xAccF hF, Option.bind_some]
  | inr s =>
    have hS : XS Q pl K al oT oP L s σ := h.1
    have hL := hT.1
    have h3 := hS.2.2.1
    have i401 : ix (nI s.1) 401 := ix_nI (show s.1 < 401 by omega) (by decide)
    have hki := kx_inj (hT.2.2.1 _ h3).1 (show 1 < 29 by decide)
    have fin : ∀ (s0 : PS) (σ0 : ST) (w : Int64), XS Q pl K al oT oP L s0 σ0 → s0.2.2.2.2.1 < 9 → fr [5, 6] [] [] σ σ0 → (if tk s.1 = 1 ∧ tw s.1 = true then aNote 3 s else s) = s0 → (tk s.1 = 1 → w = xn s.1) → s0.1 = s.1 → ∃ σ' w', Option.bind (fX2_accept (nI (kx 1)) σ0) (fun q_6 => some (w, q_6)) = some (w', σ') ∧ fr [2, 3, 4, 5, 6] [] [] σ σ' ∧ XRr Q pl K al oT oP L (bS (.inr s) (aNm tk tw)) σ' ∧ (∀ s1 s', (Sum.inr s : Res) = .inr s1 → aNm tk tw s1 = .inr s' → w' = xn s1.1) := by
      intro s0 σ0 w hS0 h9 f0 hif hw ht
      obtain ⟨σ1, r1, r2, r3⟩ := xAccN (k := 1) hT (XTk_fr f0 hX (by decide) (by decide) (by decide)) hS0 (by decide) (by decide) (by decide)
      rw [r1, Option.bind_some]
      refine ⟨σ1, w, rfl, fr_tr (fr_up f0 (by decide) (by decide) (by decide)) (fr_up r2 (by decide) (by decide) (by decide)), ⟨?_, fun s' hs => ?_⟩, fun s1 s' e hs => ?_⟩
      · show XRs Q pl K al oT oP L (aNm tk tw s) σ1
        unfold aNm; rw [hif]; exact r3
      · have hs' : aNm tk tw s = .inr s' := hs
        unfold aNm at hs'
        rw [hif] at hs'
        rw [(aAcc_ok hs').2.2]; exact h9
      · obtain rfl := Sum.inr.inj e
        unfold aNm at hs
        rw [hif] at hs
        have := (aAcc_ok hs).1
        rw [ht] at this
        exact hw this
    unfold fX2_acceptNewName
    rw [hS.2.1, if_pos i401, ldB_nI _ 6 _ (by omega)]
    simp only [lt_def]
    rw [xPeekN hT hX hS, Option.bind_some, e256]
    by_cases c : tk s.1 = 1
    · rw [if_pos (hki.mpr c), (hX _ h3).2.2.2 c]
      obtain ⟨b, b1, b2⟩ := xTellsL (w := xn s.1) hN hK hS.2.2.2.2.2.1 K 0 n (by omega) (by omega)
      have htw' := htw s.1 h3 c
      have b1' : fX4_tells n (xn s.1) σ = some (b, σ) := b1
      rw [b1', Option.bind_some]
      by_cases z : tw s.1 = true
      · obtain ⟨j, j1, j2⟩ := htw'.mp z
        rw [if_neg (show ¬ b = 0 from fun q => (b2.mp q) ⟨j, Nat.zero_le j, j1, j2⟩)]
        obtain ⟨σ1, r1, r2, r3⟩ := xNoteN (e := 3) (by decide) (by decide) (h.2 s rfl) hT hX hS
        rw [show (3 : Int32) = nI 3 from rfl, r1, Option.bind_some]
        refine fin (aNote 3 s) σ1 (xn s.1) r3 ?_ r2 (by rw [if_pos ⟨c, z⟩]) (fun _ => rfl) (aNote_t 3 s)
        have := h.2 s rfl
        unfold aNote; split
        · show 3 < 9; omega
        · exact this
      · rw [if_pos (show b = 0 from b2.mpr (fun ⟨j, _, j1, j2⟩ => z (htw'.mpr ⟨j, j1, j2⟩)))]
        exact fin s σ (xn s.1) hS (h.2 s rfl) fr_rf (by rw [if_neg (fun q => z q.2)]) (fun _ => rfl) rfl
    · rw [if_neg (fun q => c (hki.mp q))]
      exact fin s σ _ hS (h.2 s rfl) fr_rf (by rw [if_neg (fun q => c q.1)]) (fun q => absurd q c) rfl
