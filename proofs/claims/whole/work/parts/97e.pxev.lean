/-! ===== PURE: read: the class reads an E ===== -/
def lkF (nx : Nat → Int64) (rp : Nat) (w : Int64) : Nat → Nat → Nat
  | _, 0 => 0
  | k, d + 1 => if nx k = w ∧ rp.testBit k = false then k + 1 else lkF nx rp w (k + 1) d
theorem lkF_le {nx : Nat → Int64} {rp : Nat} {w : Int64} : ∀ d k, lkF nx rp w k d ≤ k + d := by
  intro d
  induction d with
  | zero => intro k; exact Nat.zero_le _
  | succ d ih =>
    intro k
    rw [lkF]
    split
    · omega
    · have := ih (k + 1); omega
def NMx (nx : Nat → Int64) (rp K : Nat) (σ : ST) : Prop := (∀ k, k < K → gB σ 9 k = nx k) ∧ gI σ 8 = nI rp ∧ rp < 128
theorem NMx_fr {nx : Nat → Int64} {rp K : Nat} {I A B : List Nat} {σ σ' : ST} (f : fr I A B σ σ') (h : NMx nx rp K σ) (h8 : 8 ∉ I) (h9 : 9 ∉ B) : NMx nx rp K σ' := by
  unfold NMx at *
  rw [f.1 8 h8, f.2.2 9 h9]; exact h
theorem xPartL {nx : Nat → Int64} {rp K : Nat} {σ : ST} {w : Int64} (hN : NMx nx rp K σ) (hK : K < 7) (h7 : gI σ 7 = nI K) : ∀ d k n, k + d = K → d < n → fX4_partNamed_L2 n w (nI k) σ = some (enc (lkF nx rp w k d), σ) := by
  obtain ⟨n1, n2, n3⟩ := hN
  intro d
  induction d with
  | zero =>
    intro k n hk hn
    obtain ⟨m, rfl⟩ : ∃ m, n = m + 1 := ⟨n - 1, by omega⟩
    rw [fX4_partNamed_L2, h7, if_pos (nI_le (by omega) (by omega)), lkF]; rfl
  | succ d ih =>
    intro k n hk hn
    obtain ⟨m, rfl⟩ : ∃ m, n = m + 1 := ⟨n - 1, by omega⟩
    have hh := ih (k + 1) m (by omega) (by omega)
    rw [fX4_partNamed_L2, h7, if_neg (nI_ge (by omega) (by omega)), if_pos (ix_nI (show k < 7 by omega) (by decide)), ldB_nI _ 9 k (by omega), n1 k (by omega), n2, lkF]
    simp only [lt_def, nI_1]
    by_cases c1 : nx k = w
    · rw [if_pos ((lgc_eq _ _).mpr c1)]
      by_cases c2 : rp.testBit k = false
      · rw [if_pos ((bit_zero (by omega) (by omega)).mpr c2), if_pos ⟨c1, c2⟩]
        unfold enc; rw [if_neg (by omega), Nat.add_sub_cancel]
      · rw [if_neg (fun q => c2 ((bit_zero (by omega) (by omega)).mp q)), if_neg (fun z => c2 z.2)]
        exact hh
    · rw [if_neg (fun q => c1 ((lgc_eq _ _).mp q)), if_neg (fun z => c1 z.1)]
      exact hh
theorem xPrtF {pl : Nat → Nat} {K : Nat} {e : Nat × Nat} {σ : ST} (h : XFl pl K e σ) (hK : K < 7) (q : Nat) (hq : q ≤ K) : ∃ σ', fX4_addPart (enc q) σ = some σ' ∧ fr [9] [14, 15, 17, 18] [] σ σ' ∧ XFl pl K e σ' := by
  by_cases z : q = 0
  · rw [z]
    refine ⟨σ, ?_, fr_rf, h⟩
    unfold fX4_addPart
    rw [if_pos (show enc 0 < 0 by decide)]
  · have eq : enc q = nI (q - 1) := by unfold enc; rw [if_neg z]
    obtain ⟨c, c1, c2⟩ := h.2.2.2.2.2
    obtain ⟨σ', r1, r2, r3⟩ := xPrtAny (p := q - 1) h.2.2.2.2.1 hK (by omega) c2 c1
    rw [eq]
    exact ⟨σ', r1, r2, XFl_fr h (r2.1 2 (by decide)) (r2.1 3 (by decide)) (r2.1 4 (by decide)) (r2.1 7 (by decide)) r3⟩
theorem enc_neg : enc 0 = -1 := rfl
theorem xUName {Q : Prop} {tk tv pl lk : Nat → Nat} {xn nx : Nat → Int64} {rp K : Nat} {al oT oP : Nat → Nat} {L n : Nat} {s : PS} {σ : ST} (hn : 20 ≤ n) (hK : K < 7) (hal : ∀ p, p < K → al p < 64) (hlk : lk s.1 ≤ K) (hQ : Q → lkF nx rp (xn s.1) 0 K = lk s.1) (hsf : s.2.2.2.2.1 < 9) (hC : s.2.1.length ≤ s.1) (hT : TKs tk tv pl L) (hX : XTk tk tv pl xn L σ) (hN : NMx nx rp K σ) (h : XS Q pl K al oT oP L s σ) (hk : tk s.1 = 1) :
    ∃ σ', Option.bind (fX2_acceptPart n σ) (fun q_22 => Option.bind (fX4_addPart q_22.1 q_22.2) (fun q_23 => some q_23)) = some σ' ∧ fr [2, 3, 4, 5, 6, 9] [13, 14, 15, 17, 18] [] σ σ' ∧ ∀ r, (if lk s.1 = 0 then bO (some (aAcc tk 1 (aNote 4 s))) (fun s1 => some (.inr (aEm 0 0 s1))) else bO (some (aAcc tk 1 s)) (fun s1 => some (.inr (aEm 4 (lk s.1 - 1) (aPrt (lk s.1 - 1) s1))))) = some r → XRs Q pl K al oT oP L r σ' := by
  have hL := hT.1
  have h3 := h.2.2.1
  have i401 : ix (nI s.1) 401 := ix_nI (show s.1 < 401 by omega) (by decide)
  have e256 : (256 : Int32) = nI (kx 1) := rfl
  have hq := lkF_le (nx := nx) (rp := rp) (w := xn s.1) K 0
  have hpn : fX4_partNamed n (xn s.1) σ = some (enc (lkF nx rp (xn s.1) 0 K), σ) := xPartL hN hK h.2.2.2.2.2.1 K 0 n (by omega) (by omega)
  generalize hqq : lkF nx rp (xn s.1) 0 K = q at hq hQ hpn
  rw [Nat.zero_add] at hq
  unfold fX2_acceptPart
  rw [h.2.1, if_pos i401, ldB_nI _ 6 _ (by omega), (hX _ h3).2.2.2 hk, hpn, Option.bind_some]
  simp only [lt_def]
  -- s0: with the note or without
  have main : ∀ (s0 : PS) (σ0 : ST), s0.1 = s.1 → s0.2.1 = s.2.1 → XS Q pl K al oT oP L s0 σ0 → fr [5, 6] [] [] σ σ0 → (s0.2.2.2.2.1 = 0 → lk s.1 ≠ 0 ∧ q = lk s.1) → (lk s.1 = 0 → s0 = aNote 4 s) → (lk s.1 ≠ 0 → s0 = s) → ∃ σ', Option.bind (Option.bind (fX2_accept 256 σ0) (fun q_6 => some (enc q, q_6))) (fun q_22 => Option.bind (fX4_addPart q_22.1 q_22.2) (fun q_23 => some q_23)) = some σ' ∧ fr [2, 3, 4, 5, 6, 9] [13, 14, 15, 17, 18] [] σ σ' ∧ ∀ r, (if lk s.1 = 0 then bO (some (aAcc tk 1 (aNote 4 s))) (fun s1 => some (.inr (aEm 0 0 s1))) else bO (some (aAcc tk 1 s)) (fun s1 => some (.inr (aEm 4 (lk s.1 - 1) (aPrt (lk s.1 - 1) s1))))) = some r → XRs Q pl K al oT oP L r σ' := by
    intro s0 σ0 et ec hS0 f0 hcl hz hnz
    have hX0 := XTk_fr f0 hX (by decide) (by decide) (by decide)
    obtain ⟨σ1, r1, r2, r3⟩ := xAccN (k := 1) hT hX0 hS0 (by decide) (by decide) (by decide)
    rw [e256, r1, Option.bind_some, Option.bind_some]
    have f1 : fr [2, 3, 4, 5, 6, 9] [13, 14, 15, 17, 18] [] σ σ1 := fr_tr (fr_up f0 (by decide) (by decide) (by decide)) (fr_up r2 (by decide) (by decide) (by decide))
    have hr : ∀ r, (if lk s.1 = 0 then bO (some (aAcc tk 1 (aNote 4 s))) (fun s1 => some (.inr (aEm 0 0 s1))) else bO (some (aAcc tk 1 s)) (fun s1 => some (.inr (aEm 4 (lk s.1 - 1) (aPrt (lk s.1 - 1) s1))))) = some r → (∃ e, aAcc tk 1 s0 = .inl e ∧ r = .inl e) ∨ ∃ s1, aAcc tk 1 s0 = .inr s1 ∧ ((lk s.1 = 0 ∧ r = .inr (aEm 0 0 s1)) ∨ (lk s.1 ≠ 0 ∧ r = .inr (aEm 4 (lk s.1 - 1) (aPrt (lk s.1 - 1) s1)))) := by
      intro r hr
      by_cases z : lk s.1 = 0
      · rw [if_pos z, ← hz z] at hr
        rcases bO_some hr with ⟨e, h1, h2⟩ | ⟨s1, h1, h2⟩
        · exact Or.inl ⟨e, Option.some.inj h1, h2⟩
        · exact Or.inr ⟨s1, Option.some.inj h1, Or.inl ⟨z, (Option.some.inj h2).symm⟩⟩
      · have e0 := hnz z
        rw [if_neg z] at hr
        rw [e0]
        rcases bO_some hr with ⟨e, h1, h2⟩ | ⟨s1, h1, h2⟩
        · exact Or.inl ⟨e, Option.some.inj h1, h2⟩
        · exact Or.inr ⟨s1, Option.some.inj h1, Or.inr ⟨z, (Option.some.inj h2).symm⟩⟩
    cases hacc : aAcc tk 1 s0 with
    | inl e =>
      rw [hacc] at r3
      obtain ⟨σ2, u1, u2, u3⟩ := xPrtF r3 hK q hq
      show ∃ σ', Option.bind (fX4_addPart (enc q) σ1) (fun q_23 => some q_23) = some σ' ∧ _
      rw [u1, Option.bind_some]
      refine ⟨σ2, rfl, fr_tr f1 (fr_up u2 (by decide) (by decide) (by decide)), fun r hrr => ?_⟩
      rcases hr r hrr with ⟨e', h1, h2⟩ | ⟨s1, h1, -⟩
      · rw [hacc] at h1
        rw [h2, ← Sum.inl.inj h1]; exact u3
      · rw [hacc] at h1; cases h1
    | inr s1 =>
      rw [hacc] at r3
      have r3' : XS Q pl K al oT oP L s1 σ1 := r3
      obtain ⟨a1, a2, a3⟩ := aAcc_ok hacc
      have hs1 : s1.2 = s0.2 := by rw [a3]
      have ht1 : s1.1 = s.1 + 1 := by rw [a3, ← et]
      show ∃ σ', Option.bind (fX4_addPart (enc q) σ1) (fun q_23 => some q_23) = some σ' ∧ _
      by_cases cl : s0.2.2.2.2.1 = 0
      · obtain ⟨l1, l2⟩ := hcl cl
        have eq : enc q = nI (lk s.1 - 1) := by rw [l2]; unfold enc; rw [if_neg l1]
        have h1L := r3'.2.2.1
        obtain ⟨σ2, u1, u2, u3⟩ := xPrtN (p := lk s.1 - 1) hK (by omega) (hal _ (by omega)) (by rw [hs1, ec]; omega) r3'
        rw [eq, u1, Option.bind_some]
        refine ⟨σ2, rfl, fr_tr f1 (fr_up u2 (by decide) (by decide) (by decide)), fun r hrr => ?_⟩
        rcases hr r hrr with ⟨e', h1, -⟩ | ⟨s1', h1, h2 | h2⟩
        · rw [hacc] at h1; cases h1
        · exact absurd h2.1 l1
        · rw [hacc] at h1
          rw [h2.2, ← Sum.inr.inj h1]; exact u3
      · have hd1 : s1.2.2.2.2.1 ≠ 0 := by rw [hs1]; exact cl
        have any : ∀ σ2, fr [9] [14, 15, 17, 18] [] σ1 σ2 → (∃ c, c ≤ 400 ∧ gI σ2 9 = nI c) → ∀ r, (if lk s.1 = 0 then bO (some (aAcc tk 1 (aNote 4 s))) (fun s1 => some (.inr (aEm 0 0 s1))) else bO (some (aAcc tk 1 s)) (fun s1 => some (.inr (aEm 4 (lk s.1 - 1) (aPrt (lk s.1 - 1) s1))))) = some r → XRs Q pl K al oT oP L r σ2 := by
          intro σ2 f2 c9 r hrr
          rcases hr r hrr with ⟨e', h1, -⟩ | ⟨s1', h1, h2 | h2⟩
          · rw [hacc] at h1; cases h1
          · rw [hacc] at h1
            rw [h2.2, ← Sum.inr.inj h1]
            exact XS_dirty r3' hd1 rfl rfl (f2.1 2 (by decide)) (f2.1 4 (by decide)) (f2.1 5 (by decide)) (f2.1 6 (by decide)) (f2.1 7 (by decide)) c9
          · rw [hacc] at h1
            rw [h2.2, ← Sum.inr.inj h1]
            exact XS_dirty r3' hd1 rfl rfl (f2.1 2 (by decide)) (f2.1 4 (by decide)) (f2.1 5 (by decide)) (f2.1 6 (by decide)) (f2.1 7 (by decide)) c9
        obtain ⟨c, c1, c2, -⟩ := r3'.2.2.2.2.2.2
        by_cases z : q = 0
        · rw [z]
          refine ⟨σ1, ?_, f1, any σ1 fr_rf ⟨c, c1, c2⟩⟩
          unfold fX4_addPart
          rw [if_pos (show enc 0 < 0 by decide), Option.bind_some]
        · have eq : enc q = nI (q - 1) := by unfold enc; rw [if_neg z]
          obtain ⟨σ2, u1, u2, u3⟩ := xPrtAny (p := q - 1) r3'.2.2.2.2.2.1 hK (by omega) c2 c1
          rw [eq, u1, Option.bind_some]
          exact ⟨σ2, rfl, fr_tr f1 (fr_up u2 (by decide) (by decide) (by decide)), any σ2 u2 u3⟩
  by_cases cl : s.2.2.2.2.1 = 0
  · obtain ⟨c, c1, c2, c3⟩ := h.2.2.2.2.2.2
    have hQ' := hQ (c3 cl).1
    by_cases z : lk s.1 = 0
    · have q0 : q = 0 := by omega
      obtain ⟨σ1, r1, r2, r3⟩ := xNoteN (e := 4) (by decide) (by decide) hsf hT hX h
      rw [q0, if_pos enc_neg, show (4 : Int32) = nI 4 from rfl, r1, Option.bind_some]
      have := main (aNote 4 s) σ1 (aNote_t 4 s) (by unfold aNote; split <;> rfl) r3 r2 (fun y => by
        unfold aNote at y
        rw [if_pos cl] at y
        exact absurd y (by show ¬ 4 = 0; omega)) (fun _ => rfl) (fun y => absurd z y)
      rw [q0] at this
      exact this
    · have hne : ¬ enc q = -1 := by
        rw [hQ']; unfold enc; rw [if_neg z]; exact nI_ne_m1 (by omega)
      rw [if_neg hne]
      exact main s σ rfl rfl h fr_rf (fun _ => ⟨z, hQ'⟩) (fun y => absurd y z) (fun _ => rfl)
  · have en : aNote 4 s = s := by unfold aNote; rw [if_neg cl]
    by_cases z : q = 0
    · obtain ⟨σ1, r1, r2, r3⟩ := xNoteN (e := 4) (by decide) (by decide) hsf hT hX h
      rw [en] at r3
      rw [z, if_pos enc_neg, show (4 : Int32) = nI 4 from rfl, r1, Option.bind_some]
      have := main s σ1 rfl rfl r3 r2 (fun y => absurd y cl) (fun _ => en.symm) (fun _ => rfl)
      rw [z] at this
      exact this
    · have hne : ¬ enc q = -1 := by unfold enc; rw [if_neg z]; exact nI_ne_m1 (by omega)
      rw [if_neg hne]
      exact main s σ rfl rfl h fr_rf (fun y => absurd y cl) (fun _ => en.symm) (fun _ => rfl)
