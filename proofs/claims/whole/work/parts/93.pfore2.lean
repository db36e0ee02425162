/-! ===== PURE: the reference foresees: the loops ===== -/
theorem enc_m1 {p : Nat} (hp : p ≤ 7) : (enc p = -1) ↔ p = 0 := by
  unfold enc
  by_cases c : p = 0
  · rw [if_pos c]; exact iff_of_true rfl c
  · rw [if_neg c]; exact iff_of_false (nI_ne_m1 (by omega)) c
theorem mBegF {a : AS} {t h : Nat} {s : RS} {p W : Nat → Nat} {τ : ST} {r : List Nat} (hA : wfA 600 a) (hB : wfBg 0 0 a) (hM : MR a τ) (ht0 : cS a 3 + 1 ≤ t) (ht : t ≤ 399) (hh : h < cS a 4) (hrl : r.length = cS a 1) (hri : inK a r) (hrow : mRow r τ) (hI : RI a t s) (hF : MF a t s p W τ) (h48 : ∀ x, x < 6 → gA τ 48 x = nI (lnd a (cN a 10) x)) (h0 : p h = 0) (k171 : Int32 → Int32 → ST → Option ST) : ∀ d i n, i + d = cS a 1 → d + 150 < n →
    ((∀ q, i ≤ q → q < cS a 1 → rdyB a t s (r.getD q 0) = false) → fX11_foresees_L101 k171 n (nI t) (nI h) (nI i) τ = k171 (nI t) (nI h) τ) ∧ (∀ pp, i ≤ pp → pp < cS a 1 → rdyB a t s (r.getD pp 0) = true → (∀ q, i ≤ q → q < pp → rdyB a t s (r.getD q 0) = false) → ∃ τ', fX11_foresees_L101 k171 n (nI t) (nI h) (nI i) τ = k171 (nI t) (nI h) τ' ∧ fr [] [46, 47] [] τ τ' ∧ gA τ' 46 = upd (gA τ 46) h (nI (r.getD pp 0)) ∧ gA τ' 47 = upd (gA τ 47) (r.getD pp 0) 0) := by
  have hK := hB.1.1
  have hH := hB.2.1.2.2.1
  have h3 : h < 3 := by omega
  have i3 : ix (nI h) 3 := ix_nI h3 (by decide)
  obtain ⟨v, hv, s11, s8, sK, sC⟩ := hM.2.2.2.2.2.1
  have e46 : gA τ 46 h = -1 := by rw [hF.2.1 h h3, h0]; rfl
  intro d
  induction d with
  | zero =>
    intro i n hi hn
    obtain ⟨m, rfl⟩ : ∃ m, n = m + 1 := ⟨n - 1, by omega⟩
    refine ⟨fun _ => ?_, fun p h1 h2 => by omega⟩
    rw [fX11_foresees_L101, s11, if_pos (ix_nI hv (by decide)), ldA_nI _ 8 v (by omega), s8, if_pos (nI_le (by omega) (by omega))]
  | succ d ih =>
    intro i n hi hn
    obtain ⟨m, rfl⟩ : ∃ m, n = m + 1 := ⟨n - 1, by omega⟩
    obtain ⟨i1, i2⟩ := ih (i + 1) m (by omega) (by omega)
    have hiK : i < cS a 1 := by omega
    have i7 : ix (nI i) 7 := ix_nI (by omega) (by decide)
    have e44 := hrow i (by omega)
    have hkK : r.getD i 0 < cS a 1 := hri _ (getD_mem (by omega))
    have hmay := mMay (n := m) (by omega) hA hB hM ht0 ht hkK hI hF h48
    rw [fX11_foresees_L101, s11, if_pos (ix_nI hv (by decide)), ldA_nI _ 8 v (by omega), s8, if_neg (nI_ge hiK (by omega)), if_pos i3, ldA_nI _ 46 h (by omega), e46, if_pos rfl, if_pos i7, ldA_nI _ 44 i (by omega), e44, hmay, Option.bind_some]
    simp only [pif, if_pos i7, if_pos i3, lt_def, nI_1]
    by_cases c : rdyB a t s (r.getD i 0) = true
    · rw [if_pos c]
      refine ⟨fun z => absurd ((z i (Nat.le_refl i) hiK).symm.trans c) (by decide), fun pp h1 h2 h3' h4 => ?_⟩
      have ep : pp = i := by
        rcases Nat.lt_or_ge i pp with z | z
        · rw [h4 i (Nat.le_refl i) z] at c; cases c
        · omega
      subst ep
      rw [ldA_nI τ 44 pp (by omega), e44, stA_nI τ 46 h _ (by omega), ldA_nI _ 44 pp (by omega), gA_sA, if_neg (show ¬ (44 = 46) by decide), e44, if_pos (ix_nI (show r.getD pp 0 < 7 by omega) (by decide)), stA_nI _ 47 _ _ (by omega)]
      generalize hs1 : sA (sA τ 46 (upd (gA τ 46) h (nI (r.getD pp 0)))) 47 (upd (gA (sA τ 46 (upd (gA τ 46) h (nI (r.getD pp 0)))) 47) (r.getD pp 0) 0) = τ1
      have f1 : fr [] [46, 47] [] τ τ1 := by rw [← hs1]; exact fr_sA (fr_sA fr_rf (by decide)) (by decide)
      have g46 : gA τ1 46 = upd (gA τ 46) h (nI (r.getD pp 0)) := by rw [← hs1]; rfl
      have g47 : gA τ1 47 = upd (gA τ 47) (r.getD pp 0) 0 := by rw [← hs1]; rfl
      refine ⟨τ1, ?_, f1, g46, g47⟩
      obtain ⟨m', rfl⟩ : ∃ m', m = m' + 1 := ⟨m - 1, by omega⟩
      rw [fX11_foresees_L101, f1.1 11 (by decide), s11, if_pos (ix_nI hv (by decide)), ldA_nI _ 8 v (by omega), f1.2.1 8 (by decide), s8]
      by_cases z : nI (cS a 1) ≤ nI (pp + 1)
      · rw [if_pos z]
      · rw [if_neg z, if_pos i3, ldA_nI _ 46 h (by omega), g46, upd_at, if_pos rfl, if_neg (nI_ne_m1 (by omega))]
    · rw [if_neg c]
      refine ⟨fun z => i1 (fun q h1 h2 => z q (by omega) h2), fun p h1 h2 h3 h4 => i2 p ?_ h2 h3 (fun q z1 z2 => h4 q (by omega) z2)⟩
      rcases Nat.lt_or_ge i p with y | y
      · exact y
      · rw [show p = i by omega] at h3; exact absurd h3 c
theorem mBegSk {a : AS} {t h n : Nat} {s : RS} {p W : Nat → Nat} {τ : ST} (hn : 1 ≤ n) (hB : wfBg 0 0 a) (hM : MR a τ) (hh : h < cS a 4) (hF : MF a t s p W τ) (h0 : p h ≠ 0) (k171 : Int32 → Int32 → ST → Option ST) : fX11_foresees_L101 k171 n (nI t) (nI h) (nI 0) τ = k171 (nI t) (nI h) τ := by
  have hK := hB.1.1
  have hH := hB.2.1.2.2.1
  have h3 : h < 3 := by omega
  obtain ⟨m, rfl⟩ : ∃ m, n = m + 1 := ⟨n - 1, by omega⟩
  obtain ⟨v, hv, s11, s8, sK, sC⟩ := hM.2.2.2.2.2.1
  have := MF_le hH hF h h3
  rw [fX11_foresees_L101, s11, if_pos (ix_nI hv (by decide)), ldA_nI _ 8 v (by omega), s8]
  by_cases z : nI (cS a 1) ≤ nI 0
  · rw [if_pos z]
  · rw [if_neg z, if_pos (ix_nI h3 (by decide)), ldA_nI _ 46 h (by omega), hF.2.1 h h3, if_neg (fun q => h0 ((enc_m1 (by omega)).mp q))]
theorem mHosL {a : AS} {r : List Nat} {t : Nat} {S : RS} (hA : wfA 600 a) (hB : wfBg 0 0 a) (ht0 : cS a 3 + 1 ≤ t) (ht : t ≤ 399) (hrl : r.length = cS a 1) (hri : inK a r) (hS : RI a t S) (k177 : Int32 → ST → Option ST) : ∀ d h n τ p W, h + d = cS a 4 → d + 200 < n → MR a τ → mRow r τ → (∀ x, x < 6 → gA τ 48 x = nI (lnd a (cN a 10) x)) → MF a t (hosS a r t h S) p W τ →
    ∃ τ' p' W', fX11_foresees_L91 k177 n (nI t) (nI h) τ = k177 (nI t) τ' ∧ fr [] [46, 47] [] τ τ' ∧ MF a t (hosS a r t (cS a 4) S) p' W' τ' := by
  have hK := hB.1.1
  have hH := hB.2.1.2.2.1
  have hs := hs_of hB
  intro d
  induction d with
  | zero =>
    intro h n τ p W hh hn hM hrow h48 hF
    obtain ⟨m, rfl⟩ : ∃ m, n = m + 1 := ⟨n - 1, by omega⟩
    have : h = cS a 4 := by omega
    subst this
    exact ⟨τ, p, W, by rw [fX11_foresees_L91, hM.2.2.2.2.2.2.1.2.1, if_pos (nI_le (Nat.le_refl _) (by omega))], fr_rf, hF⟩
  | succ d ih =>
    intro h n τ p W hh hn hM hrow h48 hF
    obtain ⟨m, rfl⟩ : ∃ m, n = m + 1 := ⟨n - 1, by omega⟩
    have hI := RI_hos hs hri ht hS h (by omega)
    have hstep : hosS a r t (h + 1) S = begS a r t h (hosS a r t h S) := rfl
    rw [fX11_foresees_L91, hM.2.2.2.2.2.2.1.2.1, if_neg (nI_ge (by omega) (by omega))]
    simp only [lt_def]
    by_cases h0 : p h = 0
    · have hf := (hF.2.2.2.1 h (by omega)).mp h0
      obtain ⟨b1, b2⟩ := mBegF hA hB hM ht0 ht (by omega) hrl hri hrow hI hF h48 h0 (fun (x1_40 : Int32) (x2_41 : Int32) (σ_42 : ST) => (fX11_foresees_L91 k177 m x1_40 (x2_41 + 1) σ_42)) (cS a 1) 0 m (by omega) (by omega)
      rcases leastP (fun i => rdyB a t (hosS a r t h S) (r.getD i 0) = true) (cS a 1) with hno | ⟨pp, p1, p2, p3⟩
      · have hno' : ∀ j, j < r.length → rdyB a t (hosS a r t h S) (r.getD j 0) = false := fun j hj => by simpa using hno j (by omega)
        have hb : begS a r t h (hosS a r t h S) = hosS a r t h S := by unfold begS; rw [if_pos hf, find_no hno']
        rw [show (0 : Int32) = nI 0 from rfl, b1 (fun q _ hq => hno' q (by omega)), nI_1]
        exact ih (h + 1) m τ p W (by omega) (by omega) hM hrow h48 (by rw [hstep, hb]; exact hF)
      · have p3' : ∀ j, j < pp → rdyB a t (hosS a r t h S) (r.getD j 0) = false := fun j hj => by simpa using p3 j hj
        have hb : begS a r t h (hosS a r t h S) = putS a t h (r.getD pp 0) (hosS a r t h S) := by unfold begS; rw [if_pos hf, find_idx r pp (by omega) p2 p3']
        obtain ⟨τ1, c1, c2, c3, c4⟩ := b2 pp (Nat.zero_le _) p1 p2 (fun q _ hq => p3' q hq)
        rw [show (0 : Int32) = nI 0 from rfl, c1, nI_1]
        have hkK : r.getD pp 0 < cS a 1 := hri _ (getD_mem (by omega))
        have hF1 := MF_put (τ' := τ1) hB (by omega) hkK ht hI p2 hf hF (c2.2.1 45 (by decide)) c3 c4
        obtain ⟨τ', p', W', d1, d2, d3⟩ := ih (h + 1) m τ1 _ _ (by omega) (by omega) (MR_fo (fr_up c2 (by decide) (by decide) (by decide)) hM) (fun i hi => by rw [c2.2.1 44 (by decide)]; exact hrow i hi) (fun x hx => by rw [c2.2.1 48 (by decide)]; exact h48 x hx) (by rw [hstep, hb]; exact hF1)
        exact ⟨τ', p', W', d1, fr_tr c2 d2, d3⟩
    · have hf : ¬ (hosS a r t h S).2.1 h ≤ t := fun z => h0 ((hF.2.2.2.1 h (by omega)).mpr z)
      have hb : begS a r t h (hosS a r t h S) = hosS a r t h S := begS_no (fun z => absurd z hf)
      rw [show (0 : Int32) = nI 0 from rfl, mBegSk (by omega) hB hM (by omega) hF h0, nI_1]
      exact ih (h + 1) m τ p W (by omega) (by omega) hM hrow h48 (by rw [hstep, hb]; exact hF)
theorem mBusy {H t : Nat} {p : Nat → Nat} {τ : ST} (hH : H ≤ 3) (h19 : gI τ 19 = nI H) (h46 : ∀ h, h < 3 → gA τ 46 h = enc (p h)) (hp : ∀ h, h < 3 → p h ≤ 7) (k215 : Int32 → Int32 → ST → Option ST) : ∀ d h n, h + d = H → d < n →
    (fX11_foresees_L181 k215 n (nI t) 1 (nI h) τ = k215 (nI t) 1 τ) ∧ ((∃ q, h ≤ q ∧ q < H ∧ p q ≠ 0) → fX11_foresees_L181 k215 n (nI t) 0 (nI h) τ = k215 (nI t) 1 τ) ∧ ((¬ ∃ q, h ≤ q ∧ q < H ∧ p q ≠ 0) → fX11_foresees_L181 k215 n (nI t) 0 (nI h) τ = k215 (nI t) 0 τ) := by
  intro d
  induction d with
  | zero =>
    intro h n hh hn
    obtain ⟨m, rfl⟩ : ∃ m, n = m + 1 := ⟨n - 1, by omega⟩
    have e : ∀ b, fX11_foresees_L181 k215 (m + 1) (nI t) b (nI h) τ = k215 (nI t) b τ := fun b => by rw [fX11_foresees_L181, h19, if_pos (nI_le (by omega) (by omega))]
    exact ⟨e 1, fun ⟨q, h1, h2, _⟩ => by omega, fun _ => e 0⟩
  | succ d ih =>
    intro h n hh hn
    obtain ⟨m, rfl⟩ : ∃ m, n = m + 1 := ⟨n - 1, by omega⟩
    obtain ⟨i1, i2, i3⟩ := ih (h + 1) m (by omega) (by omega)
    have h3 : h < 3 := by omega
    have hc := enc_m1 (hp h h3)
    rw [fX11_foresees_L181, h19, if_neg (nI_ge (by omega) (by omega)), if_neg one_ne, fX11_foresees_L181, h19, if_neg (nI_ge (by omega) (by omega)), if_pos rfl, if_pos (ix_nI h3 (by decide)), ldA_nI _ 46 h (by omega), h46 h h3]
    simp only [lt_def, nI_1]
    refine ⟨i1, ?_⟩
    by_cases c : p h = 0
    · rw [if_pos (hc.mpr c)]
      refine ⟨fun ⟨q, h1, h2, h4⟩ => i2 ⟨q, ?_, h2, h4⟩, fun z => i3 (fun ⟨q, h1, h2, h4⟩ => z ⟨q, by omega, h2, h4⟩)⟩
      rcases Nat.lt_or_ge h q with y | y
      · exact y
      · rw [show q = h by omega] at h4; exact absurd c h4
    · rw [if_neg (fun q => c (hc.mp q))]
      exact ⟨fun _ => i1, fun z => absurd ⟨h, Nat.le_refl _, by omega, c⟩ z⟩
/-- the hosts work for a tick -/
def pWo (t : Nat) (s : RS) (p : Nat → Nat) (h : Nat) : Nat → Nat := fun q => if q < h ∧ p q ≠ 0 ∧ s.1 (p q - 1) = t then 0 else p q
def MW (a : AS) (t : Nat) (s : RS) (p W : Nat → Nat) (h : Nat) (τ : ST) : Prop :=
  (∀ k, k < cS a 1 → ((s.1 k < t ∨ ∃ q, q < h ∧ p q = k + 1 ∧ s.1 k = t) → gA τ 45 k = nI (s.1 k)) ∧ (¬ (s.1 k < t ∨ ∃ q, q < h ∧ p q = k + 1 ∧ s.1 k = t) → gA τ 45 k = -1)) ∧
  (∀ q, q < 3 → gA τ 46 q = enc (pWo t s p h q)) ∧ (∀ q, q < cS a 4 → p q ≠ 0 → gA τ 47 (p q - 1) = nI (W (p q - 1) + if q < h then 1 else 0))
theorem mWkL {a : AS} {t : Nat} {s : RS} {p W : Nat → Nat} {τ0 : ST} (hB : wfBg 0 0 a) (ht : t ≤ 399) (hF : MF a t s p W τ0) (k317 : Int32 → ST → Option ST) : ∀ d h n τ, h + d = cS a 4 → d < n → MR a τ → MW a t s p W h τ → ∃ τ', fX11_foresees_L232 k317 n (nI t) (nI h) τ = k317 (nI t) τ' ∧ fr [] [45, 46, 47] [] τ τ' ∧ MW a t s p W (cS a 4) τ' := by
  have hK := hB.1.1
  have hH := hB.2.1.2.2.1
  obtain ⟨f45, f46, f0, fz, fp, fd, fj⟩ := id hF
  intro d
  induction d with
  | zero =>
    intro h n τ hh hn hM hW
    obtain ⟨m, rfl⟩ : ∃ m, n = m + 1 := ⟨n - 1, by omega⟩
    have : h = cS a 4 := by omega
    subst this
    exact ⟨τ, by rw [fX11_foresees_L232, hM.2.2.2.2.2.2.1.2.1, if_pos (nI_le (Nat.le_refl _) (by omega))], fr_rf, hW⟩
  | succ d ih =>
    intro h n τ hh hn hM hW
    obtain ⟨m, rfl⟩ : ∃ m, n = m + 1 := ⟨n - 1, by omega⟩
    have hhH : h < cS a 4 := by omega
    have h3 : h < 3 := by omega
    have i3 : ix (nI h) 3 := ix_nI h3 (by decide)
    obtain ⟨w1, w2, w3⟩ := hW
    have e46 : gA τ 46 h = enc (p h) := by
      rw [w2 h h3]; unfold pWo; rw [if_neg (by omega)]
    have hp7 := Nat.le_trans (MF_le hH hF h h3) hK
    rw [fX11_foresees_L232, hM.2.2.2.2.2.2.1.2.1, if_neg (nI_ge hhH (by omega)), if_pos i3, ldA_nI _ 46 h (by omega), e46]
    simp only [lt_def]
    by_cases c : p h = 0
    · rw [if_pos ((enc_m1 hp7).mpr c), nI_1]
      refine ih (h + 1) m τ (by omega) (by omega) hM ⟨fun k hk => ?_, fun q hq => ?_, fun q hq hz => ?_⟩
      · have hiff : (s.1 k < t ∨ ∃ q, q < h + 1 ∧ p q = k + 1 ∧ s.1 k = t) ↔ (s.1 k < t ∨ ∃ q, q < h ∧ p q = k + 1 ∧ s.1 k = t) := by
          constructor
          · rintro (z | ⟨q, q1, q2, q3⟩)
            · exact Or.inl z
            · refine Or.inr ⟨q, ?_, q2, q3⟩
              rcases Nat.lt_or_ge q h with y | y
              · exact y
              · rw [show q = h by omega, c] at q2; omega
          · rintro (z | ⟨q, q1, q2, q3⟩)
            · exact Or.inl z
            · exact Or.inr ⟨q, by omega, q2, q3⟩
        rw [hiff]; exact w1 k hk
      · rw [w2 q hq]
        unfold pWo
        by_cases e : q = h
        · rw [e, c]; simp
        · have : (q < h + 1) = (q < h) := by apply propext; omega
          simp only [this]
      · rw [w3 q hq hz]
        have : q ≠ h := fun e => hz (by rw [e]; exact c)
        by_cases y : q < h
        · rw [if_pos y, if_pos (by omega)]
        · rw [if_neg y, if_neg (by omega)]
    · obtain ⟨g1, g2, g3, g4, g5, g6⟩ := fp h hhH c
      have e47 := w3 h hhH c
      rw [if_neg (by omega), Nat.add_zero] at e47
      have henc : enc (p h) = nI (p h - 1) := by unfold enc; rw [if_neg c]
      obtain ⟨k, hk⟩ : ∃ k, p h = k + 1 := ⟨p h - 1, by omega⟩
      rw [hk, Nat.add_sub_cancel] at g2 g3 g4 g5 g6 e47 henc
      have hkK : k < cS a 1 := by omega
      have bt := hB.1.2.2.2 k hkK
      have i7 : ix (nI k) 7 := ix_nI (by omega) (by decide)
      have hft : t < s.2.1 h := by
        rcases Nat.lt_or_ge t (s.2.1 h) with z | z
        · exact z
        · exact absurd ((fz h hhH).mpr z) c
      obtain ⟨v, hv, s11, s8, sK, sC⟩ := hM.2.2.2.2.2.1
      have e11 := (sK k hkK).2.1
      rw [hk, henc, if_neg (nI_ne_m1 (by omega)), if_pos i7, if_pos i7, ldA_nI _ 47 k (by omega), e47, nI_1, stA_nI τ 47 k _ (by omega), gI_sA, s11, m7, if_pos i7, if_pos (ix_nI (show 7 * v + k < 14 by omega) (by decide)), ldA_nI _ 11 _ (by omega), ldA_nI _ 47 k (by omega), gA_sA, if_neg (show ¬ (11 = 47) by decide), gA_sA, if_pos rfl, upd_at, if_pos rfl, e11]
      have dist : ∀ q, q < cS a 4 → p q = k + 1 → q = h := fun q hq e => fd q h (by omega) h3 (by omega) (by omega)
      by_cases z : cN a 0 k ≤ W k + 1
      · have hst : s.1 k = t := by omega
        rw [if_pos (nI_le z (by omega)), if_pos i3, if_pos i7, stA_nI _ 46 h _ (by omega), stA_nI _ 45 k _ (by omega), nI_1]
        generalize hs1 : sA (sA (sA τ 47 (upd (gA τ 47) k (nI (W k + 1)))) 46 (upd (gA (sA τ 47 (upd (gA τ 47) k (nI (W k + 1)))) 46) h (-1))) 45 (upd (gA (sA (sA τ 47 (upd (gA τ 47) k (nI (W k + 1)))) 46 (upd (gA (sA τ 47 (upd (gA τ 47) k (nI (W k + 1)))) 46) h (-1))) 45) k (nI t)) = τ1
        have f1 : fr [] [45, 46, 47] [] τ τ1 := by rw [← hs1]; exact fr_sA (fr_sA (fr_sA fr_rf (by decide)) (by decide)) (by decide)
        have k45 : gA τ1 45 = upd (gA τ 45) k (nI t) := by rw [← hs1]; rfl
        have k46 : gA τ1 46 = upd (gA τ 46) h (-1) := by rw [← hs1]; rfl
        have k47 : gA τ1 47 = upd (gA τ 47) k (nI (W k + 1)) := by rw [← hs1]; rfl
        clear hs1
        suffices hMW : MW a t s p W (h + 1) τ1 by
          obtain ⟨τ', r1, r2, r3⟩ := ih (h + 1) m τ1 (by omega) (by omega) (MR_fo (fr_up f1 (by decide) (by decide) (by decide)) hM) hMW
          exact ⟨τ', r1, fr_tr f1 r2, r3⟩
        refine ⟨fun j hj => ?_, fun q hq => ?_, fun q hq hz => ?_⟩
        · rw [k45, upd_at]
          by_cases e : j = k
          · rw [if_pos e, e, hst]
            exact ⟨fun _ => rfl, fun y => absurd (Or.inr ⟨h, by omega, hk, rfl⟩) y⟩
          · rw [if_neg e]
            have hiff : (s.1 j < t ∨ ∃ q, q < h + 1 ∧ p q = j + 1 ∧ s.1 j = t) ↔ (s.1 j < t ∨ ∃ q, q < h ∧ p q = j + 1 ∧ s.1 j = t) := by
              constructor
              · rintro (z | ⟨q, q1, q2, q3⟩)
                · exact Or.inl z
                · refine Or.inr ⟨q, ?_, q2, q3⟩
                  rcases Nat.lt_or_ge q h with y | y
                  · exact y
                  · rw [show q = h by omega, hk] at q2; omega
              · rintro (z | ⟨q, q1, q2, q3⟩)
                · exact Or.inl z
                · exact Or.inr ⟨q, by omega, q2, q3⟩
            rw [hiff]; exact w1 j hj
        · rw [k46, upd_at]
          by_cases e : q = h
          · rw [if_pos e, e]
            unfold pWo
            rw [if_pos ⟨by omega, by omega, by rw [hk, Nat.add_sub_cancel]; exact hst⟩]; rfl
          · rw [if_neg e, w2 q hq]
            unfold pWo
            have : (q < h + 1) = (q < h) := by apply propext; omega
            simp only [this]
        · rw [k47, upd_at]
          by_cases e : q = h
          · rw [e, hk, Nat.add_sub_cancel, if_pos rfl, if_pos (by omega)]
          · have hne : p q - 1 ≠ k := fun y => e (dist q hq (by omega))
            rw [if_neg hne, w3 q hq hz]
            by_cases y : q < h
            · rw [if_pos y, if_pos (by omega)]
            · rw [if_neg y, if_neg (by omega)]
      · have hst : s.1 k ≠ t := by omega
        rw [if_neg (nI_ge (by omega) (by omega)), nI_1]
        have f1 : fr [] [45, 46, 47] [] τ (sA τ 47 (upd (gA τ 47) k (nI (W k + 1)))) := fr_sA fr_rf (by decide)
        suffices hMW : MW a t s p W (h + 1) (sA τ 47 (upd (gA τ 47) k (nI (W k + 1)))) by
          obtain ⟨τ', r1, r2, r3⟩ := ih (h + 1) m (sA τ 47 (upd (gA τ 47) k (nI (W k + 1)))) (by omega) (by omega) hM hMW
          exact ⟨τ', r1, fr_tr f1 r2, r3⟩
        refine ⟨fun j hj => ?_, fun q hq => ?_, fun q hq hz => ?_⟩
        · have hiff : (s.1 j < t ∨ ∃ q, q < h + 1 ∧ p q = j + 1 ∧ s.1 j = t) ↔ (s.1 j < t ∨ ∃ q, q < h ∧ p q = j + 1 ∧ s.1 j = t) := by
            constructor
            · rintro (z | ⟨q, q1, q2, q3⟩)
              · exact Or.inl z
              · refine Or.inr ⟨q, ?_, q2, q3⟩
                rcases Nat.lt_or_ge q h with y | y
                · exact y
                · rw [show q = h by omega, hk] at q2
                  have : j = k := by omega
                  rw [this] at q3; exact absurd q3 hst
            · rintro (z | ⟨q, q1, q2, q3⟩)
              · exact Or.inl z
              · exact Or.inr ⟨q, by omega, q2, q3⟩
          rw [hiff]; exact w1 j hj
        · show gA τ 46 q = _
          rw [w2 q hq]
          unfold pWo
          by_cases e : q = h
          · rw [e, hk, Nat.add_sub_cancel, if_neg (by omega), if_neg (by omega)]
          · have : (q < h + 1) = (q < h) := by apply propext; omega
            simp only [this]
        · show upd (gA τ 47) k (nI (W k + 1)) (p q - 1) = _
          rw [upd_at]
          by_cases e : q = h
          · rw [e, hk, Nat.add_sub_cancel, if_pos rfl, if_pos (by omega)]
          · have hne : p q - 1 ≠ k := fun y => e (dist q hq (by omega))
            rw [if_neg hne, w3 q hq hz]
            by_cases y : q < h
            · rw [if_pos y, if_pos (by omega)]
            · rw [if_neg y, if_neg (by omega)]
theorem MW_0 {a : AS} {t : Nat} {s : RS} {p W : Nat → Nat} {τ : ST} (hF : MF a t s p W τ) : MW a t s p W 0 τ := by
  obtain ⟨f45, f46, f0, fz, fp, fd, fj⟩ := hF
  refine ⟨fun k hk => ⟨fun z => ?_, fun z => ?_⟩, fun q hq => ?_, fun q hq hz => ?_⟩
  · rcases z with z | ⟨q, q1, -⟩
    · rw [f45 k hk, if_pos z]
    · omega
  · rw [f45 k hk, if_neg (fun y => z (Or.inl y))]
  · rw [f46 q hq]; unfold pWo; rw [if_neg (by omega)]
  · rw [(fp q hq hz).2.2.2.1, if_neg (by omega), Nat.add_zero]
theorem MW_end {a : AS} {t : Nat} {s : RS} {p W : Nat → Nat} {τ0 τ : ST} (hB : wfBg 0 0 a) (ht : t ≤ 399) (hI : RI a t s) (hF : MF a t s p W τ0) (hW : MW a t s p W (cS a 4) τ) : MF a (t + 1) s (pWo t s p (cS a 4)) (fun k => W k + 1) τ := by
  obtain ⟨f45, f46, f0, fz, fp, fd, fj⟩ := hF
  obtain ⟨w1, w2, w3⟩ := hW
  have hge : ∀ h, h < cS a 4 → p h ≠ 0 → t ≤ s.1 (p h - 1) := fun h hh hz => by
    have g := fp h hh hz
    rcases Nat.lt_or_ge t (s.2.1 h) with z | z
    · omega
    · exact absurd ((fz h hh).mpr z) hz
  have nz : ∀ q, pWo t s p (cS a 4) q ≠ 0 → p q ≠ 0 ∧ pWo t s p (cS a 4) q = p q ∧ (q < cS a 4 → s.1 (p q - 1) ≠ t) := fun q hz => by
    unfold pWo at hz ⊢
    by_cases c : q < cS a 4 ∧ p q ≠ 0 ∧ s.1 (p q - 1) = t
    · rw [if_pos c] at hz; exact absurd rfl hz
    · rw [if_neg c] at hz ⊢
      exact ⟨hz, rfl, fun z e => c ⟨z, hz, e⟩⟩
  refine ⟨fun k hk => ?_, w2, fun q hq hz => ?_, fun q hq => ?_, fun q hq hz => ?_, fun q q' hq hq' hz he => ?_, fun k hk hst hte => ?_⟩
  · have hw := w1 k hk
    by_cases c : s.1 k < t + 1
    · rw [if_pos c]
      apply hw.1
      rcases Nat.lt_or_ge (s.1 k) t with z | z
      · exact Or.inl z
      · right
        have hst : strt a s k := by
          cases c1 : waitB a k
          · exact Or.inl c1
          · cases c2 : s.2.2.testBit k
            · have := hI.2.1 k hk c1 c2; omega
            · exact Or.inr c2
        obtain ⟨h, h1, h2⟩ := fj k hk hst z
        exact ⟨h, h1, h2, by omega⟩
    · rw [if_neg c]
      apply hw.2
      rintro (z | ⟨q, q1, q2, q3⟩) <;> omega
  · unfold pWo; rw [if_neg (by omega)]; exact f0 q hq hz
  · unfold pWo
    by_cases c : q < cS a 4 ∧ p q ≠ 0 ∧ s.1 (p q - 1) = t
    · rw [if_pos c]
      have g := fp q hq c.2.1
      refine iff_of_true rfl ?_
      rw [g.2.1, c.2.2]; exact Nat.le_refl _
    · rw [if_neg c]
      by_cases e : p q = 0
      · have := (fz q hq).mp e
        exact iff_of_true e (by omega)
      · have g := fp q hq e
        have := hge q hq e
        refine iff_of_false e ?_
        have : s.1 (p q - 1) ≠ t := fun y => c ⟨hq, e, y⟩
        omega
  · obtain ⟨n1, n2, n3⟩ := nz q hz
    rw [n2]
    obtain ⟨g1, g2, g3, g4, g5, g6⟩ := fp q hq n1
    have n3' := n3 hq
    have e47 := w3 q hq n1
    rw [if_pos hq] at e47
    refine ⟨g1, g2, g3, e47, ?_, ?_⟩
    · show W (p q - 1) + 1 < cN a 0 (p q - 1)
      omega
    · show s.1 (p q - 1) = min 400 (t + 1 + cN a 0 (p q - 1) - (W (p q - 1) + 1) - 1)
      omega
  · obtain ⟨n1, n2, -⟩ := nz q hz
    have hz' : pWo t s p (cS a 4) q' ≠ 0 := by rw [← he]; exact hz
    obtain ⟨m1, m2, -⟩ := nz q' hz'
    exact fd q q' hq hq' n1 (by rw [← n2, ← m2, he])
  · obtain ⟨q, q1, q2⟩ := fj k hk hst (by omega)
    refine ⟨q, q1, ?_⟩
    unfold pWo
    rw [if_neg, q2]
    rintro ⟨-, -, y⟩
    rw [q2, Nat.add_sub_cancel] at y; omega
theorem MF_idle {a : AS} {t u : Nat} {s : RS} {p W : Nat → Nat} {τ : ST} (hI : RI a t s) (htu : t ≤ u) (hu : u ≤ 400) (hno : ∀ q, q < cS a 4 → p q = 0) (hF : MF a t s p W τ) : MF a u s p W τ := by
  obtain ⟨f45, f46, f0, fz, fp, fd, fj⟩ := hF
  have hst : ∀ k, k < cS a 1 → strt a s k → s.1 k < t := fun k hk z => by
    rcases Nat.lt_or_ge (s.1 k) t with y | y
    · exact y
    · obtain ⟨q, q1, q2⟩ := fj k hk z y
      rw [hno q q1] at q2; omega
  refine ⟨fun k hk => ?_, f46, f0, fun q hq => ?_, fun q hq hz => absurd (hno q hq) hz, fd, fun k hk z hte => ?_⟩
  · rw [f45 k hk]
    by_cases c : s.1 k < t
    · rw [if_pos c, if_pos (by omega)]
    · rw [if_neg c, if_neg]
      intro y
      cases c1 : waitB a k
      · exact c (hst k hk (Or.inl c1))
      · cases c2 : s.2.2.testBit k
        · have := hI.2.1 k hk c1 c2; omega
        · exact c (hst k hk (Or.inr c2))
  · have := (fz q hq).mp (hno q hq)
    exact iff_of_true (hno q hq) (by omega)
  · have := hst k hk z; omega
theorem mBehind {ld : Nat → Nat} {t : Nat} {τ : ST} (ht : t ≤ 399) (h48 : ∀ x, x < 6 → gA τ 48 x = nI (ld x)) (hl : ∀ x, x < 6 → ld x ≤ 400) : ∀ d x n v, x + d = 6 → d < n → t < v → v ≤ 401 → (∀ q, q < x → t < ld q → v ≤ ld q) → ∃ v', fX11_landsBehind_L6 n (nI t) (nI v) (nI x) τ = some (nI v', τ) ∧ t < v' ∧ v' ≤ 401 ∧ ∀ q, q < 6 → t < ld q → v' ≤ ld q := by
  intro d
  induction d with
  | zero =>
    intro x n v hx hn h1 h2 h3
    obtain ⟨m, rfl⟩ : ∃ m, n = m + 1 := ⟨n - 1, by omega⟩
    have : x = 6 := by omega
    subst this
    exact ⟨v, by rw [fX11_landsBehind_L6, if_pos (show (6 : Int32) ≤ nI 6 by decide)], h1, h2, h3⟩
  | succ d ih =>
    intro x n v hx hn h1 h2 h3
    obtain ⟨m, rfl⟩ : ∃ m, n = m + 1 := ⟨n - 1, by omega⟩
    have hx6 : x < 6 := by omega
    have i6 : ix (nI x) 6 := ix_nI hx6 (by decide)
    have hlx := hl x hx6
    rw [fX11_landsBehind_L6, if_neg (show ¬ (6 : Int32) ≤ nI x from nI_ge hx6 (by decide)), if_pos i6, ldA_nI _ 48 x (by omega), h48 x hx6]
    simp only [lt_def, if_pos i6, nI_1]
    by_cases c : ld x ≤ t
    · rw [if_pos (nI_le c (by omega))]
      exact ih (x + 1) m v (by omega) (by omega) h1 h2 (fun q hq hf => by
        rcases Nat.lt_or_ge q x with z | z
        · exact h3 q z hf
        · rw [show q = x by omega] at hf; omega)
    · rw [if_neg (nI_ge (by omega) (by omega))]
      by_cases e : v ≤ ld x
      · rw [if_pos (nI_le e (by omega))]
        exact ih (x + 1) m v (by omega) (by omega) h1 h2 (fun q hq hf => by
          rcases Nat.lt_or_ge q x with z | z
          · exact h3 q z hf
          · rw [show q = x by omega]; exact e)
      · rw [if_neg (nI_ge (by omega) (by omega))]
        exact ih (x + 1) m (ld x) (by omega) (by omega) (by omega) (by omega) (fun q hq hf => by
          rcases Nat.lt_or_ge q x with z | z
          · have := h3 q z hf; omega
          · rw [show q = x by omega]; exact Nat.le_refl _)
