/-! ===== PURE: the class runs ahead: the loops ===== -/
theorem wt100 {a : AS} (hB : wfBg 0 0 a) : ∀ k, k < cS a 1 → cN a 2 k ≤ 100 := fun k hk => (hB.1.2.2.2 k hk).2.2.2.1
theorem cst_small {a : AS} {t : Nat} {s : RS} (hB : wfBg 0 0 a) (hI : RI a t s) : cstS a s ≤ 280000 := Nat.le_trans (cst_late hI) (late_le (hs_of hB) (wt100 hB) hI)
theorem hosS_stay {a : AS} {l : List Nat} {t h : Nat} {s : RS} (hl : inK a l) (hno : ∀ k, k < cS a 1 → rdyB a t (hosS a l t h s) k = false) : ∀ d, hosS a l t (h + d) s = hosS a l t h s := by
  intro d
  induction d with
  | zero => rfl
  | succ d ih =>
    rw [← Nat.add_assoc, hosS, ih]
    exact begS_no (fun _ k hk => hno k (hl k hk))
theorem xHosL {a : AS} {l : List Nat} {n0 B : Nat} (hA : wfA 600 a) (hB : wfBg 0 0 a) (hL : QL a l) (hBd : B < 2 ^ 31) (hn0 : n0 < 399 - cS a 3) (k77 : Int32 → Int32 → ST → Option ST) :
    ∀ dd h n σ d, h + dd = cS a 4 → dd + 150 < n → XR a σ → XO a σ → XQ l σ → XT a (hosS a l (cS a 3 + 1 + n0) h (runS a l n0)) d σ → EN a (cS a 3 + 1 + n0) (hosS a l (cS a 3 + 1 + n0) h (runS a l n0)) σ → d ≤ 7 → AG l d (fun l => hosS a l (cS a 3 + 1 + n0) h (runS a l n0)) →
      ∃ σ' d' h', fX1_runAhead_L36 k77 n (nI B) (nI (cS a 3 + 1 + n0)) (nI h) σ = k77 (nI B) (nI (cS a 3 + 1 + n0)) σ' ∧ fr [23, 26, 27] [61, 62] [] σ σ' ∧ h' ≤ cS a 4 ∧ XT a (hosS a l (cS a 3 + 1 + n0) h' (runS a l n0)) d' σ' ∧ d' ≤ 7 ∧ AG l d' (fun l => hosS a l (cS a 3 + 1 + n0) h' (runS a l n0)) ∧ (h' = cS a 4 ∨ ¬ (cstS a (hosS a l (cS a 3 + 1 + n0) h' (runS a l n0)) < B ∧ popc (hosS a l (cS a 3 + 1 + n0) h' (runS a l n0)).2.2 < l.length)) := by
  have hs := hs_of hB
  have hK := hB.1.1
  have hH := hB.2.1.2.2.1
  have hl7 := q_len7 hL hK
  have hIn := q_in hL
  intro dd
  induction dd with
  | zero =>
    intro h n σ d hh hn hX hO hQ hT hE hd hG
    obtain ⟨m, rfl⟩ : ∃ m, n = m + 1 := ⟨n - 1, by omega⟩
    refine ⟨σ, d, h, ?_, fr_rf, by omega, hT, hd, hG, Or.inl (by omega)⟩
    rw [fX1_runAhead_L36, hX.2.2.2.2.2.2.1.2.1, if_pos (nI_le (by omega) (by omega))]
  | succ dd ih =>
    intro h n σ d hh hn hX hO hQ hT hE hd hG
    obtain ⟨m, rfl⟩ : ∃ m, n = m + 1 := ⟨n - 1, by omega⟩
    have hI := RI_hos hs hIn (t := cS a 3 + 1 + n0) (by omega) (RI_run hs hIn n0 (by omega)) h (by omega)
    have h3 : h < 3 := by omega
    have i3 : ix (nI h) 3 := ix_nI h3 (by decide)
    have hf401 := hI.2.2.2.2 h h3
    have hstep : hosS a l (cS a 3 + 1 + n0) (h + 1) (runS a l n0) = begS a l (cS a 3 + 1 + n0) h (hosS a l (cS a 3 + 1 + n0) h (runS a l n0)) := rfl
    rw [fX1_runAhead_L36, hX.2.2.2.2.2.2.1.2.1, if_neg (nI_ge (by omega) (by omega)), xOpen hBd (by have := cst_small hB hI; omega) (bg_lt hs hI) hl7 hQ hT, Option.bind_some]
    simp only [pif, if_pos i3, lt_def]
    by_cases c : cstS a (hosS a l (cS a 3 + 1 + n0) h (runS a l n0)) < B ∧ popc (hosS a l (cS a 3 + 1 + n0) h (runS a l n0)).2.2 < l.length
    · rw [if_pos c, ldA_nI _ 62 h (by omega), hT.2.1 h h3]
      by_cases f : (hosS a l (cS a 3 + 1 + n0) h (runS a l n0)).2.1 h ≤ cS a 3 + 1 + n0
      · rw [if_neg (fun z => by rw [nI_lt_iff (by omega) (by omega)] at z; omega)]
        obtain ⟨σ1, d1, r1, r2, r3, r4, r5, r6, r7⟩ := xBegF (n := m) (by omega) hA hB hX hO hQ hL hT hd hE hI h3 (by omega) f
        rw [r1, Option.bind_some, nI_1]
        obtain ⟨σ', d', h', s1, s2, s3⟩ := ih (h + 1) m σ1 d1 (by omega) (by omega) (XR_fo (fr_up r2 (by decide) (by decide) (by decide)) hX) (XO_fr r2 hO (by decide) (by decide) (by decide)) (XQ_fr r2 hQ (by decide) (by decide)) (by rw [hstep]; exact r3) (by rw [hstep]; exact r4) r6 (AG_beg hG r5 (fun _ => r7))
        exact ⟨σ', d', h', s1, fr_tr r2 s2, s3⟩
      · rw [if_pos (nI_lt (by omega) (by omega)), nI_1]
        have hst : begS a l (cS a 3 + 1 + n0) h (hosS a l (cS a 3 + 1 + n0) h (runS a l n0)) = hosS a l (cS a 3 + 1 + n0) h (runS a l n0) := begS_no (fun z => absurd z f)
        rw [hst] at hstep
        exact ih (h + 1) m σ d (by omega) (by omega) hX hO hQ (by rw [hstep]; exact hT) (by rw [hstep]; exact hE) hd (AG_beg hG (Nat.le_refl _) (fun z => absurd z f))
    · rw [if_neg c]
      exact ⟨σ, d, h, rfl, fr_rf, by omega, hT, hd, hG, Or.inr c⟩
def OUT (a : AS) (l : List Nat) (B d : Nat) (s : RS) : Prop := (s = finS a l ∧ AG l d (finS a)) ∨ (B ≤ cstS a s ∧ ∀ l', l'.Perm l → sameHd d l' l → cstS a s ≤ CL a l')
theorem fin_all {a : AS} {l : List Nat} {n : Nat} (hl : inK a l) (hn : n ≤ 399 - cS a 3) (hno : ∀ u k, k < cS a 1 → rdyB a u (runS a l n) k = false) : finS a l = runS a l n := by
  unfold finS
  obtain ⟨d, hd⟩ : ∃ d, 399 - cS a 3 = n + d := ⟨399 - cS a 3 - n, by omega⟩
  rw [hd]
  exact runS_skip d (fun e _ q _ _ k hk => hno _ k (hl k hk))
theorem out_run {a : AS} {l : List Nat} {n B d : Nat} (hs : hs0 a) (hL : QL a l) (hn : n ≤ 399 - cS a 3) (hG : AG l d (fun l => runS a l n)) (hc : ¬ (cstS a (runS a l n) < B ∧ popc (runS a l n).2.2 < l.length)) : OUT a l B d (runS a l n) := by
  have hI := RI_run hs (q_in hL) n hn
  by_cases c : cstS a (runS a l n) < B
  · left
    have hp : (qByN a).length ≤ popc (runS a l n).2.2 := by
      rw [← q_len hL]
      rcases Nat.lt_or_ge (popc (runS a l n).2.2) l.length with z | z
      · exact absurd ⟨c, z⟩ hc
      · exact z
    have hno := all_begun hs hI hp
    have e1 := fin_all (q_in hL) hn hno
    refine ⟨e1.symm, fun l' hp' hs' => ?_⟩
    have e := hG l' hp' hs'
    have e' : runS a l' n = runS a l n := e
    have hL' : QL a l' := hp'.trans hL
    rw [fin_all (q_in hL') hn (by rw [e']; exact hno), e', e1]
  · right
    refine ⟨by omega, fun l' hp' hs' => ?_⟩
    have e : runS a l' n = runS a l n := hG l' hp' hs'
    have hL' : QL a l' := hp'.trans hL
    rw [← e]
    exact cst_CL0 hs (q_in hL') hn
theorem xRunL {a : AS} {l : List Nat} {B : Nat} (hA : wfA 600 a) (hB : wfBg 0 0 a) (hL : QL a l) (hBd : B < 2 ^ 31) (k92 : ST → Option ST) :
    ∀ r n0 n σ d, 399 - cS a 3 - n0 ≤ r → n0 ≤ 399 - cS a 3 → r + 300 < n → XR a σ → XO a σ → XQ l σ → XT a (runS a l n0) d σ → d ≤ 7 → AG l d (fun l => runS a l n0) →
      ∃ σ' d' s u, fX1_runAhead_L14 k92 n (nI B) (nI (cS a 3 + 1 + n0)) σ = k92 σ' ∧ fr [23, 24, 26, 27] [61, 62] [] σ σ' ∧ XT a s d' σ' ∧ d' ≤ 7 ∧ RI a u s ∧ OUT a l B d' s := by
  have hs := hs_of hB
  have hK := hB.1.1
  have h399 := hB.2.1.1
  have hl7 := q_len7 hL hK
  have hIn := q_in hL
  intro r
  induction r with
  | zero =>
    intro n0 n σ d hr hn0 hn hX hO hQ hT hd hG
    obtain ⟨m, rfl⟩ : ∃ m, n = m + 1 := ⟨n - 1, by omega⟩
    refine ⟨σ, d, runS a l n0, _, ?_, fr_rf, hT, hd, RI_run hs hIn n0 hn0, Or.inl ⟨?_, ?_⟩⟩
    · rw [fX1_runAhead_L14, if_pos (show (399 : Int32) < nI (cS a 3 + 1 + n0) from nI_lt (a := 399) (by omega) (by omega))]
    · unfold finS; rw [show 399 - cS a 3 = n0 by omega]
    · have : finS a = fun l => runS a l n0 := by funext l; unfold finS; rw [show 399 - cS a 3 = n0 by omega]
      rw [this]; exact hG
  | succ r ih =>
    intro n0 n σ d hr hn0 hn hX hO hQ hT hd hG
    obtain ⟨m, rfl⟩ : ∃ m, n = m + 1 := ⟨n - 1, by omega⟩
    have hI := RI_run hs hIn n0 hn0
    rcases Nat.lt_or_ge n0 (399 - cS a 3) with hlt | hge
    · have hI' := hI
      rw [fX1_runAhead_L14, if_neg (show ¬ (399 : Int32) < nI (cS a 3 + 1 + n0) from fun z => by rw [show (399 : Int32) = nI 399 from rfl, nI_lt_iff (by decide) (by omega)] at z; omega), xOpen hBd (by have := cst_small hB hI; omega) (bg_lt hs hI) hl7 hQ hT, Option.bind_some]
      simp only [pif, lt_def]
      by_cases c : cstS a (runS a l n0) < B ∧ popc (runS a l n0).2.2 < l.length
      · rw [if_pos c]
        obtain ⟨σ1, p1, p2, p3⟩ := xEnded (n := m) (by omega) (by omega) hB hI hX hT
        rw [p1, Option.bind_some]
        have hX1 := XR_fo (fr_up p2 (by decide) (by decide) (by decide)) hX
        have hO1 := XO_fr p2 hO (by decide) (by decide) (by decide)
        have hQ1 := XQ_fr p2 hQ (by decide) (by decide)
        have hT1 := XT_fr p2 hT (by decide) (by decide)
        obtain ⟨σ2, d2, h2, q1, q2, q3, q4, q5, q6, q7⟩ := xHosL hA hB hL hBd hlt (fun (x1_16 : Int32) (x2_17 : Int32) (σ_18 : ST) => (Option.bind (fX1_nextChange m x2_17 σ_18) (fun q_19 => (fX1_runAhead_L14 k92 m x1_16 (if (x2_17 + ((1 : Int32))) < q_19.1 then q_19.1 else (x2_17 + ((1 : Int32)))) q_19.2)))) (cS a 4) 0 m σ1 d (by omega) (by have := hB.2.1.2.2.1; omega) hX1 hO1 hQ1 hT1 p3 hd hG
        rw [show (0 : Int32) = nI 0 from rfl, q1]
        have hX2 := XR_fo (fr_up q2 (by decide) (by decide) (by decide)) hX1
        have hO2 := XO_fr q2 hO1 (by decide) (by decide) (by decide)
        have hQ2 := XQ_fr q2 hQ1 (by decide) (by decide)
        have f2 : fr [23, 24, 26, 27] [61, 62] [] σ σ2 := fr_tr (fr_up p2 (by decide) (by decide) (by decide)) (fr_up q2 (by decide) (by decide) (by decide))
        have hI2 := RI_hos hs hIn (t := cS a 3 + 1 + n0) (by omega) hI h2 q3
        obtain ⟨v, v1, v2, v3, v4⟩ := xChange (n := m) (by omega) (show cS a 3 + 1 + n0 ≤ 399 by omega) hA hB hX2 hO2 hQ2 hL q4 hI2
        rw [v1, Option.bind_some, nI_1, nI_max (by omega) (by omega)]
        rcases q7 with e | hcut
        · subst e
          -- the tick is through: skip to the next change
          have hrun : hosS a l (cS a 3 + 1 + n0) (cS a 4) (runS a l n0) = runS a l (n0 + 1) := rfl
          rw [hrun] at q4 v3 hI2
          obtain ⟨w, hw⟩ : ∃ w, max (cS a 3 + 1 + n0 + 1) v = cS a 3 + 1 + (n0 + 1 + w) := ⟨max (cS a 3 + 1 + n0 + 1) v - (cS a 3 + 1 + n0 + 1), by omega⟩
          have skip : ∀ l', l'.Perm l → runS a l' (n0 + 1) = runS a l (n0 + 1) → runS a l' (n0 + 1 + w) = runS a l' (n0 + 1) := by
            intro l' hp' he
            have hL' : QL a l' := hp'.trans hL
            refine runS_skip w (fun e he' q hq hf k hk => ?_)
            rw [he] at hf ⊢
            have haft : ∀ q, q < cS a 4 → (runS a l (n0 + 1)).2.1 q ≤ cS a 3 + 1 + n0 → ∀ k, k < cS a 1 → rdyB a (cS a 3 + 1 + n0) (runS a l (n0 + 1)) k = false := by
              intro q hq hf k hk
              cases z : rdyB a (cS a 3 + 1 + n0) (runS a l (n0 + 1)) k
              · rfl
              · have hm := (q_mem hL).mpr ⟨hk, rdy_wait z⟩
                have := aft hs hIn (t := cS a 3 + 1 + n0) (by omega) (cS a 4) (runS a l n0) (Nat.le_refl _) hI q hq hf k hm
                rw [hrun, z] at this; cases this
            refine idle_skip hs hI2 (u := cS a 3 + 1 + (n0 + 1) + e) (by omega) haft (by omega) (fun q hq hf => ?_) (fun k hk hw' ho => ?_) q hq hf k (q_in hL' k hk)
            · have := v3 q hq hf; omega
            · have := v4 k hk hw' ho; omega
          rw [hw]
          have e1 := skip l (List.Perm.refl _) rfl
          obtain ⟨σ', d', s, u, s1, s2, s3⟩ := ih (n0 + 1 + w) m σ2 d2 (by omega) (by omega) (by omega) hX2 hO2 hQ2 (by rw [e1]; exact q4) q5 (fun l' hp' hs' => by
            have e := q6 l' hp' hs'
            have e' : runS a l' (n0 + 1) = runS a l (n0 + 1) := e
            show runS a l' (n0 + 1 + w) = runS a l (n0 + 1 + w)
            rw [skip l' hp' e', e1, e'])
          exact ⟨σ', d', s, u, s1, fr_tr f2 s2, s3⟩
        · -- cut: the loop ends at once
          refine ⟨σ2, d2, hosS a l (cS a 3 + 1 + n0) h2 (runS a l n0), cS a 3 + 1 + n0, ?_, f2, q4, q5, hI2, ?_⟩
          · obtain ⟨m', rfl⟩ : ∃ m', m = m' + 1 := ⟨m - 1, by omega⟩
            rw [fX1_runAhead_L14]
            by_cases z : (399 : Int32) < nI (max (cS a 3 + 1 + n0 + 1) v)
            · rw [if_pos z]
            · rw [if_neg z, xOpen hBd (by have := cst_small hB hI2; omega) (bg_lt hs hI2) hl7 hQ2 q4, Option.bind_some]
              simp only [pif, lt_def]
              rw [if_neg hcut]
          · by_cases c2 : cstS a (hosS a l (cS a 3 + 1 + n0) h2 (runS a l n0)) < B
            · have hp : (qByN a).length ≤ popc (hosS a l (cS a 3 + 1 + n0) h2 (runS a l n0)).2.2 := by
                rw [← q_len hL]
                rcases Nat.lt_or_ge (popc (hosS a l (cS a 3 + 1 + n0) h2 (runS a l n0)).2.2) l.length with z | z
                · exact absurd ⟨c2, z⟩ hcut
                · exact z
              have hno := all_begun hs hI2 hp
              have key : ∀ l', l'.Perm l → hosS a l' (cS a 3 + 1 + n0) h2 (runS a l' n0) = hosS a l (cS a 3 + 1 + n0) h2 (runS a l n0) → finS a l' = hosS a l (cS a 3 + 1 + n0) h2 (runS a l n0) := by
                intro l' hp' he
                have hL' : QL a l' := hp'.trans hL
                have e1 : runS a l' (n0 + 1) = hosS a l (cS a 3 + 1 + n0) h2 (runS a l n0) := by
                  rw [runS]
                  have := hosS_stay (a := a) (l := l') (t := cS a 3 + 1 + n0) (h := h2) (s := runS a l' n0) (q_in hL') (fun k hk => by rw [he]; exact hno _ k hk) (cS a 4 - h2)
                  rw [show h2 + (cS a 4 - h2) = cS a 4 by omega] at this
                  rw [this, he]
                rw [fin_all (q_in hL') (show n0 + 1 ≤ 399 - cS a 3 by omega) (by rw [e1]; exact hno), e1]
              left
              have e0 := key l (List.Perm.refl _) rfl
              exact ⟨e0.symm, fun l' hp' hs' => by rw [key l' hp' (q6 l' hp' hs'), e0]⟩
            · right
              refine ⟨by omega, fun l' hp' hs' => ?_⟩
              have hL' : QL a l' := hp'.trans hL
              have e : hosS a l' (cS a 3 + 1 + n0) h2 (runS a l' n0) = hosS a l (cS a 3 + 1 + n0) h2 (runS a l n0) := q6 l' hp' hs'
              rw [← e]
              exact cst_CL hs (q_in hL') hlt q3
      · rw [if_neg c]
        exact ⟨σ, d, runS a l n0, _, rfl, fr_rf, hT, hd, hI, out_run hs hL hn0 hG c⟩
    · refine ⟨σ, d, runS a l n0, _, ?_, fr_rf, hT, hd, hI, Or.inl ⟨?_, ?_⟩⟩
      · rw [fX1_runAhead_L14, if_pos (show (399 : Int32) < nI (cS a 3 + 1 + n0) from nI_lt (a := 399) (by omega) (by omega))]
      · unfold finS; rw [show 399 - cS a 3 = n0 by omega]
      · have : finS a = fun l => runS a l n0 := by funext l; unfold finS; rw [show 399 - cS a 3 = n0 by omega]
        rw [this]; exact hG
theorem xLeft {a : AS} {l : List Nat} {s : RS} {u : Nat} (hB : wfBg 0 0 a) (hL : QL a l) (hI : RI a u s) : ∀ dd i n σ, i + dd = l.length → dd < n → XR a σ → XO a σ → XQ l σ → (∀ k, k < cS a 1 → gA σ 61 k = nI (s.1 k)) → gI σ 23 = nI s.2.2 → gI σ 26 = nI (lftS a s l i) → ∃ σ', fX1_runAhead_L94 n (nI i) σ = some σ' ∧ fr [26] [61] [] σ σ' ∧ (∀ k, k < cS a 1 → gA σ' 61 k = nI (s.1 k)) ∧ gI σ' 26 = nI (lateS a s) := by
  have hs := hs_of hB
  have hK := hB.1.1
  have hl7 := q_len7 hL hK
  have hbl := bg_lt hs hI
  intro dd
  induction dd with
  | zero =>
    intro i n σ hi hn hX hO hQ h61 h23 h26
    obtain ⟨m, rfl⟩ : ∃ m, n = m + 1 := ⟨n - 1, by omega⟩
    have : i = l.length := by omega
    subst this
    rw [lft_end (q_cov hL)] at h26
    exact ⟨σ, by rw [fX1_runAhead_L94, hQ.1, if_pos (nI_le (Nat.le_refl _) (by omega))], fr_rf, h61, h26⟩
  | succ dd ih =>
    intro i n σ hi hn hX hO hQ h61 h23 h26
    obtain ⟨m, rfl⟩ : ∃ m, n = m + 1 := ⟨n - 1, by omega⟩
    have hil : i < l.length := by omega
    obtain ⟨st1, st2⟩ := lft_step (a := a) (s := s) hil (q_in hL) (fun k hk => ((q_mem hL).mp hk).2) (q_nd hL)
    have hkK : l.getD i 0 < cS a 1 := q_in hL _ (getD_mem hil)
    have hw : waitB a (l.getD i 0) = true := ((q_mem hL).mp (getD_mem hil)).2
    have e63 := hQ.2 i hil
    generalize l.getD i 0 = k at st1 st2 hkK hw e63
    have i7 : ix (nI i) 7 := ix_nI (by omega) (by decide)
    have hso : soE a k ≤ 400 := soA_le hs hkK
    rw [fX1_runAhead_L94, hQ.1, if_neg (nI_ge hil (by omega)), if_pos i7, ldA_nI _ 63 i (by omega), e63, h23]
    simp only [if_pos i7, lt_def]
    by_cases c : s.2.2.testBit k = true
    · rw [if_pos c] at st1
      rw [if_neg (fun q => by rw [bit_zero (by omega) (by omega), c] at q; cases q), nI_1]
      exact ih (i + 1) m σ (by omega) (by omega) hX hO hQ h61 h23 (by rw [st1]; exact h26)
    · have c' : s.2.2.testBit k = false := by simpa using c
      rw [if_neg c] at st1
      have h400 := hI.2.1 k hkK hw c'
      rw [if_pos ((bit_zero (by omega) (by omega)).mpr c'), show (400 : Int32) = nI 400 from rfl, xSetEnd hB hX hO h26 hkK (Nat.le_refl _) hso, Option.bind_some, nI_1]
      generalize hs1 : sI (sA σ 61 (upd (gA σ 61) k (nI 400))) 26 (nI (lftS a s l i + (costA a k 400 - costA a k (soE a k)))) = σ1
      have f1 : fr [26] [61] [] σ σ1 := by rw [← hs1]; exact fr_sI (fr_sA fr_rf (by decide)) (by decide)
      obtain ⟨σ', r1, r2, r3⟩ := ih (i + 1) m σ1 (by omega) (by omega) (XR_fo (fr_up f1 (by decide) (by decide) (by decide)) hX) (XO_fr f1 hO (by decide) (by decide) (by decide)) (XQ_fr f1 hQ (by decide) (by decide)) (fun j hj => by
        rw [← hs1]
        show upd (gA σ 61) k (nI 400) j = _
        rw [upd_at]
        by_cases z : j = k
        · rw [if_pos z, z, h400]
        · rw [if_neg z]; exact h61 j hj) (by rw [← hs1]; exact h23) (by
        rw [← hs1, st1, h400]
        show nI _ = nI _
        have := costA_mono (a := a) (k := k) hso
        congr 1; omega)
      exact ⟨σ', r1, fr_tr f1 r2, r3⟩
theorem xAhead {a : AS} {l : List Nat} {B n : Nat} {σ : ST} (hn : 1500 ≤ n) (hA : wfA 600 a) (hB : wfBg 0 0 a) (hX : XR a σ) (hO : XO a σ) (hQ : XQ l σ) (hL : QL a l) (hBd : B < 2 ^ 31) :
    ∃ σ' d s, fX1_runAhead n (nI B) σ = some σ' ∧ fr [23, 24, 26, 27] [61, 62] [] σ σ' ∧ (∀ k, k < cS a 1 → gA σ' 61 k = nI (s.1 k)) ∧ gI σ' 26 = nI (lateS a s) ∧ gI σ' 27 = nI d ∧ d ≤ 7 ∧ lateS a s ≤ 280000 ∧ ((s = finS a l ∧ ∀ l', l'.Perm l → sameHd d l' l → CL a l' = CL a l) ∨ (B ≤ lateS a s ∧ ∀ l', l'.Perm l → sameHd d l' l → B ≤ CL a l')) := by
  have hs := hs_of hB
  have h399 := hB.2.1.1
  unfold fX1_runAhead
  obtain ⟨σ1, r1, r2, r3⟩ := xStart (n := n) (by omega) hB hX hO
  rw [r1, Option.bind_some]
  simp only [lt_def]
  have hX1 := XR_fo (fr_up r2 (by decide) (by decide) (by decide)) hX
  have hO1 := XO_fr r2 hO (by decide) (by decide) (by decide)
  have hQ1 := XQ_fr r2 hQ (by decide) (by decide)
  have e18 : gI σ1 18 + 1 = nI (cS a 3 + 1 + 0) := by rw [hX1.2.2.2.2.2.2.1.1, nI_1]
  obtain ⟨σ2, d, s, u, s1, s2, s3, s4, s5, s6⟩ := xRunL hA hB hL hBd (fun (σ_21 : ST) => (fX1_runAhead_L94 n 0 σ_21)) (399 - cS a 3) 0 n σ1 0 (by omega) (by omega) (by omega) hX1 hO1 hQ1 r3 (by omega) (fun l' _ _ => rfl)
  rw [e18, s1]
  have hX2 := XR_fo (fr_up s2 (by decide) (by decide) (by decide)) hX1
  have hO2 := XO_fr s2 hO1 (by decide) (by decide) (by decide)
  have hQ2 := XQ_fr s2 hQ1 (by decide) (by decide)
  have hl7 := q_len7 hL hB.1.1
  obtain ⟨σ3, t1, t2, t3, t4⟩ := xLeft (l := l) hB hL s5 l.length 0 n σ2 (by omega) (by omega) hX2 hO2 hQ2 s3.1 s3.2.2.1 (by rw [lft_0]; exact s3.2.2.2.1)
  refine ⟨σ3, d, s, t1, fr_tr (fr_up r2 (by decide) (by decide) (by decide)) (fr_tr s2 (fr_up t2 (by decide) (by decide) (by decide))), t3, t4, ?_, s4, late_le hs (wt100 hB) s5, ?_⟩
  · rw [t2.1 27 (by decide)]; exact s3.2.2.2.2
  · rcases s6 with ⟨e, hG⟩ | ⟨h1, h2⟩
    · left
      exact ⟨e, fun l' hp hs' => by unfold CL; rw [hG l' hp hs']⟩
    · right
      exact ⟨Nat.le_trans h1 (cst_late s5), fun l' hp hs' => Nat.le_trans h1 (h2 l' hp hs')⟩
