/-! ===== PURE: read: the class reads an E, whole ===== -/
theorem xUnitF {pl : Nat → Nat} {K : Nat} {e : Nat × Nat} {σ : ST} (h : XFl pl K e σ) (rc : Int32 → ST → Option ST) (n : Nat) (x : Int32) : fX2_parseUnit rc n x σ = some σ := by
  unfold fX2_parseUnit
  rw [xPeekF h, Option.bind_some]
  simp only [lt_def]
  rw [if_neg (by decide), if_neg (by decide), if_neg (by decide), if_neg (by decide), if_neg (by decide), if_neg (by decide), if_neg (by decide), xFailF h, Option.bind_some]
theorem xProdLF {pl : Nat → Nat} {K : Nat} {e : Nat × Nat} {σ : ST} (h : XFl pl K e σ) (rc : Int32 → ST → Option ST) (n : Nat) (x c : Int32) : fX2_parseProduct_L7 rc (n + 1) x c σ = some σ := by
  rw [fX2_parseProduct_L7, xPeekF h, Option.bind_some]
  by_cases z : (400 : Int32) ≤ c
  · rw [if_pos z]
  · rw [if_neg z, if_neg (show ¬ (259 : Int32) = 42 by decide)]
theorem xProdF {pl : Nat → Nat} {K : Nat} {e : Nat × Nat} {σ : ST} (h : XFl pl K e σ) (rc : Int32 → ST → Option ST) (n : Nat) (hn : 1 ≤ n) (x : Int32) : fX2_parseProduct rc n x σ = some σ := by
  obtain ⟨m, rfl⟩ : ∃ m, n = m + 1 := ⟨n - 1, by omega⟩
  unfold fX2_parseProduct
  rw [xUnitF h, Option.bind_some, lt_def, xProdLF h]
theorem xSumLF {pl : Nat → Nat} {K : Nat} {e : Nat × Nat} {σ : ST} (h : XFl pl K e σ) (rc : Int32 → ST → Option ST) (n : Nat) (x c : Int32) : fX2_parseSum_L7 rc (n + 1) x c σ = some σ := by
  rw [fX2_parseSum_L7, xPeekF h, Option.bind_some]
  by_cases z : (400 : Int32) ≤ c
  · rw [if_pos z]
  · rw [if_neg z]
    simp only [lt_def]
    rw [if_neg (show ¬ (259 : Int32) = 43 by decide), xPeekF h, Option.bind_some, if_neg (show ¬ (259 : Int32) = 45 by decide)]
theorem xSumF {pl : Nat → Nat} {K : Nat} {e : Nat × Nat} {σ : ST} (h : XFl pl K e σ) (rc : Int32 → ST → Option ST) (n : Nat) (hn : 1 ≤ n) (x : Int32) : fX2_parseSum rc n x σ = some σ := by
  unfold fX2_parseSum
  rw [xProdF h _ _ hn, Option.bind_some, lt_def]
  obtain ⟨m, rfl⟩ : ∃ m, n = m + 1 := ⟨n - 1, by omega⟩
  rw [xSumLF h]
theorem xInsF {pl : Nat → Nat} {K : Nat} {e : Nat × Nat} {σ : ST} (h : XFl pl K e σ) (rc : Int32 → ST → Option ST) (x : Int32) : fX2_parseInside rc x σ = some σ := by
  unfold fX2_parseInside
  rw [h.1, if_neg (fl_ne h.2.1)]
def XEnv (Q : Prop) (tk tv pl lk : Nat → Nat) (xn nx : Nat → Int64) (rp K : Nat) (al : Nat → Nat) (L : Nat) : Prop := TKs tk tv pl L ∧ K < 7 ∧ (∀ p, p < K → al p < 64) ∧ (∀ i, tk i = 1 → lk i ≤ K) ∧ (∀ i, tk i = 2 → tv i < 10000) ∧ (Q → ∀ i, i ≤ L → tk i = 1 → lkF nx rp (xn i) 0 K = lk i)
def XZ (Q : Prop) (tk tv pl : Nat → Nat) (xn nx : Nat → Int64) (rp K : Nat) (al oT oP : Nat → Nat) (L : Nat) (s : PS) (σ : ST) : Prop := XTk tk tv pl xn L σ ∧ NMx nx rp K σ ∧ XS Q pl K al oT oP L s σ ∧ s.2.2.2.2.1 < 9 ∧ s.2.1.length ≤ s.1 ∧ 1 ≤ s.1
theorem XZ_next {Q : Prop} {tk tv pl : Nat → Nat} {xn nx : Nat → Int64} {rp K : Nat} {al oT oP : Nat → Nat} {L : Nat} {s s' : PS} {c : List (Nat × Nat)} {σ σ' : ST} (h : XZ Q tk tv pl xn nx rp K al oT oP L s σ) (hs : stp K c s s') (f : fr [2, 3, 4, 5, 6, 9] [13, 14, 15, 17, 18] [] σ σ') (hS : XS Q pl K al oT oP L s' σ') : XZ Q tk tv pl xn nx rp K al oT oP L s' σ' := by
  obtain ⟨h1, h2, h3, h4, h5, h6⟩ := h
  refine ⟨XTk_fr f h1 (by decide) (by decide) (by decide), NMx_fr f h2 (by decide) (by decide), hS, hs.2.2.2.2.2.2.2.1 h4, ?_, ?_⟩
  · rw [hs.1, List.length_append]
    have := hs.2.1
    omega
  · have := hs.2.1
    omega
theorem frE {I A B : List Nat} {σ σ' : ST} (f : fr I A B σ σ') (hI : ∀ k ∈ I, k ∈ [2, 3, 4, 5, 6, 9]) (hA : ∀ k ∈ A, k ∈ [13, 14, 15, 17, 18]) (hB : ∀ k ∈ B, k ∈ ([] : List Nat)) : fr [2, 3, 4, 5, 6, 9] [13, 14, 15, 17, 18] [] σ σ' := fr_up f hI hA hB
theorem kx_op {k : Nat} (h1 : 25 ≤ k) (h2 : k ≤ 27) : nI (kx k) = xopOf (k - 24) := by
  rcases (show k = 25 ∨ k = 26 ∨ k = 27 by omega) with rfl | rfl | rfl <;> rfl
theorem xEv {Q : Prop} {tk tv pl lk : Nat → Nat} {xn nx : Nat → Int64} {rp K : Nat} {al oT oP : Nat → Nat} {L : Nat} (hE : XEnv Q tk tv pl lk xn nx rp K al L) (N : Nat) (hN : 500 ≤ N) : ∀ f,
    (∀ d D n s r σ, (d + D = 7 ∧ d ≤ 6) → 420 < n + s.1 → XZ Q tk tv pl xn nx rp K al oT oP L s σ → ev tk tv lk f 0 d s = some r → ∃ σ', fX2_parseUnit (fX2_parseSumD D N) n (nI d) σ = some σ' ∧ fr [2, 3, 4, 5, 6, 9] [13, 14, 15, 17, 18] [] σ σ' ∧ XRs Q pl K al oT oP L r σ') ∧
    (∀ d D n s r σ, (d + D = 7 ∧ d ≤ 6) → 420 < n + s.1 → XZ Q tk tv pl xn nx rp K al oT oP L s σ → ev tk tv lk f 1 d s = some r → ∃ σ', fX2_parseProduct (fX2_parseSumD D N) n (nI d) σ = some σ' ∧ fr [2, 3, 4, 5, 6, 9] [13, 14, 15, 17, 18] [] σ σ' ∧ XRs Q pl K al oT oP L r σ') ∧
    (∀ d D n s r σ c, (d + D = 7 ∧ d ≤ 6) → 420 < n + s.1 → c < s.1 → XZ Q tk tv pl xn nx rp K al oT oP L s σ → ev tk tv lk f 2 d s = some r → ∃ σ', fX2_parseProduct_L7 (fX2_parseSumD D N) n (nI d) (nI c) σ = some σ' ∧ fr [2, 3, 4, 5, 6, 9] [13, 14, 15, 17, 18] [] σ σ' ∧ XRs Q pl K al oT oP L r σ') ∧
    (∀ d D n s r σ, (d + D = 7 ∧ d ≤ 6) → 420 < n + s.1 → XZ Q tk tv pl xn nx rp K al oT oP L s σ → ev tk tv lk f 3 d s = some r → ∃ σ', fX2_parseSum (fX2_parseSumD D N) n (nI d) σ = some σ' ∧ fr [2, 3, 4, 5, 6, 9] [13, 14, 15, 17, 18] [] σ σ' ∧ XRs Q pl K al oT oP L r σ') ∧
    (∀ d D n s r σ c, (d + D = 7 ∧ d ≤ 6) → 420 < n + s.1 → c < s.1 → XZ Q tk tv pl xn nx rp K al oT oP L s σ → ev tk tv lk f 4 d s = some r → ∃ σ', fX2_parseSum_L7 (fX2_parseSumD D N) n (nI d) (nI c) σ = some σ' ∧ fr [2, 3, 4, 5, 6, 9] [13, 14, 15, 17, 18] [] σ σ' ∧ XRs Q pl K al oT oP L r σ') := by
  obtain ⟨hT, hK, hal, hlk, htv, hQ⟩ := hE
  have hL := hT.1
  intro f
  induction f with
  | zero => exact ⟨fun _ _ _ _ _ _ _ _ _ h => (by cases h), fun _ _ _ _ _ _ _ _ _ h => (by cases h), fun _ _ _ _ _ _ _ _ _ _ _ h => (by cases h), fun _ _ _ _ _ _ _ _ _ h => (by cases h), fun _ _ _ _ _ _ _ _ _ _ _ h => (by cases h)⟩
  | succ f ih =>
    obtain ⟨ihU, ihP, ihPL, ihS, ihSL⟩ := ih
    have hinv := ev_inv (tk := tk) (tv := tv) (lk := lk) (K := K) (by omega) htv hlk f
    refine ⟨?_, ?_, ?_, ?_, ?_⟩
    · -- a unit
      intro d D n s r σ hd hn hZ h
      obtain ⟨hX, hNm, hS, hsf, hC, h1⟩ := id hZ
      have h3 := hS.2.2.1
      have ck : ∀ j, j < 29 → ((nI (kx (tk s.1)) = nI (kx j)) = (tk s.1 = j)) := fun j hj => propext (kx_inj (hT.2.2.1 _ h3).1 hj)
      -- what stands in brackets
      have inside : ∀ s2 σ2 r2, d < 6 → XZ Q tk tv pl xn nx rp K al oT oP L s2 σ2 → ev tk tv lk f 3 (d + 1) s2 = some r2 → ∃ σ', fX2_parseInside (fX2_parseSumD D N) (nI d) σ2 = some σ' ∧ fr [2, 3, 4, 5, 6, 9] [13, 14, 15, 17, 18] [] σ2 σ' ∧ XRs Q pl K al oT oP L r2 σ' := by
        intro s2 σ2 r2 hd6 hZ2 he
        obtain ⟨D', rfl⟩ : ∃ D', D = D' + 1 := ⟨D - 1, by omega⟩
        obtain ⟨σ', q1, q2, q3⟩ := ihS (d + 1) D' N s2 r2 σ2 (by omega) (by omega) hZ2 he
        refine ⟨σ', ?_, q2, q3⟩
        unfold fX2_parseInside
        rw [hZ2.2.2.1.1, if_pos rfl, if_neg (show ¬ (6 : Int32) ≤ nI d from nI_ge hd6 (by decide)), nI_1]
        show Option.bind (fX2_parseSum (fX2_parseSumD D' N) N (nI (d + 1)) σ2) (fun q_3 => some q_3) = some σ'
        rw [q1, Option.bind_some]
      rw [ev, if_pos rfl] at h
      unfold fX2_parseUnit
      rw [xPeekN hT hX hS, Option.bind_some]
      simp only [lt_def]
      rw [show (40 : Int32) = nI (kx 7) from rfl, show (256 : Int32) = nI (kx 1) from rfl, show (257 : Int32) = nI (kx 2) from rfl, show (265 : Int32) = nI (kx 25) from rfl, show (266 : Int32) = nI (kx 26) from rfl, show (267 : Int32) = nI (kx 27) from rfl, show (268 : Int32) = nI (kx 28) from rfl]
      simp only [ck 7 (by decide), ck 1 (by decide), ck 2 (by decide), ck 25 (by decide), ck 26 (by decide), ck 27 (by decide), ck 28 (by decide)]
      by_cases k2 : tk s.1 = 2
      · rw [if_pos k2] at h
        rw [if_neg (show ¬ tk s.1 = 7 by omega), if_neg (show ¬ tk s.1 = 1 by omega), if_pos k2]
        have hv := (hT.2.2.1 _ h3).2.2 k2
        obtain ⟨σ1, w, r1, r2, r3, r4⟩ := xIntN (lo := 0) (hi := 9999) (by decide) (by decide) hsf hT hX hS
        have ei : aInt tk tv 0 9999 s = aAcc tk 2 s := by unfold aInt; rw [if_neg (by omega)]
        rw [ei] at r3
        rw [show (0 : Int32) = nI 0 from rfl, show (9999 : Int32) = nI 9999 from rfl, r1, Option.bind_some]
        show ∃ σ', Option.bind (fX4_addCode (nI (kx 2)) w σ1) (fun q_25 => some q_25) = some σ' ∧ _
        rcases bO_some h with ⟨e, g1, g2⟩ | ⟨s1, g1, g2⟩
        · rw [Option.some.inj g1] at r3
          obtain ⟨σ2, u1, u2, u3⟩ := xCodeF r3 (nI (kx 2)) w
          rw [u1, Option.bind_some, g2]
          exact ⟨σ2, rfl, fr_tr (frE r2 (by decide) (by decide) (by decide)) (frE u2 (by decide) (by decide) (by decide)), u3⟩
        · rw [Option.some.inj g1] at r3
          have r3' : XS Q pl K al oT oP L s1 σ1 := r3
          obtain ⟨-, -, a3⟩ := aAcc_ok (Option.some.inj g1)
          have h1L := r3'.2.2.1
          have hc1 : s1.2.1.length < 400 := by
            have e1 : s1.2.1 = s.2.1 := by rw [a3]
            have e2 : s1.1 = s.1 + 1 := by rw [a3]
            rw [e1]; omega
          obtain ⟨σ2, u1, u2, u3⟩ := xCodeN (k := 0) (v := tv s.1) hc1 r3'
          rw [r4 k2 (Nat.zero_le _) hv]
          have e0 : fX4_addCode (nI (kx 2)) (nI (tv s.1)) σ1 = fX4_addCode (xopOf 0) (nI (tv s.1)) σ1 := rfl
          rw [e0, u1, Option.bind_some, ← Option.some.inj g2]
          exact ⟨σ2, rfl, fr_tr (frE r2 (by decide) (by decide) (by decide)) (frE u2 (by decide) (by decide) (by decide)), u3⟩
      · rw [if_neg k2] at h
        by_cases k1 : tk s.1 = 1
        · rw [if_pos k1] at h
          rw [if_neg (show ¬ tk s.1 = 7 by omega), if_pos k1]
          obtain ⟨σ1, r1, r2, r3⟩ := xUName (lk := lk) (nx := nx) (rp := rp) (n := n) (by omega) hK hal (hlk _ k1) (fun q => hQ q _ h3 k1) hsf hC hT hX hNm hS k1
          exact ⟨σ1, r1, r2, r3 r h⟩
        · rw [if_neg k1] at h
          by_cases kt : 25 ≤ tk s.1 ∧ tk s.1 ≤ 27
          · rw [if_pos kt] at h
            rw [if_neg (show ¬ tk s.1 = 7 by omega), if_neg k1, if_neg k2]
            have hb : ∃ σ', Option.bind (fX2_accept (nI (kx (tk s.1))) σ) (fun q_6 => Option.bind (fX2_acceptOpening (nI d) q_6) (fun q_7 => Option.bind (fX2_acceptInt 0 5 q_7) (fun q_8 => Option.bind (fX4_addTable (nI (kx (tk s.1))) q_8.1 q_8.2) (fun q_9 => Option.bind (fX2_accept 41 q_9) (fun q_10 => some q_10))))) = some σ' ∧ fr [2, 3, 4, 5, 6, 9] [13, 14, 15, 17, 18] [] σ σ' ∧ XRs Q pl K al oT oP L r σ' := by
              obtain ⟨σ1, r1, r2, r3⟩ := xAccN (k := tk s.1) hT hX hS (by omega) (by omega) (by omega)
              have f1 := frE r2 (by decide) (by decide) (by decide)
              rw [r1, Option.bind_some]
              have fail : ∀ e σa, XFl pl K e σa → fr [2, 3, 4, 5, 6, 9] [13, 14, 15, 17, 18] [] σ σa → ∃ σ', Option.bind (fX2_acceptInt 0 5 σa) (fun q_8 => Option.bind (fX4_addTable (nI (kx (tk s.1))) q_8.1 q_8.2) (fun q_9 => Option.bind (fX2_accept 41 q_9) (fun q_10 => some q_10))) = some σ' ∧ fr [2, 3, 4, 5, 6, 9] [13, 14, 15, 17, 18] [] σ σ' ∧ XFl pl K e σ' := by
                intro e σa hf fa
                obtain ⟨w, w1⟩ := xIntF hf 0 5
                obtain ⟨c, c1, c2⟩ := hf.2.2.2.2.2
                obtain ⟨σb, v1, v2, v3⟩ := xTabAny (nI (kx (tk s.1))) w hf.2.2.2.2.1 hK c2 c1
                have hf2 : XFl pl K e σb := XFl_fr hf (v2.1 2 (by decide)) (v2.1 3 (by decide)) (v2.1 4 (by decide)) (v2.1 7 (by decide)) v3
                rw [w1, Option.bind_some]
                show ∃ σ', Option.bind (fX4_addTable (nI (kx (tk s.1))) w σa) (fun q_9 => Option.bind (fX2_accept 41 q_9) (fun q_10 => some q_10)) = some σ' ∧ _
                rw [v1, Option.bind_some, xAccF hf2, Option.bind_some]
                exact ⟨σb, rfl, fr_tr fa (frE v2 (by decide) (by decide) (by decide)), hf2⟩
              rcases bO_some h with ⟨e, g1, g2⟩ | ⟨s1, g1, g2⟩
              · rw [Option.some.inj g1] at r3
                rw [xOpnF r3, Option.bind_some, g2]
                exact fail e σ1 r3 f1
              · rw [Option.some.inj g1] at r3
                have r3' : XS Q pl K al oT oP L s1 σ1 := r3
                have st1 := (stp_acc (K := K) (Option.some.inj g1)).1
                have hZ1 := XZ_next hZ st1 f1 r3'
                obtain ⟨σ2, t1, t2, t3⟩ := xOpnN (d := d) hT hZ1.1 r3' (by omega)
                have f2 := fr_tr f1 (frE t2 (by decide) (by decide) (by decide))
                rw [t1, Option.bind_some]
                rcases bO_some g2 with ⟨e, g3, g4⟩ | ⟨s2, g3, g4⟩
                · rw [Option.some.inj g3] at t3
                  rw [g4]
                  exact fail e σ2 t3 f2
                · rw [Option.some.inj g3] at t3
                  have t3' : XS Q pl K al oT oP L s2 σ2 := t3
                  have st2 := (stp_opn (K := K) (Option.some.inj g3)).1
                  have hZ2 := XZ_next hZ1 st2 (frE t2 (by decide) (by decide) (by decide)) t3'
                  obtain ⟨σ3, w, u1, u2, u3, u4⟩ := xIntN (lo := 0) (hi := 5) (by decide) (by decide) hZ2.2.2.2.1 hT hZ2.1 t3'
                  have f3 := fr_tr f2 (frE u2 (by decide) (by decide) (by decide))
                  rw [show (0 : Int32) = nI 0 from rfl, show (5 : Int32) = nI 5 from rfl, u1, Option.bind_some]
                  show ∃ σ', Option.bind (fX4_addTable (nI (kx (tk s.1))) w σ3) (fun q_9 => Option.bind (fX2_accept 41 q_9) (fun q_10 => some q_10)) = some σ' ∧ _
                  rcases bO_some g4 with ⟨e, g5, g6⟩ | ⟨s3, g5, g6⟩
                  · rw [Option.some.inj g5] at u3
                    have u3' : XFl pl K e σ3 := u3
                    obtain ⟨c, c1, c2⟩ := u3'.2.2.2.2.2
                    obtain ⟨σb, v1, v2, v3⟩ := xTabAny (nI (kx (tk s.1))) w u3'.2.2.2.2.1 hK c2 c1
                    have hf2 : XFl pl K e σb := XFl_fr u3' (v2.1 2 (by decide)) (v2.1 3 (by decide)) (v2.1 4 (by decide)) (v2.1 7 (by decide)) v3
                    rw [v1, Option.bind_some, xAccF hf2, Option.bind_some, g6]
                    exact ⟨σb, rfl, fr_tr f3 (frE v2 (by decide) (by decide) (by decide)), hf2⟩
                  · rw [Option.some.inj g5] at u3
                    have u3' : XS Q pl K al oT oP L s3 σ3 := u3
                    obtain ⟨i1, i2, i3, s0, i4, i5⟩ := aInt_ok (Option.some.inj g5)
                    have h3L := u3'.2.2.1
                    have hlen3 : s3.2.1.length < 400 := by
                      have e1 : s3.2.1 = s2.2.1 := by
                        rw [i5]
                        rcases i4 with z | z
                        · rw [z]
                        · rw [z]; show (aNote 5 s2).2.1 = _; unfold aNote; split <;> rfl
                      have := hZ2.2.2.2.2.1
                      rw [e1]; omega
                    -- the table goes in
                    have tab : ∃ σ4, fX4_addTable (nI (kx (tk s.1))) w σ3 = some σ4 ∧ fr [9] [13, 15, 17, 18] [] σ3 σ4 ∧ XS Q pl K al oT oP L (aEm (tk s.1 - 24) (tv s2.1) (aTab (tv s2.1) s3)) σ4 := by
                      by_cases cl : s3.2.2.2.2.1 = 0
                      · have hv6 : tv s2.1 < 6 := by
                          rcases Nat.lt_or_ge (tv s2.1) 6 with z | z
                          · exact z
                          · exfalso
                            have h5' := Option.some.inj g5
                            unfold aInt at h5'
                            rw [if_pos ⟨i1, Or.inr (by omega)⟩] at h5'
                            obtain ⟨q1, q2, -⟩ := stp_acc (K := K) h5'
                            rw [aNote_t] at q2
                            exact (stp_note (K := K) (by decide) (by decide) q1 (by omega)).2 cl
                        rw [u4 i1 (Nat.zero_le _) (by omega), kx_op kt.1 kt.2]
                        exact xTabN hK hv6 hlen3 u3'
                      · obtain ⟨c, c1, c2, -⟩ := u3'.2.2.2.2.2.2
                        obtain ⟨σb, v1, v2, v3⟩ := xTabAny (nI (kx (tk s.1))) w u3'.2.2.2.2.2.1 hK c2 c1
                        refine ⟨σb, v1, v2, XS_dirty u3' cl ?_ ?_ (v2.1 2 (by decide)) (v2.1 4 (by decide)) (v2.1 5 (by decide)) (v2.1 6 (by decide)) (v2.1 7 (by decide)) v3⟩
                        · show (aTab (tv s2.1) s3).1 = _; rw [aTab_t]
                        · show (aTab (tv s2.1) s3).2.2.2.2 = _; unfold aTab; split <;> rfl
                    obtain ⟨σ4, v1, v2, v3⟩ := tab
                    have f4 := fr_tr f3 (frE v2 (by decide) (by decide) (by decide))
                    have hX4 : XTk tk tv pl xn L σ4 := XTk_fr f4 hX (by decide) (by decide) (by decide)
                    obtain ⟨σ5, w1, w2, w3⟩ := xAccN (k := 8) hT hX4 v3 (by decide) (by decide) (by decide)
                    rw [v1, Option.bind_some, show (41 : Int32) = nI (kx 8) from rfl, w1, Option.bind_some]
                    refine ⟨σ5, rfl, fr_tr f4 (frE w2 (by decide) (by decide) (by decide)), ?_⟩
                    rw [← Option.some.inj g6]; exact w3
            by_cases e25 : tk s.1 = 25
            · rw [if_pos e25]; exact hb
            · rw [if_neg e25]
              by_cases e26 : tk s.1 = 26
              · rw [if_pos e26]; exact hb
              · rw [if_neg e26, if_pos (show tk s.1 = 27 by omega)]; exact hb
          · rw [if_neg kt] at h
            by_cases km : tk s.1 = 28
            · rw [if_pos km] at h
              rw [if_neg (show ¬ tk s.1 = 7 by omega), if_neg k1, if_neg k2, if_neg (show ¬ tk s.1 = 25 by omega), if_neg (show ¬ tk s.1 = 26 by omega), if_neg (show ¬ tk s.1 = 27 by omega), if_pos km]
              obtain ⟨σ1, r1, r2, r3⟩ := xAccN (k := 28) hT hX hS (by decide) (by decide) (by decide)
              have f1 := frE r2 (by decide) (by decide) (by decide)
              rw [r1, Option.bind_some]
              -- from a fault on
              have c1F : ∀ e σa, XFl pl K e σa → fr [2, 3, 4, 5, 6, 9] [13, 14, 15, 17, 18] [] σ σa → ∃ σ', Option.bind (fX2_accept 41 σa) (fun q_31 => Option.bind (fX4_addCode (nI (kx 28)) 0 q_31) (fun q_32 => some q_32)) = some σ' ∧ fr [2, 3, 4, 5, 6, 9] [13, 14, 15, 17, 18] [] σ σ' ∧ XFl pl K e σ' := by
                intro e σa hf fa
                obtain ⟨σb, v1, v2, v3⟩ := xCodeF hf (nI (kx 28)) 0
                rw [xAccF hf, Option.bind_some, v1, Option.bind_some]
                exact ⟨σb, rfl, fr_tr fa (frE v2 (by decide) (by decide) (by decide)), v3⟩
              have c2F : ∀ e σa, XFl pl K e σa → fr [2, 3, 4, 5, 6, 9] [13, 14, 15, 17, 18] [] σ σa → ∃ σ', Option.bind (fX2_accept 44 σa) (fun q_29 => Option.bind (fX2_parseInside (fX2_parseSumD D N) (nI d) q_29) (fun q_30 => Option.bind (fX2_accept 41 q_30) (fun q_31 => Option.bind (fX4_addCode (nI (kx 28)) 0 q_31) (fun q_32 => some q_32)))) = some σ' ∧ fr [2, 3, 4, 5, 6, 9] [13, 14, 15, 17, 18] [] σ σ' ∧ XFl pl K e σ' := by
                intro e σa hf fa
                rw [xAccF hf, Option.bind_some, xInsF hf, Option.bind_some]
                exact c1F e σa hf fa
              have c3F : ∀ e σa, XFl pl K e σa → fr [2, 3, 4, 5, 6, 9] [13, 14, 15, 17, 18] [] σ σa → ∃ σ', Option.bind (fX2_parseInside (fX2_parseSumD D N) (nI d) σa) (fun q_28 => Option.bind (fX2_accept 44 q_28) (fun q_29 => Option.bind (fX2_parseInside (fX2_parseSumD D N) (nI d) q_29) (fun q_30 => Option.bind (fX2_accept 41 q_30) (fun q_31 => Option.bind (fX4_addCode (nI (kx 28)) 0 q_31) (fun q_32 => some q_32))))) = some σ' ∧ fr [2, 3, 4, 5, 6, 9] [13, 14, 15, 17, 18] [] σ σ' ∧ XFl pl K e σ' := by
                intro e σa hf fa
                rw [xInsF hf, Option.bind_some]
                exact c2F e σa hf fa
              rcases bO_some h with ⟨e, g1, g2⟩ | ⟨s1, g1, g2⟩
              · rw [Option.some.inj g1] at r3
                rw [xOpnF r3, Option.bind_some, g2]
                exact c3F e σ1 r3 f1
              · rw [Option.some.inj g1] at r3
                have r3' : XS Q pl K al oT oP L s1 σ1 := r3
                have hZ1 := XZ_next hZ (stp_acc (K := K) (Option.some.inj g1)).1 f1 r3'
                obtain ⟨σ2, t1, t2, t3⟩ := xOpnN (d := d) hT hZ1.1 r3' (by omega)
                have t2' := frE t2 (by decide) (by decide) (by decide)
                have f2 := fr_tr f1 t2'
                rw [t1, Option.bind_some]
                rcases bO_some g2 with ⟨e, g3, g4⟩ | ⟨s2, g3, g4⟩
                · rw [Option.some.inj g3] at t3
                  rw [g4]
                  exact c3F e σ2 t3 f2
                · rw [Option.some.inj g3] at t3
                  have t3' : XS Q pl K al oT oP L s2 σ2 := t3
                  have hd6 := (aOpn_ok (Option.some.inj g3)).1
                  have hZ2 := XZ_next hZ1 (stp_opn (K := K) (Option.some.inj g3)).1 t2' t3'
                  rcases bO_some g4 with ⟨e, g5, g6⟩ | ⟨s3, g5, g6⟩
                  · obtain ⟨σ3, u1, u2, u3⟩ := inside s2 σ2 _ hd6 hZ2 g5
                    rw [u1, Option.bind_some, g6]
                    exact c2F e σ3 u3 (fr_tr f2 u2)
                  · obtain ⟨σ3, u1, u2, u3⟩ := inside s2 σ2 _ hd6 hZ2 g5
                    have u3' : XS Q pl K al oT oP L s3 σ3 := u3
                    obtain ⟨cc, st3, -⟩ := hinv 3 (d + 1) s2 s3 g5
                    have hZ3 := XZ_next hZ2 st3 u2 u3'
                    have f3 := fr_tr f2 u2
                    rw [u1, Option.bind_some]
                    obtain ⟨σ4, v1, v2, v3⟩ := xAccN (k := 5) hT hZ3.1 u3' (by decide) (by decide) (by decide)
                    have v2' := frE v2 (by decide) (by decide) (by decide)
                    have f4 := fr_tr f3 v2'
                    rw [show (44 : Int32) = nI (kx 5) from rfl, v1, Option.bind_some]
                    rcases bO_some g6 with ⟨e, g7, g8⟩ | ⟨s4, g7, g8⟩
                    · rw [Option.some.inj g7] at v3
                      rw [xInsF v3, Option.bind_some, g8]
                      exact c1F e σ4 v3 f4
                    · rw [Option.some.inj g7] at v3
                      have v3' : XS Q pl K al oT oP L s4 σ4 := v3
                      have hZ4 := XZ_next hZ3 (stp_acc (K := K) (Option.some.inj g7)).1 v2' v3'
                      rcases bO_some g8 with ⟨e, g9, g10⟩ | ⟨s5, g9, g10⟩
                      · obtain ⟨σ5, w1, w2, w3⟩ := inside s4 σ4 _ hd6 hZ4 g9
                        rw [w1, Option.bind_some, g10]
                        exact c1F e σ5 w3 (fr_tr f4 w2)
                      · obtain ⟨σ5, w1, w2, w3⟩ := inside s4 σ4 _ hd6 hZ4 g9
                        have w3' : XS Q pl K al oT oP L s5 σ5 := w3
                        obtain ⟨cc5, st5, -⟩ := hinv 3 (d + 1) s4 s5 g9
                        have hZ5 := XZ_next hZ4 st5 w2 w3'
                        have f5 := fr_tr f4 w2
                        rw [w1, Option.bind_some]
                        obtain ⟨σ6, x1, x2, x3⟩ := xAccN (k := 8) hT hZ5.1 w3' (by decide) (by decide) (by decide)
                        have f6 := fr_tr f5 (frE x2 (by decide) (by decide) (by decide))
                        rw [show (41 : Int32) = nI (kx 8) from rfl, x1, Option.bind_some]
                        rcases bO_some g10 with ⟨e, g11, g12⟩ | ⟨s6, g11, g12⟩
                        · rw [Option.some.inj g11] at x3
                          obtain ⟨σ7, y1, y2, y3⟩ := xCodeF x3 (nI (kx 28)) 0
                          rw [y1, Option.bind_some, g12]
                          exact ⟨σ7, rfl, fr_tr f6 (frE y2 (by decide) (by decide) (by decide)), y3⟩
                        · rw [Option.some.inj g11] at x3
                          have x3' : XS Q pl K al oT oP L s6 σ6 := x3
                          obtain ⟨-, -, a3⟩ := aAcc_ok (Option.some.inj g11)
                          have h6L := x3'.2.2.1
                          have hc6 : s6.2.1.length < 400 := by
                            have e1 : s6.2.1 = s5.2.1 := by rw [a3]
                            have e2 : s6.1 = s5.1 + 1 := by rw [a3]
                            have := hZ5.2.2.2.2.1
                            rw [e1]; omega
                          obtain ⟨σ7, y1, y2, y3⟩ := xCodeN (k := 8) (v := 0) hc6 x3'
                          have e8 : fX4_addCode (nI (kx 28)) 0 σ6 = fX4_addCode (xopOf 8) (nI 0) σ6 := rfl
                          rw [e8, y1, Option.bind_some, ← Option.some.inj g12]
                          exact ⟨σ7, rfl, fr_tr f6 (frE y2 (by decide) (by decide) (by decide)), y3⟩
            · rw [if_neg km] at h
              by_cases ko : tk s.1 = 7
              · rw [if_pos ko] at h
                rw [if_pos ko]
                obtain ⟨σ1, r1, r2, r3⟩ := xOpnN (d := d) hT hX hS (by omega)
                have f1 := frE r2 (by decide) (by decide) (by decide)
                rw [r1, Option.bind_some]
                rcases bO_some h with ⟨e, g1, g2⟩ | ⟨s1, g1, g2⟩
                · rw [Option.some.inj g1] at r3
                  rw [xInsF r3, Option.bind_some, xAccF r3, Option.bind_some, g2]
                  exact ⟨σ1, rfl, f1, r3⟩
                · rw [Option.some.inj g1] at r3
                  have r3' : XS Q pl K al oT oP L s1 σ1 := r3
                  have hd6 := (aOpn_ok (Option.some.inj g1)).1
                  have hZ1 := XZ_next hZ (stp_opn (K := K) (Option.some.inj g1)).1 f1 r3'
                  rcases bO_some g2 with ⟨e, g3, g4⟩ | ⟨s2, g3, g4⟩
                  · obtain ⟨σ2, u1, u2, u3⟩ := inside s1 σ1 _ hd6 hZ1 g3
                    have u3' : XFl pl K e σ2 := u3
                    rw [u1, Option.bind_some, xAccF u3', Option.bind_some, g4]
                    exact ⟨σ2, rfl, fr_tr f1 u2, u3'⟩
                  · obtain ⟨σ2, u1, u2, u3⟩ := inside s1 σ1 _ hd6 hZ1 g3
                    have u3' : XS Q pl K al oT oP L s2 σ2 := u3
                    obtain ⟨cc, st2, -⟩ := hinv 3 (d + 1) s1 s2 g3
                    have hZ2 := XZ_next hZ1 st2 u2 u3'
                    obtain ⟨σ3, x1, x2, x3⟩ := xAccN (k := 8) hT hZ2.1 u3' (by decide) (by decide) (by decide)
                    rw [u1, Option.bind_some, show (41 : Int32) = nI (kx 8) from rfl, x1, Option.bind_some, ← Option.some.inj g4]
                    exact ⟨σ3, rfl, fr_tr f1 (fr_tr u2 (frE x2 (by decide) (by decide) (by decide))), x3⟩
              · rw [if_neg ko] at h
                rw [if_neg ko, if_neg k1, if_neg k2, if_neg (show ¬ tk s.1 = 25 by omega), if_neg (show ¬ tk s.1 = 26 by omega), if_neg (show ¬ tk s.1 = 27 by omega), if_neg km]
                obtain ⟨σ1, r1, r2, r3⟩ := xFailN (e := 1) (Or.inl rfl) hT hX hS
                rw [show (1 : Int32) = nI 1 from rfl, r1, Option.bind_some, ← Option.some.inj h]
                exact ⟨σ1, rfl, frE r2 (by decide) (by decide) (by decide), r3⟩
    · -- a product
      intro d D n s r σ hd hn hZ h
      rw [ev, if_neg (by decide), if_pos rfl] at h
      unfold fX2_parseProduct
      rcases bO_some h with ⟨e, g1, g2⟩ | ⟨s1, g1, g2⟩
      · obtain ⟨σ1, u1, u2, u3⟩ := ihU d D n s _ σ hd hn hZ g1
        have u3' : XFl pl K e σ1 := u3
        obtain ⟨m, rfl⟩ : ∃ m, n = m + 1 := ⟨n - 1, by have := hZ.2.2.1.2.2.1; omega⟩
        rw [u1, Option.bind_some, lt_def, xProdLF u3', g2]
        exact ⟨σ1, rfl, u2, u3'⟩
      · obtain ⟨σ1, u1, u2, u3⟩ := ihU d D n s _ σ hd hn hZ g1
        have u3' : XS Q pl K al oT oP L s1 σ1 := u3
        obtain ⟨cc, st1, -⟩ := hinv 0 d s s1 g1
        have hZ1 := XZ_next hZ st1 u2 u3'
        have hle := st1.2.1
        obtain ⟨σ2, v1, v2, v3⟩ := ihPL d D n s1 r σ1 0 hd (by omega) (by have := hZ1.2.2.2.2.2; omega) hZ1 g2
        rw [u1, Option.bind_some, lt_def]
        exact ⟨σ2, v1, fr_tr u2 v2, v3⟩
    · -- the rest of a product
      intro d D n s r σ c hd hn hc hZ h
      obtain ⟨hX, hNm, hS, hsf, hC, h1⟩ := id hZ
      have h3 := hS.2.2.1
      rw [ev, if_neg (by decide), if_neg (by decide), if_pos rfl] at h
      obtain ⟨m, rfl⟩ : ∃ m, n = m + 1 := ⟨n - 1, by omega⟩
      rw [fX2_parseProduct_L7, if_neg (show ¬ (400 : Int32) ≤ nI c from nI_ge (show c < 400 by omega) (by decide)), xPeekN hT hX hS, Option.bind_some]
      have ck := kx_inj (hT.2.2.1 _ h3).1 (show 11 < 29 by decide)
      rw [show (42 : Int32) = nI (kx 11) from rfl]
      by_cases k : tk s.1 = 11
      · rw [if_pos k] at h
        rw [if_pos (ck.mpr k)]
        obtain ⟨σ1, r1, r2, r3⟩ := xAccN (k := 11) hT hX hS (by decide) (by decide) (by decide)
        have f1 := frE r2 (by decide) (by decide) (by decide)
        rw [r1, Option.bind_some]
        have cF : ∀ e σa, XFl pl K e σa → fr [2, 3, 4, 5, 6, 9] [13, 14, 15, 17, 18] [] σ σa → ∃ σ', Option.bind (fX4_addCode (nI (kx 11)) 0 σa) (fun q_8 => lt (nI c + 1) (fun x2_9 => fX2_parseProduct_L7 (fX2_parseSumD D N) m (nI d) x2_9 q_8)) = some σ' ∧ fr [2, 3, 4, 5, 6, 9] [13, 14, 15, 17, 18] [] σ σ' ∧ XFl pl K e σ' := by
          intro e σa hf fa
          obtain ⟨σb, v1, v2, v3⟩ := xCodeF hf (nI (kx 11)) 0
          obtain ⟨m', rfl⟩ : ∃ m', m = m' + 1 := ⟨m - 1, by omega⟩
          rw [v1, Option.bind_some, lt_def, xProdLF v3]
          exact ⟨σb, rfl, fr_tr fa (frE v2 (by decide) (by decide) (by decide)), v3⟩
        rcases bO_some h with ⟨e, g1, g2⟩ | ⟨s1, g1, g2⟩
        · rw [Option.some.inj g1] at r3
          rw [xUnitF r3, Option.bind_some, g2]
          exact cF e σ1 r3 f1
        · rw [Option.some.inj g1] at r3
          have r3' : XS Q pl K al oT oP L s1 σ1 := r3
          obtain ⟨st1, e1, e2⟩ := stp_acc (K := K) (Option.some.inj g1)
          have hZ1 := XZ_next hZ st1 f1 r3'
          rcases bO_some g2 with ⟨e, g3, g4⟩ | ⟨s2, g3, g4⟩
          · obtain ⟨σ2, u1, u2, u3⟩ := ihU d D m s1 _ σ1 hd (by omega) hZ1 g3
            rw [u1, Option.bind_some, g4]
            exact cF e σ2 u3 (fr_tr f1 u2)
          · obtain ⟨σ2, u1, u2, u3⟩ := ihU d D m s1 _ σ1 hd (by omega) hZ1 g3
            have u3' : XS Q pl K al oT oP L s2 σ2 := u3
            obtain ⟨cc, st2, -⟩ := hinv 0 d s1 s2 g3
            have hZ2 := XZ_next hZ1 st2 u2 u3'
            have h2L := u3'.2.2.1
            have hle := st2.2.1
            have hl2 : s2.2.1.length < s2.1 := by
              have : s2.2.1.length = s.2.1.length + cc.length := by rw [st2.1, List.length_append, e2]
              omega
            obtain ⟨σ3, v1, v2, v3⟩ := xCodeN (k := 7) (v := 0) (show s2.2.1.length < 400 by omega) u3'
            have f3 := frE v2 (by decide) (by decide) (by decide)
            have hZ3 : XZ Q tk tv pl xn nx rp K al oT oP L (aEm 7 0 s2) σ3 := ⟨XTk_fr f3 hZ2.1 (by decide) (by decide) (by decide), NMx_fr f3 hZ2.2.1 (by decide) (by decide), v3, hZ2.2.2.2.1, by
              show (s2.2.1 ++ [(7, 0)]).length ≤ s2.1
              rw [List.length_append]; show s2.2.1.length + 1 ≤ s2.1; omega, hZ2.2.2.2.2.2⟩
            have e7 : fX4_addCode (nI (kx 11)) 0 σ2 = fX4_addCode (xopOf 7) (nI 0) σ2 := rfl
            rw [u1, Option.bind_some, e7, v1, Option.bind_some, lt_def, nI_1]
            obtain ⟨σ4, w1, w2, w3⟩ := ihPL d D m (aEm 7 0 s2) r σ3 (c + 1) hd (by show 420 < m + s2.1; omega) (by show c + 1 < s2.1; omega) hZ3 g4
            exact ⟨σ4, w1, fr_tr f1 (fr_tr u2 (fr_tr f3 w2)), w3⟩
      · rw [if_neg k] at h
        rw [if_neg (fun q => k (ck.mp q)), ← Option.some.inj h]
        exact ⟨σ, rfl, fr_rf, hS⟩
    · -- a sum
      intro d D n s r σ hd hn hZ h
      rw [ev, if_neg (by decide), if_neg (by decide), if_neg (by decide), if_pos rfl] at h
      unfold fX2_parseSum
      rcases bO_some h with ⟨e, g1, g2⟩ | ⟨s1, g1, g2⟩
      · obtain ⟨σ1, u1, u2, u3⟩ := ihP d D n s _ σ hd hn hZ g1
        have u3' : XFl pl K e σ1 := u3
        obtain ⟨m, rfl⟩ : ∃ m, n = m + 1 := ⟨n - 1, by have := hZ.2.2.1.2.2.1; omega⟩
        rw [u1, Option.bind_some, lt_def, xSumLF u3', g2]
        exact ⟨σ1, rfl, u2, u3'⟩
      · obtain ⟨σ1, u1, u2, u3⟩ := ihP d D n s _ σ hd hn hZ g1
        have u3' : XS Q pl K al oT oP L s1 σ1 := u3
        obtain ⟨cc, st1, -⟩ := hinv 1 d s s1 g1
        have hZ1 := XZ_next hZ st1 u2 u3'
        have hle := st1.2.1
        obtain ⟨σ2, v1, v2, v3⟩ := ihSL d D n s1 r σ1 0 hd (by omega) (by have := hZ1.2.2.2.2.2; omega) hZ1 g2
        rw [u1, Option.bind_some, lt_def]
        exact ⟨σ2, v1, fr_tr u2 v2, v3⟩
    · -- the rest of a sum
      intro d D n s r σ c hd hn hc hZ h
      obtain ⟨hX, hNm, hS, hsf, hC, h1⟩ := id hZ
      have h3 := hS.2.2.1
      rw [ev, if_neg (by decide), if_neg (by decide), if_neg (by decide), if_neg (by decide)] at h
      obtain ⟨m, rfl⟩ : ∃ m, n = m + 1 := ⟨n - 1, by omega⟩
      have ck9 := kx_inj (hT.2.2.1 _ h3).1 (show 9 < 29 by decide)
      have ck10 := kx_inj (hT.2.2.1 _ h3).1 (show 10 < 29 by decide)
      rw [fX2_parseSum_L7, if_neg (show ¬ (400 : Int32) ≤ nI c from nI_ge (show c < 400 by omega) (by decide)), xPeekN hT hX hS, Option.bind_some]
      simp only [lt_def]
      rw [xPeekN hT hX hS, Option.bind_some, show (43 : Int32) = nI (kx 9) from rfl, show (45 : Int32) = nI (kx 10) from rfl]
      by_cases k : tk s.1 = 9 ∨ tk s.1 = 10
      · rw [if_pos k] at h
        have hop : nI (kx (tk s.1)) = xopOf (tk s.1 - 4) := by rcases k with k | k <;> rw [k] <;> rfl
        have body : ∃ σ', Option.bind (fX2_accept (nI (kx (tk s.1))) σ) (fun q_10 => Option.bind (fX2_parseProduct (fX2_parseSumD D N) m (nI d) q_10) (fun q_11 => Option.bind (fX4_addCode (nI (kx (tk s.1))) 0 q_11) (fun q_12 => fX2_parseSum_L7 (fX2_parseSumD D N) m (nI d) (nI c + 1) q_12))) = some σ' ∧ fr [2, 3, 4, 5, 6, 9] [13, 14, 15, 17, 18] [] σ σ' ∧ XRs Q pl K al oT oP L r σ' := by
          obtain ⟨σ1, r1, r2, r3⟩ := xAccN (k := tk s.1) hT hX hS (by omega) (by omega) (by omega)
          have f1 := frE r2 (by decide) (by decide) (by decide)
          rw [r1, Option.bind_some]
          have cF : ∀ e σa, XFl pl K e σa → fr [2, 3, 4, 5, 6, 9] [13, 14, 15, 17, 18] [] σ σa → ∃ σ', Option.bind (fX4_addCode (nI (kx (tk s.1))) 0 σa) (fun q_12 => fX2_parseSum_L7 (fX2_parseSumD D N) m (nI d) (nI c + 1) q_12) = some σ' ∧ fr [2, 3, 4, 5, 6, 9] [13, 14, 15, 17, 18] [] σ σ' ∧ XFl pl K e σ' := by
            intro e σa hf fa
            obtain ⟨σb, v1, v2, v3⟩ := xCodeF hf (nI (kx (tk s.1))) 0
            obtain ⟨m', rfl⟩ : ∃ m', m = m' + 1 := ⟨m - 1, by omega⟩
            rw [v1, Option.bind_some, xSumLF v3]
            exact ⟨σb, rfl, fr_tr fa (frE v2 (by decide) (by decide) (by decide)), v3⟩
          rcases bO_some h with ⟨e, g1, g2⟩ | ⟨s1, g1, g2⟩
          · rw [Option.some.inj g1] at r3
            rw [xProdF r3 _ _ (by omega), Option.bind_some, g2]
            exact cF e σ1 r3 f1
          · rw [Option.some.inj g1] at r3
            have r3' : XS Q pl K al oT oP L s1 σ1 := r3
            obtain ⟨st1, e1, e2⟩ := stp_acc (K := K) (Option.some.inj g1)
            have hZ1 := XZ_next hZ st1 f1 r3'
            rcases bO_some g2 with ⟨e, g3, g4⟩ | ⟨s2, g3, g4⟩
            · obtain ⟨σ2, u1, u2, u3⟩ := ihP d D m s1 _ σ1 hd (by omega) hZ1 g3
              rw [u1, Option.bind_some, g4]
              exact cF e σ2 u3 (fr_tr f1 u2)
            · obtain ⟨σ2, u1, u2, u3⟩ := ihP d D m s1 _ σ1 hd (by omega) hZ1 g3
              have u3' : XS Q pl K al oT oP L s2 σ2 := u3
              obtain ⟨cc, st2, -⟩ := hinv 1 d s1 s2 g3
              have hZ2 := XZ_next hZ1 st2 u2 u3'
              have h2L := u3'.2.2.1
              have hle := st2.2.1
              have hl2 : s2.2.1.length < s2.1 := by
                have : s2.2.1.length = s.2.1.length + cc.length := by rw [st2.1, List.length_append, e2]
                omega
              obtain ⟨σ3, v1, v2, v3⟩ := xCodeN (k := tk s.1 - 4) (v := 0) (show s2.2.1.length < 400 by omega) u3'
              have f3 := frE v2 (by decide) (by decide) (by decide)
              have hZ3 : XZ Q tk tv pl xn nx rp K al oT oP L (aEm (tk s.1 - 4) 0 s2) σ3 := ⟨XTk_fr f3 hZ2.1 (by decide) (by decide) (by decide), NMx_fr f3 hZ2.2.1 (by decide) (by decide), v3, hZ2.2.2.2.1, by
                show (s2.2.1 ++ [(tk s.1 - 4, 0)]).length ≤ s2.1
                rw [List.length_append]; show s2.2.1.length + 1 ≤ s2.1; omega, hZ2.2.2.2.2.2⟩
              rw [u1, Option.bind_some, hop, show (0 : Int32) = nI 0 from rfl, v1, Option.bind_some, nI_1]
              obtain ⟨σ4, w1, w2, w3⟩ := ihSL d D m (aEm (tk s.1 - 4) 0 s2) r σ3 (c + 1) hd (by show 420 < m + s2.1; omega) (by show c + 1 < s2.1; omega) hZ3 g4
              exact ⟨σ4, w1, fr_tr f1 (fr_tr u2 (fr_tr f3 w2)), w3⟩
        rcases k with k | k
        · rw [if_pos (ck9.mpr k)]; exact body
        · rw [if_neg (fun q => by have := ck9.mp q; omega), Option.bind_some, if_pos (ck10.mpr k)]
          simp only [xPeekN hT hX hS, Option.bind_some]
          exact body
      · rw [if_neg k] at h
        rw [if_neg (fun q => k (Or.inl (ck9.mp q))), Option.bind_some, if_neg (fun q => k (Or.inr (ck10.mp q))), ← Option.some.inj h]
        exact ⟨σ, rfl, fr_rf, hS⟩
