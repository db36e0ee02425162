/-! ===== PURE: read: a STEP, the class, whole ===== -/
theorem xStep {tk tv pl lk : Nat → Nat} {tw : Nat → Bool} {xn : Nat → Int64} {L : Nat} {nt : Nat → Nat} {rp K n f : Nat} {D : Nat → Nat → Nat} {s : PS} {σ : ST} {r : Res} {rep : Bool} (hn : 600 ≤ n) (hrep : rep = decide (tk s.1 = 22)) (hk : tk s.1 = 20 ∨ tk s.1 = 22)
    (hE : XEnv (dst xn nt K) tk tv pl lk xn (fun k => xn (nt k)) (rpN rp K rep) K (D 5) L) (htw : ∀ i, i ≤ L → tk i = 1 → (tw i = true ↔ ∃ j, j < K ∧ xn (nt j) = xn i)) (h : XBt tk tv pl xn L nt rp K D s σ) (hr : aStep tk tv lk tw f s = some r) :
    ∃ σ', fX2_parseStep n σ = some σ' ∧ fr [2, 3, 4, 5, 6, 7, 8, 9] [10, 11, 12, 13, 14, 15, 16, 17, 18] [9] σ σ' ∧ XEnd tk tv pl xn L nt rp K D s.1 rep r σ' := by
  obtain ⟨hT, hK, hal, hlk, htv, hQ⟩ := id hE
  have hL := hT.1
  obtain ⟨hX, hNM, ⟨hsf, hlen⟩, h1, h2, h3, h4, h5, h6, c, c1, c2, c3⟩ := id h
  have i401 : ix (nI s.1) 401 := ix_nI (show s.1 < 401 by omega) (by decide)
  have hpk : fX2_peek σ = some (nI (kx (tk s.1)), σ) := by
    unfold fX2_peek
    rw [h1, if_pos rfl, h2, if_pos i401, ldA_nI _ 4 _ (by omega), (hX _ h3).1]
  obtain ⟨σ1, a1, a2, a3, a4, a5, a6⟩ := xBgS rep hK h
  have hX1 := XTk_fr a2 hX (by decide) (by decide) (by decide)
  obtain ⟨σ2, b1, b2, b3⟩ := xAccR (k := tk s.1) hT hX1 (r := .inr (st0 s)) ⟨a3, fun s' e => by rw [← Sum.inr.inj e]; exact hsf⟩ (by omega) (by omega) (by omega)
  have hX2 := XTk_h b2 hX1
  have hN2 := NMx_fr b2 a4 (by decide) (by decide)
  have h72 : gI σ2 7 = nI K := by rw [b2.1 7 (by decide), a2.1 7 (by decide), h6]
  obtain ⟨σ3, d1, d2, d3, d4, d5⟩ := xHead (rep := rep) (n := n) (by omega) hK hT hX2 hN2 htw b3 ⟨by rw [b2.2.1 11 (by decide)]; exact a5.1, by rw [b2.2.1 12 (by decide)]; exact a5.2⟩
  obtain ⟨σm, m1, m2⟩ := Option.bind_eq_some_iff.mp d1
  have hX3 := XTk_fr d2 hX2 (by decide) (by decide) (by decide)
  have hN3 : NMx (fun k => xn (nt k)) (rpN rp K rep) K σ3 := by
    refine ⟨fun k hk' => ?_, (d2.1 8 (by decide)).trans hN2.2.1, hN2.2.2⟩
    rw [(d3 k (by omega)).2.2.2]; exact hN2.1 k hk'
  unfold aStep at hr
  rw [← hrep] at hr
  generalize h9 : bS (bS (aAcc tk (tk s.1) (st0 s)) (aNm tk tw)) (aTl tk tv rep) = r9 at hr
  have d4' : XRr (dst xn nt K) pl K (D 5) (D 3) (D 4) L r9 σ3 := by rw [← h9]; exact d4
  -- the E
  have hev : ∃ σ4 r10, fX2_parseSumD 8 n 0 σ3 = some σ4 ∧ fr [2, 3, 4, 5, 6, 9] [13, 14, 15, 17, 18] [] σ3 σ4 ∧ XRs (dst xn nt K) pl K (D 5) (D 3) (D 4) L r10 σ4 ∧ r = bS r10 (aAcc tk 6) ∧ (∀ s10, r10 = .inr s10 → ∃ s9 cd, r9 = .inr s9 ∧ stp K cd s9 s10 ∧ s10.2.2.2.2.1 < 9 ∧ s10.2.1.length ≤ s10.1) := by
    cases r9 with
    | inl e =>
      have hFl : XFl pl K e σ3 := d4'.1
      refine ⟨σ3, .inl e, ?_, fr_rf, hFl, (Option.some.inj hr).symm, fun s10 q => by cases q⟩
      show fX2_parseSum (fX2_parseSumD 7 n) n 0 σ3 = some σ3
      exact xSumF hFl _ n (by omega) 0
    | inr s9 =>
      obtain ⟨s2, y1, y2⟩ := bS_ok h9
      obtain ⟨s1, y3, y4⟩ := bS_ok y1
      have k1 := kp_acc y3
      have k2 := aNm_ok y4
      have k3 := kp_tl y2
      have hZ : XZ (dst xn nt K) tk tv pl xn (fun k => xn (nt k)) (rpN rp K rep) K (D 5) (D 3) (D 4) L s9 σ3 := by
        refine ⟨hX3, hN3, d4'.1, d4'.2 s9 rfl, ?_, ?_⟩
        · rw [k3.1.1, k2.1.1, k1.1.1]
          show s.2.1.length ≤ s9.1
          have : (st0 s).1 = s.1 := rfl
          have := k3.2.1; have := k2.2.1; have := k1.2.1
          omega
        · have := k3.2.1; omega
      have hr' : bO (ev tk tv lk f 3 0 s9) (fun s10 => some (aAcc tk 6 s10)) = some r := hr
      obtain ⟨-, -, -, ihS, -⟩ := xEv (oT := D 3) (oP := D 4) hE n (by omega) f
      rcases bO_some hr' with ⟨e, g1, g2⟩ | ⟨s10, g1, g2⟩
      · obtain ⟨σ4, u1, u2, u3⟩ := ihS 0 7 n s9 _ σ3 (by omega) (by omega) hZ g1
        exact ⟨σ4, .inl e, u1, u2, u3, g2, fun s10 q => by cases q⟩
      · obtain ⟨σ4, u1, u2, u3⟩ := ihS 0 7 n s9 _ σ3 (by omega) (by omega) hZ g1
        obtain ⟨cd, v1, -, -⟩ := ev_inv (tk := tk) (tv := tv) (lk := lk) (K := K) (by omega) htv hlk f 3 0 s9 s10 g1
        refine ⟨σ4, .inr s10, u1, u2, u3, (Option.some.inj g2).symm, fun s10' q => ?_⟩
        obtain rfl := Sum.inr.inj q
        have hZ' := XZ_next hZ v1 u2 u3
        exact ⟨s9, cd, rfl, v1, hZ'.2.2.2.1, hZ'.2.2.2.2.1⟩
  obtain ⟨σ4, r10, e1, e2, e3, e4, e5⟩ := hev
  have hX4 := XTk_fr e2 hX3 (by decide) (by decide) (by decide)
  obtain ⟨σ5, l1, l2, l3⟩ := xAccR (k := 6) hT hX4 (r := r10) ⟨e3, fun s10 q => by obtain ⟨_, _, _, _, q5, _⟩ := e5 s10 q; exact q5⟩ (by decide) (by decide) (by decide)
  rw [← e4] at l3
  have h75 : gI σ5 7 = nI K := by rw [l2.1 7 (by decide), e2.1 7 (by decide), d2.1 7 (by decide), h72]
  have i7 : ix (nI K) 7 := ix_nI hK (by decide)
  have hend : fX4_endStep σ5 = some (sI (sA σ5 16 (upd (gA σ5 16) K (gI σ5 9))) 7 (nI (K + 1))) := by
    unfold fX4_endStep
    rw [h75, if_neg (show ¬ (7 : Int32) ≤ nI K from nI_ge hK (by decide)), if_pos i7, stA_nI _ 16 K _ (by omega), lt_def, lt_def, gI_sA, h75, nI_1]
  refine ⟨sI (sA σ5 16 (upd (gA σ5 16) K (gI σ5 9))) 7 (nI (K + 1)), ?_, ?_, ?_⟩
  · -- the run
    have tail : ∀ v : Int32, v = (if rep = true then 1 else 0) → Option.bind (fX2_parseHead n (gI σ2 7) v σ2) (fun q_14 => Option.bind (fX2_accept 61 q_14) (fun q_15 => Option.bind (fX2_parseSumD 8 n 0 q_15) (fun q_16 => Option.bind (fX2_accept 59 q_16) (fun q_17 => Option.bind (fX4_endStep q_17) (fun q_18 => some q_18))))) = some (sI (sA σ5 16 (upd (gA σ5 16) K (gI σ5 9))) 7 (nI (K + 1))) := by
      intro v hv
      rw [h72, hv, m1, Option.bind_some, m2, Option.bind_some, e1, Option.bind_some, show (59 : Int32) = nI (kx 6) from rfl, l1, Option.bind_some, hend, Option.bind_some]
    have lt7 : gI σ 7 < (7 : Int32) := by rw [h6]; exact nI_lt (show K < 7 from hK) (by decide)
    unfold fX2_parseStep
    rw [hpk, Option.bind_some]
    rcases hk with z | z
    · have er : rep = false := by rw [hrep]; exact decide_eq_false (by omega)
      rw [z] at b1
      rw [er] at a1 tail
      have b1' : fX2_accept 260 σ1 = some σ2 := b1
      rw [z]
      simp only [lt_def]
      have a1' : fX4_beginStep 0 σ = some σ1 := a1
      rw [if_pos (show nI (kx 20) = (260 : Int32) from rfl), if_pos lt7, if_neg (show ¬ nI (kx 20) = (261 : Int32) by decide), a1', Option.bind_some, show nI (kx 20) = (260 : Int32) from rfl, b1', Option.bind_some, if_neg (show ¬ (260 : Int32) = (261 : Int32) by decide)]
      exact tail 0 rfl
    · have er : rep = true := by rw [hrep]; exact decide_eq_true z
      rw [z] at b1
      rw [er] at a1 tail
      have b1' : fX2_accept 261 σ1 = some σ2 := b1
      rw [z]
      simp only [lt_def]
      have a1' : fX4_beginStep 1 σ = some σ1 := a1
      rw [if_neg (show ¬ nI (kx 22) = (260 : Int32) by decide), if_pos (show nI (kx 22) = (261 : Int32) from rfl), if_pos lt7, if_pos (show nI (kx 22) = (261 : Int32) from rfl), a1', Option.bind_some, show nI (kx 22) = (261 : Int32) from rfl, b1', Option.bind_some, if_pos rfl]
      exact tail 1 rfl
  · exact fr_sI (fr_sA (fr_tr (fr_up a2 (by decide) (by decide) (by decide)) (fr_tr (fr_up b2 (by decide) (by decide) (by decide)) (fr_tr (fr_up d2 (by decide) (by decide) (by decide)) (fr_tr (fr_up e2 (by decide) (by decide) (by decide)) (fr_up l2 (by decide) (by decide) (by decide)))))) (by decide)) (by decide)
  · cases hrr : r with
    | inl e =>
      rw [hrr] at l3
      have l3' : XFl pl K e σ5 := l3.1
      exact ⟨l3'.1, l3'.2.1, l3'.2.2.1⟩
    | inr s' =>
      rw [hrr] at l3 e4
      have l3' : XS (dst xn nt K) pl K (D 5) (D 3) (D 4) L s' σ5 := l3.1
      obtain ⟨s10, x1, x2⟩ := bS_ok e4.symm
      obtain ⟨s9, cd, w1, w2, w3, w4⟩ := e5 s10 x1
      rw [w1] at h9
      obtain ⟨s2, y1, y2⟩ := bS_ok h9
      obtain ⟨s1, y3, y4⟩ := bS_ok y1
      have k1 := kp_acc y3
      have k2 := aNm_ok y4
      have k3 := kp_tl y2
      have es' := (aAcc_ok x2).2.2
      have hs1 : s1.1 = s.1 + 1 := k1.2.1
      obtain ⟨t1, t2, t3, t4, t5, t6, c', c1', c2', c3'⟩ := id l3'
      obtain ⟨n1, n2, n3⟩ := hN3
      have hd5 := d5 s1 s9 y3 (by rw [y4]; exact y2)
      have g9 : gB σ5 9 = gB σ3 9 := by rw [l2.2.2 9 (by decide), e2.2.2 9 (by decide)]
      have g10 : gA σ5 10 = gA σ3 10 := by rw [l2.2.1 10 (by decide), e2.2.1 10 (by decide)]
      have g11 : gA σ5 11 = gA σ3 11 := by rw [l2.2.1 11 (by decide), e2.2.1 11 (by decide)]
      have g12 : gA σ5 12 = gA σ3 12 := by rw [l2.2.1 12 (by decide), e2.2.1 12 (by decide)]
      have g16 : gA σ5 16 = gA σ 16 := by rw [l2.2.1 16 (by decide), e2.2.1 16 (by decide), d2.2.1 16 (by decide), b2.2.1 16 (by decide), a2.2.1 16 (by decide)]
      refine ⟨?_, ⟨fun k hk' => ?_, ?_, n3⟩, ⟨l3.2 s' rfl, ?_⟩, t1, t2, t3, t4, t5, rfl, c', c1', c2', fun z => ?_⟩
      · exact XTk_fr (fr_sI (fr_sA fr_rf (by decide)) (by decide) : fr [7] [16] [] σ5 _) (XTk_h l2 hX4) (by decide) (by decide) (by decide)
      · show gB σ5 9 k = xn (uN nt K (s.1 + 1) k)
        rw [g9, uN_at]
        by_cases q : k = K
        · rw [if_pos q, q, hd5.1, hs1]
        · rw [if_neg q]; exact n1 k (by omega)
      · show gI σ5 8 = nI (rpN rp K rep)
        rw [l2.1 8 (by decide), e2.1 8 (by decide)]; exact n2
      · rw [es']; show s10.2.1.length ≤ s10.1 + 1; omega
      · obtain ⟨q0, q1, q2, q3, q4, ⟨m, q5, q6, q7⟩, q8⟩ := c3' z
        have z10 : s10.2.2.2.2.1 = 0 := by rw [es'] at z; exact z
        have z9 : s9.2.2.2.2.1 = 0 := (w2.2.2.1 z10).1
        have z2 : s2.2.2.2.2.1 = 0 := k3.1.2.2.2.2 z9
        have z1 : s1.2.2.2.2.1 = 0 := k2.1.2.2.2.2 z2
        have z0 : s.2.2.2.2.1 = 0 := k1.1.2.2.2.2 z1
        have htf := k2.2.2.2.1 z2
        obtain ⟨-, -, -, p3, p4⟩ := c3 z0
        have hrow := hd5.2 z9
        have hs1L : s1.1 ≤ L := by
          have : s1.1 < s2.1 := by omega
          have : s2.1 < s9.1 := k3.2.1
          have : s9.1 ≤ s10.1 := by have := w2.2.1; omega
          have : s'.1 = s10.1 + 1 := by rw [es']
          omega
        have hnew : ∀ j, j < K → xn (nt j) ≠ xn (s.1 + 1) := fun j hj q => by
          have := (htw s1.1 hs1L k2.2.2.1).mpr ⟨j, hj, by rw [q, hs1]⟩
          rw [htf] at this; cases this
        have hop : s'.2.2.2.1 < 2 ^ K := by
          rw [es']
          refine w2.2.2.2.2.2.2.1 ?_
          rw [k3.1.2.2.1, k2.1.2.2.1, k1.1.2.2.1]
          exact Nat.two_pow_pos K
        have em : m = oA s'.2.2.2.1 (D 5) s'.2.2.1 K := by
          apply Nat.eq_of_testBit_eq
          intro x
          rw [Bool.eq_iff_iff, q7 x, oA_bit]
          constructor
          · rintro (a | ⟨j, j1, j2⟩)
            · exact Or.inl a
            · refine Or.inr ⟨j, ?_, j1, j2⟩
              rcases Nat.lt_or_ge j K with y | y
              · exact y
              · have := Nat.testBit_lt_two_pow (Nat.lt_of_lt_of_le hop (Nat.pow_le_pow_right (by decide) y))
                rw [this] at j1; cases j1
          · rintro (a | ⟨j, -, j1, j2⟩)
            · exact Or.inl a
            · exact Or.inr ⟨j, j1, j2⟩
        refine ⟨fun i j hi hj q => ?_, q1, q2, fun k hk' => ?_, fun k hk' => ?_⟩
        · rw [uN_at, uN_at] at q
          by_cases qi : i = K
          · by_cases qj : j = K
            · omega
            · rw [if_pos qi, if_neg qj] at q
              exact absurd q.symm (hnew j (by omega))
          · by_cases qj : j = K
            · rw [if_neg qi, if_pos qj] at q
              exact absurd q (hnew i (by omega))
            · rw [if_neg qi, if_neg qj] at q
              exact q0 i j (by omega) (by omega) q
        · show gA σ5 13 k = nI (nD D tv K s.1 rep s' 3 k) ∧ gA σ5 14 k = nI (nD D tv K s.1 rep s' 4 k) ∧ gA σ5 15 k = nI (nD D tv K s.1 rep s' 5 k)
          by_cases q : k = K
          · rw [q]
            have e3' : nD D tv K s.1 rep s' 3 K = s'.2.2.1 := by unfold nD; rw [if_pos rfl]; rfl
            have e4' : nD D tv K s.1 rep s' 4 K = s'.2.2.2.1 := by unfold nD; rw [if_pos rfl]; rfl
            have e5' : nD D tv K s.1 rep s' 5 K = oA s'.2.2.2.1 (D 5) s'.2.2.1 K := by unfold nD; rw [if_pos rfl]; rfl
            rw [e3', e4', e5', ← em]; exact ⟨q3, q4, q5⟩
          · have e' : ∀ j, nD D tv K s.1 rep s' j k = D j k := fun j => by unfold nD; rw [if_neg q]
            rw [e', e', e']; exact q8 k (by omega)
        · show gA σ5 10 k = nI (nD D tv K s.1 rep s' 0 k) ∧ gA σ5 11 k = nI (nD D tv K s.1 rep s' 1 k) ∧ gA σ5 12 k = nI (nD D tv K s.1 rep s' 2 k) ∧ upd (gA σ5 16) K (gI σ5 9) k = nI (nD D tv K s.1 rep s' 21 k)
          rw [g10, g11, g12, g16, upd_at]
          by_cases q : k = K
          · rw [if_pos q, q]
            have e0' : nD D tv K s.1 rep s' 0 K = tv (s.1 + 3) := by unfold nD; rw [if_pos rfl]; rfl
            have e1' : nD D tv K s.1 rep s' 1 K = if rep = true then tv (s.1 + 5) else 0 := by unfold nD; rw [if_pos rfl]; rfl
            have e2' : nD D tv K s.1 rep s' 2 K = if rep = true then tv (s.1 + 7) else 0 := by unfold nD; rw [if_pos rfl]; rfl
            have e21 : nD D tv K s.1 rep s' 21 K = s'.2.1.length := by unfold nD; rw [if_pos rfl]; rfl
            rw [e0', e1', e2', e21, c2', q1]
            rw [hs1] at hrow
            refine ⟨hrow.1, ?_, ?_, rfl⟩
            · by_cases qr : rep = true
              · rw [if_pos qr]; have := hrow.2.2; rw [if_pos qr] at this; exact this.1
              · rw [if_neg qr]; have := hrow.2.2; rw [if_neg qr] at this; exact this.1
            · by_cases qr : rep = true
              · rw [if_pos qr]; have := hrow.2.2; rw [if_pos qr] at this; exact this.2.2.1
              · rw [if_neg qr]; have := hrow.2.2; rw [if_neg qr] at this; exact this.2
          · have e' : ∀ j, nD D tv K s.1 rep s' j k = D j k := fun j => by unfold nD; rw [if_neg q]
            rw [if_neg q, e', e', e', e']
            have hk2 : k < K := by omega
            rw [(d3 k (by omega)).1, (d3 k (by omega)).2.1, (d3 k (by omega)).2.2.1, b2.2.1 10 (by decide), b2.2.1 11 (by decide), b2.2.1 12 (by decide), a2.2.1 10 (by decide), (a6 k (by omega)).1, (a6 k (by omega)).2]
            exact p4 k hk2
