/-! ===== PURE: read: a STEP's head, whole ===== -/
/-- behind the name: takes, and of a report due and weight, then '=' -/
def aTl (tk tv : Nat → Nat) (rep : Bool) (s : PS) : Res :=
  bS (aAcc tk 21 s) (fun s3 => bS (aInt tk tv 1 20 s3) (fun s4 => bS (if rep = true then bS (aAcc tk 23 s4) (fun s5 => bS (aInt tk tv 0 399 s5) (fun s6 => bS (aAcc tk 24 s6) (aInt tk tv 0 100))) else .inr s4) (aAcc tk 4)))
theorem bS_as (r : Res) (f g : PS → Res) : bS (bS r f) g = bS r (fun s => bS (f s) g) := by cases r <;> rfl
theorem bS_ok {r : Res} {f : PS → Res} {s' : PS} (h : bS r f = .inr s') : ∃ s, r = .inr s ∧ f s = .inr s' := by
  cases r with
  | inl e => cases h
  | inr s => exact ⟨s, rfl, h⟩
theorem bS_in (s : PS) (f : PS → Res) : bS (.inr s) f = f s := rfl
theorem aTl_f (tk tv : Nat → Nat) (r : Res) : bS r (aTl tk tv false) = bS (bS (bS r (aAcc tk 21)) (aInt tk tv 1 20)) (aAcc tk 4) := by
  cases r with
  | inl e => rfl
  | inr s =>
    show aTl tk tv false s = bS (bS (aAcc tk 21 s) _) _
    unfold aTl
    simp only [bS_as, bS_in, Bool.false_eq_true, if_false]
theorem aTl_t (tk tv : Nat → Nat) (r : Res) : bS r (aTl tk tv true) = bS (bS (bS (bS (bS (bS (bS r (aAcc tk 21)) (aInt tk tv 1 20)) (aAcc tk 23)) (aInt tk tv 0 399)) (aAcc tk 24)) (aInt tk tv 0 100)) (aAcc tk 4) := by
  cases r with
  | inl e => rfl
  | inr s =>
    show aTl tk tv true s = bS (bS (bS (bS (bS (bS (aAcc tk 21 s) _) _) _) _) _) _
    unfold aTl
    simp only [bS_as, eq_self, if_true]
/-- what a head leaves alone, and that a fault of sense stays -/
def kp (s s' : PS) : Prop := s'.2.1 = s.2.1 ∧ s'.2.2.1 = s.2.2.1 ∧ s'.2.2.2.1 = s.2.2.2.1 ∧ s.1 ≤ s'.1 ∧ (s'.2.2.2.2.1 = 0 → s.2.2.2.2.1 = 0)
theorem kp_tr {a b c : PS} (h1 : kp a b) (h2 : kp b c) : kp a c := ⟨h2.1.trans h1.1, h2.2.1.trans h1.2.1, h2.2.2.1.trans h1.2.2.1, Nat.le_trans h1.2.2.2.1 h2.2.2.2.1, fun z => h1.2.2.2.2 (h2.2.2.2.2 z)⟩
theorem kp_acc {tk : Nat → Nat} {k : Nat} {s s' : PS} (h : aAcc tk k s = .inr s') : kp s s' ∧ s'.1 = s.1 + 1 ∧ tk s.1 = k := by
  obtain ⟨h1, -, rfl⟩ := aAcc_ok h
  exact ⟨⟨rfl, rfl, rfl, Nat.le_succ _, fun z => z⟩, rfl, h1⟩
theorem kp_note (e : Nat) (s : PS) : kp s (aNote e s) := by
  unfold aNote
  by_cases c : s.2.2.2.2.1 = 0
  · rw [if_pos c]; exact ⟨rfl, rfl, rfl, Nat.le_refl _, fun _ => c⟩
  · rw [if_neg c]; exact ⟨rfl, rfl, rfl, Nat.le_refl _, fun z => z⟩
theorem kp_int {tk tv : Nat → Nat} {lo hi : Nat} {s s' : PS} (h : aInt tk tv lo hi s = .inr s') : kp s s' ∧ s'.1 = s.1 + 1 ∧ tk s.1 = 2 := by
  obtain ⟨i1, -, i3, s0, h0, h1⟩ := aInt_ok h
  refine ⟨?_, i3, i1⟩
  rw [h1]
  rcases h0 with rfl | rfl
  · exact ⟨rfl, rfl, rfl, Nat.le_succ _, fun z => z⟩
  · obtain ⟨a, b, c, d, e⟩ := kp_note 5 s
    exact ⟨a, b, c, Nat.le_succ _, e⟩
theorem XTk_h {tk tv pl : Nat → Nat} {xn : Nat → Int64} {L : Nat} {σ σ' : ST} (f : fr [2, 3, 4, 5, 6] [] [] σ σ') (h : XTk tk tv pl xn L σ) : XTk tk tv pl xn L σ' := XTk_fr f h (by decide) (by decide) (by decide)
/-- the head in the class: what the rows hold then -/
theorem xHead {Q : Prop} {tk tv pl : Nat → Nat} {tw : Nat → Bool} {xn nx : Nat → Int64} {rp K n : Nat} {al oT oP : Nat → Nat} {L : Nat} {r : Res} {σ : ST} {rep : Bool} (hn : 20 ≤ n) (hK : K < 7) (hT : TKs tk tv pl L) (hX : XTk tk tv pl xn L σ) (hN : NMx nx rp K σ) (htw : ∀ i, i ≤ L → tk i = 1 → (tw i = true ↔ ∃ j, j < K ∧ nx j = xn i)) (h : XRr Q pl K al oT oP L r σ) (hdu : gA σ 11 K = 0 ∧ gA σ 12 K = 0) :
    ∃ σ', Option.bind (fX2_parseHead n (nI K) (if rep = true then 1 else 0) σ) (fun q_14 => fX2_accept 61 q_14) = some σ' ∧ fr [2, 3, 4, 5, 6] [10, 11, 12] [9] σ σ' ∧ (∀ j, j ≠ K → gA σ' 10 j = gA σ 10 j ∧ gA σ' 11 j = gA σ 11 j ∧ gA σ' 12 j = gA σ 12 j ∧ gB σ' 9 j = gB σ 9 j) ∧ XRr Q pl K al oT oP L (bS (bS r (aNm tk tw)) (aTl tk tv rep)) σ' ∧
      ∀ s s', r = .inr s → bS (aNm tk tw s) (aTl tk tv rep) = .inr s' → gB σ' 9 K = xn s.1 ∧ (s'.2.2.2.2.1 = 0 → gA σ' 10 K = nI (tv (s.1 + 2)) ∧ (1 ≤ tv (s.1 + 2) ∧ tv (s.1 + 2) ≤ 20) ∧ (if rep = true then gA σ' 11 K = nI (tv (s.1 + 4)) ∧ tv (s.1 + 4) ≤ 399 ∧ gA σ' 12 K = nI (tv (s.1 + 6)) ∧ tv (s.1 + 6) ≤ 100 else gA σ' 11 K = 0 ∧ gA σ' 12 K = 0)) := by
  have i7 : ix (nI K) 7 := ix_nI hK (by decide)
  have below : fX10_isBelow (nI K) 7 σ = some (1, σ) := by
    unfold fX10_isBelow
    rw [if_neg (nI_pos (by omega)), if_neg (show ¬ (7 : Int32) ≤ nI K from nI_ge hK (by decide))]
  unfold fX2_parseHead
  rw [below, Option.bind_some, if_neg one_ne]
  obtain ⟨σ1, w1, a1, a2, a3, a4⟩ := xNameR hn hK hT hX hN htw h
  rw [a1, Option.bind_some]
  simp only [if_pos i7, lt_def, stB_nI _ 9 K _ (show K < 2 ^ 31 by omega)]
  have f2 : fr [] [10, 11, 12] [9] σ1 (sB σ1 9 (vp_updL (gB σ1 9) K w1)) := fr_sB fr_rf (by decide)
  have hX1 := XTk_h a2 hX
  have hX2 := XTk_fr f2 hX1 (by decide) (by decide) (by decide)
  have h2 : XRr Q pl K al oT oP L (bS r (aNm tk tw)) (sB σ1 9 (vp_updL (gB σ1 9) K w1)) := ⟨XRs_out f2 a3.1, a3.2⟩
  obtain ⟨σ3, b1, b2, b3⟩ := xAccR (k := 21) hT hX2 h2 (by decide) (by decide) (by decide)
  rw [show (262 : Int32) = nI (kx 21) from rfl, b1, Option.bind_some]
  have hX3 := XTk_h b2 hX2
  obtain ⟨σ4, w4, c1, c2, c3, c4⟩ := xIntR (lo := 1) (hi := 20) (by decide) (by decide) hT hX3 b3
  rw [show (1 : Int32) = nI 1 from rfl, show (20 : Int32) = nI 20 from rfl, c1, Option.bind_some]
  simp only [if_pos i7, lt_def, stA_nI _ 10 K _ (show K < 2 ^ 31 by omega)]
  have hX4 := XTk_h c2 hX3
  have f5 : fr [] [10, 11, 12] [9] σ4 (sA σ4 10 (upd (gA σ4 10) K w4)) := fr_sA fr_rf (by decide)
  have hX5 := XTk_fr f5 hX4 (by decide) (by decide) (by decide)
  have h5 : XRr Q pl K al oT oP L (bS (bS (bS r (aNm tk tw)) (aAcc tk 21)) (aInt tk tv 1 20)) (sA σ4 10 (upd (gA σ4 10) K w4)) := ⟨XRs_out f5 c3.1, c3.2⟩
  generalize hs5 : sA σ4 10 (upd (gA σ4 10) K w4) = σ5 at hX5 h5 f5
  have hs2 := hs5
  have frs : fr [2, 3, 4, 5, 6] [10, 11, 12] [9] σ σ5 := fr_tr (fr_up a2 (by decide) (by decide) (by decide)) (fr_tr (fr_up f2 (by decide) (by decide) (by decide)) (fr_tr (fr_up b2 (by decide) (by decide) (by decide)) (fr_tr (fr_up c2 (by decide) (by decide) (by decide)) (fr_up f5 (by decide) (by decide) (by decide)))))
  have g10 : gA σ5 10 = upd (gA σ 10) K w4 := by rw [← hs5, gA_sA, if_pos rfl, c2.2.1 10 (by decide), b2.2.1 10 (by decide)]; show upd (gA σ1 10) K w4 = _; rw [a2.2.1 10 (by decide)]
  have g11 : gA σ5 11 = gA σ 11 := by rw [← hs5, gA_sA, if_neg (by decide), c2.2.1 11 (by decide), b2.2.1 11 (by decide)]; show gA σ1 11 = _; rw [a2.2.1 11 (by decide)]
  have g12 : gA σ5 12 = gA σ 12 := by rw [← hs5, gA_sA, if_neg (by decide), c2.2.1 12 (by decide), b2.2.1 12 (by decide)]; show gA σ1 12 = _; rw [a2.2.1 12 (by decide)]
  have gb9 : gB σ5 9 = vp_updL (gB σ 9) K w1 := by rw [← hs5, gB_sA, c2.2.2 9 (by decide), b2.2.2 9 (by decide), gB_sB, if_pos rfl, a2.2.2 9 (by decide)]
  cases rep with
  | false =>
    have e0 : (if (false : Bool) = true then (1 : Int32) else 0) = 0 := rfl
    have e0' : (if (false : Bool) = true then nI 1 else (0 : Int32)) = 0 := rfl
    simp only [Bool.false_eq_true, if_false, if_true]
    rw [Option.bind_some]
    obtain ⟨σ6, d1, d2, d3⟩ := xAccR (k := 4) hT hX5 h5 (by decide) (by decide) (by decide)
    rw [show (61 : Int32) = nI (kx 4) from rfl, d1]
    refine ⟨σ6, rfl, fr_tr frs (fr_up d2 (by decide) (by decide) (by decide)), fun j hj => ?_, ?_, fun s s' hr hs => ?_⟩
    · rw [d2.2.1 10 (by decide), d2.2.1 11 (by decide), d2.2.1 12 (by decide), d2.2.2 9 (by decide), g10, g11, g12, gb9, upd_at, updL_at, if_neg hj, if_neg hj]
      exact ⟨rfl, rfl, rfl, rfl⟩
    · rw [aTl_f]; exact d3
    · obtain ⟨s1, y1, y2⟩ := bS_ok hs
      obtain ⟨s3, y3, y4⟩ := bS_ok y2
      obtain ⟨s4, y5, y6⟩ := bS_ok y4
      have y6' : aAcc tk 4 s4 = .inr s' := y6
      have w1' := a4 s s1 hr y1
      have k1 : s1.1 = s.1 + 1 := by
        unfold aNm at y1
        have := (kp_acc y1).2.1
        rw [this]; split
        · rw [aNote_t]
        · rfl
      have k3 := (kp_acc y3).2.1
      have k6 := kp_acc y6'
      rw [d2.2.2 9 (by decide), d2.2.1 10 (by decide), d2.2.1 11 (by decide), d2.2.1 12 (by decide), gb9, updL_at, if_pos rfl, g10, upd_at, if_pos rfl, g11, g12]
      refine ⟨w1', fun z => ?_⟩
      have z4 := k6.1.2.2.2.2 z
      have r4 := c4 s3 s4 (by rw [hr]; show bS (aNm tk tw s) (aAcc tk 21) = _; rw [y1]; exact y3) y5 z4
      rw [show s3.1 = s.1 + 2 by omega] at r4
      exact ⟨r4.2.2, ⟨r4.1, r4.2.1⟩, hdu⟩
  | true =>
    rw [if_pos rfl, if_neg (show ¬ nI 1 = 0 from one_ne)]
    obtain ⟨σ6, d1, d2, d3⟩ := xAccR (k := 23) hT hX5 h5 (by decide) (by decide) (by decide)
    rw [show (263 : Int32) = nI (kx 23) from rfl, d1, Option.bind_some]
    have hX6 := XTk_h d2 hX5
    obtain ⟨σ7, w7, e1, e2, e3, e4⟩ := xIntR (lo := 0) (hi := 399) (by decide) (by decide) hT hX6 d3
    have e1' : fX2_acceptInt 0 399 σ6 = some (w7, σ7) := e1
    rw [e1', Option.bind_some]
    simp only [if_pos i7, lt_def, stA_nI _ 11 K _ (show K < 2 ^ 31 by omega)]
    have hX7 := XTk_h e2 hX6
    have f8 : fr [] [10, 11, 12] [9] σ7 (sA σ7 11 (upd (gA σ7 11) K w7)) := fr_sA fr_rf (by decide)
    have hX8 := XTk_fr f8 hX7 (by decide) (by decide) (by decide)
    have h8 : XRr Q pl K al oT oP L _ (sA σ7 11 (upd (gA σ7 11) K w7)) := ⟨XRs_out f8 e3.1, e3.2⟩
    generalize hs8 : sA σ7 11 (upd (gA σ7 11) K w7) = σ8 at hX8 h8 f8
    obtain ⟨σ9, l1, l2, l3⟩ := xAccR (k := 24) hT hX8 h8 (by decide) (by decide) (by decide)
    rw [show (264 : Int32) = nI (kx 24) from rfl, l1, Option.bind_some]
    have hX9 := XTk_h l2 hX8
    obtain ⟨σA, wA, m1, m2, m3, m4⟩ := xIntR (lo := 0) (hi := 100) (by decide) (by decide) hT hX9 l3
    have m1' : fX2_acceptInt 0 100 σ9 = some (wA, σA) := m1
    rw [m1', Option.bind_some]
    simp only [if_pos i7, lt_def, stA_nI _ 12 K _ (show K < 2 ^ 31 by omega)]
    have hXA := XTk_h m2 hX9
    have fB : fr [] [10, 11, 12] [9] σA (sA σA 12 (upd (gA σA 12) K wA)) := fr_sA fr_rf (by decide)
    have hXB := XTk_fr fB hXA (by decide) (by decide) (by decide)
    have hB : XRr Q pl K al oT oP L _ (sA σA 12 (upd (gA σA 12) K wA)) := ⟨XRs_out fB m3.1, m3.2⟩
    generalize hsB : sA σA 12 (upd (gA σA 12) K wA) = σB at hXB hB fB
    rw [Option.bind_some]
    obtain ⟨σC, q1, q2, q3⟩ := xAccR (k := 4) hT hXB hB (by decide) (by decide) (by decide)
    rw [show (61 : Int32) = nI (kx 4) from rfl, q1]
    have v10 : gA σC 10 = upd (gA σ 10) K w4 := by rw [q2.2.1 10 (by decide), ← hsB, gA_sA, if_neg (by decide), m2.2.1 10 (by decide), l2.2.1 10 (by decide), ← hs8, gA_sA, if_neg (by decide), e2.2.1 10 (by decide), d2.2.1 10 (by decide), g10]
    have v11 : gA σC 11 = upd (gA σ 11) K w7 := by rw [q2.2.1 11 (by decide), ← hsB, gA_sA, if_neg (by decide), m2.2.1 11 (by decide), l2.2.1 11 (by decide), ← hs8, gA_sA, if_pos rfl, e2.2.1 11 (by decide), d2.2.1 11 (by decide), g11]
    have v12 : gA σC 12 = upd (gA σ 12) K wA := by rw [q2.2.1 12 (by decide), ← hsB, gA_sA, if_pos rfl, m2.2.1 12 (by decide), l2.2.1 12 (by decide), ← hs8, gA_sA, if_neg (by decide), e2.2.1 12 (by decide), d2.2.1 12 (by decide), g12]
    have v9 : gB σC 9 = vp_updL (gB σ 9) K w1 := by rw [q2.2.2 9 (by decide), ← hsB, gB_sA, m2.2.2 9 (by decide), l2.2.2 9 (by decide), ← hs8, gB_sA, e2.2.2 9 (by decide), d2.2.2 9 (by decide), gb9]
    refine ⟨σC, rfl, fr_tr frs (fr_tr (fr_up d2 (by decide) (by decide) (by decide)) (fr_tr (fr_up e2 (by decide) (by decide) (by decide)) (fr_tr (fr_up f8 (by decide) (by decide) (by decide)) (fr_tr (fr_up l2 (by decide) (by decide) (by decide)) (fr_tr (fr_up m2 (by decide) (by decide) (by decide)) (fr_tr (fr_up fB (by decide) (by decide) (by decide)) (fr_up q2 (by decide) (by decide) (by decide)))))))), fun j hj => ?_, ?_, fun s s' hr hs => ?_⟩
    · rw [v10, v11, v12, v9, upd_at, upd_at, upd_at, updL_at, if_neg hj, if_neg hj, if_neg hj, if_neg hj]
      exact ⟨rfl, rfl, rfl, rfl⟩
    · rw [aTl_t]; exact q3
    · obtain ⟨s1, y1, y2⟩ := bS_ok hs
      obtain ⟨s3, y3, y4⟩ := bS_ok y2
      obtain ⟨s4, y5, y6⟩ := bS_ok y4
      rw [if_pos rfl] at y6
      obtain ⟨s8, y7, y8⟩ := bS_ok y6
      obtain ⟨s5, y9, yA⟩ := bS_ok y7
      obtain ⟨s6, yB, yC⟩ := bS_ok yA
      obtain ⟨s7, yD, yE⟩ := bS_ok yC
      have w1' := a4 s s1 hr y1
      have k1 : s1.1 = s.1 + 1 := by
        unfold aNm at y1
        have := (kp_acc y1).2.1
        rw [this]; split
        · rw [aNote_t]
        · rfl
      have k3 := (kp_acc y3).2.1
      have k4 := (kp_int y5).2.1
      have k5 := (kp_acc y9)
      have k6 := (kp_int yB)
      have k7 := (kp_acc yD)
      have k8 := (kp_int yE)
      have k9 := (kp_acc y8)
      rw [v9, v10, v11, v12, updL_at, if_pos rfl, upd_at, if_pos rfl, upd_at, if_pos rfl, upd_at, if_pos rfl]
      refine ⟨w1', fun z => ?_⟩
      have z8 := k9.1.2.2.2.2 z
      have z7 := k8.1.2.2.2.2 z8
      have z6 := k7.1.2.2.2.2 z7
      have z5 := k6.1.2.2.2.2 z6
      have z4 := k5.1.2.2.2.2 z5
      have p3 : bS (bS r (aNm tk tw)) (aAcc tk 21) = .inr s3 := by rw [hr]; show bS (aNm tk tw s) (aAcc tk 21) = _; rw [y1]; exact y3
      have p4 : bS (bS (bS r (aNm tk tw)) (aAcc tk 21)) (aInt tk tv 1 20) = .inr s4 := by rw [p3]; exact y5
      have p5 : bS (bS (bS (bS r (aNm tk tw)) (aAcc tk 21)) (aInt tk tv 1 20)) (aAcc tk 23) = .inr s5 := by rw [p4]; exact y9
      have p6 : bS (bS (bS (bS (bS r (aNm tk tw)) (aAcc tk 21)) (aInt tk tv 1 20)) (aAcc tk 23)) (aInt tk tv 0 399) = .inr s6 := by rw [p5]; exact yB
      have p7 : bS (bS (bS (bS (bS (bS r (aNm tk tw)) (aAcc tk 21)) (aInt tk tv 1 20)) (aAcc tk 23)) (aInt tk tv 0 399)) (aAcc tk 24) = .inr s7 := by rw [p6]; exact yD
      have r4 := c4 s3 s4 p3 y5 z4
      have r6 := e4 s5 s6 p5 yB z6
      have r8 := m4 s7 s8 p7 yE z8
      rw [show s3.1 = s.1 + 2 by omega] at r4
      rw [show s5.1 = s.1 + 4 by omega] at r6
      rw [show s7.1 = s.1 + 6 by omega] at r8
      exact ⟨r4.2.2, ⟨r4.1, r4.2.1⟩, by rw [if_pos trivial]; exact ⟨r6.2.2, r6.2.1, r8.2.2, r8.2.1⟩⟩
