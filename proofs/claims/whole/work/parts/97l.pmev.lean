/-! ===== PURE: read: the reference reads an E ===== -/
theorem mOpensF {pl : Nat → Nat} {w : Nat} {c19 c20 : Nat → Int32} {e : Nat × Nat} {τ : ST} (h : MF0 pl w c19 c20 e τ) (x : Int32) : fX11_opens x τ = some τ := by
  unfold fX11_opens
  rw [mIsF h, Option.bind_some]
  simp only [lt_def, if_true]
  rw [mFailF h, Option.bind_some, h.1, if_neg (fl_pos h.2.1)]
theorem mInRF {pl : Nat → Nat} {w : Nat} {c19 c20 : Nat → Int32} {e : Nat × Nat} {τ : ST} (h : MF0 pl w c19 c20 e τ) (x y : Int32) : fX11_inRange x y τ = some (0, τ) := by
  unfold fX11_inRange
  rw [lt_def, mMustF h, Option.bind_some, h.1, if_neg (fl_pos h.2.1)]
theorem mOfT {tk tv pl : Nat → Nat} {mn : Nat → Int64} {w K : Nat} {c19 c20 : Nat → Int32} {L d : Nat} {s : PS} {S : List Nat} {τ : ST} {r : Res} (hw : w < 2) (hd : d ≤ 6) (hl : S.length < 60) (hC : s.2.1.length ≤ 400) (hT : TKs tk tv pl L) (hX : MTk tk tv pl mn L τ) (h : MS pl w K c19 c20 L s S d τ) (hsf : s.2.2.2.2.1 < 9) (hsi : s.2.2.2.2.1 ≠ 0 → s.2.2.2.2.2 < s.1) (kt : 25 ≤ tk s.1 ∧ tk s.1 ≤ 27) (hr : bO (some (aAcc tk (tk s.1) s)) (fun s1 => bO (some (aOpn tk d s1)) (fun s2 => bO (some (aInt tk tv 0 5 s2)) (fun s3 => some (aAcc tk 8 (aEm (tk s.1 - 24) (tv s2.1) (aTab (tv s2.1) s3)))))) = some r) :
    (∀ e, r = .inl e → ∃ τ' c, fX11_ofTable τ = some τ' ∧ frM τ τ' ∧ c ≤ s.2.1.length + 1 ∧ MFs pl w c19 c20 e c S τ') ∧ (∀ s', r = .inr s' → ∃ τ', fX11_ofTable τ = some τ' ∧ frM τ τ' ∧ MS pl w K c19 c20 L s' S d τ') := by
  have hL := hT.1
  have h3 := h.1.2.2.1
  have hop : nI (tk s.1) - 25 + 1 = nI (tk s.1 - 24) := by
    rw [show (25 : Int32) = nI 25 from rfl, pk_sub kt.1, nI_1]; congr 1; omega
  unfold fX11_ofTable
  rw [h.1.2.1, if_pos (ix_nI (show s.1 < 403 by omega) (by decide)), ldA_nI _ 3 _ (by omega), (hX _ h3).1, hop, lt_def]
  obtain ⟨n1, n2⟩ := mNextN hT hX h (by omega) (by omega)
  rcases bO_some hr with ⟨e, g1, g2⟩ | ⟨s1, g1, g2⟩
  · -- too many tokens
    have ge := Option.some.inj g1
    unfold aAcc at ge
    rw [if_pos rfl] at ge
    by_cases c4 : s.1 = 400
    · rw [if_pos c4] at ge
      obtain ⟨τ1, u1, u2, u3⟩ := n2 c4
      rw [u1, Option.bind_some, mOpensF u3.1, Option.bind_some]
      simp only [lt_def]
      rw [mInRF u3.1, Option.bind_some]
      simp only []
      rw [u3.1.1, if_neg (fl_pos u3.1.2.1), g2]
      refine ⟨fun e' he => ?_, fun s' he => by cases he⟩
      rw [← Sum.inl.inj he, ← Sum.inl.inj ge]
      exact ⟨τ1, _, rfl, frM_up u2 (by decide) (by decide) (by decide), Nat.le_succ _, u3⟩
    · rw [if_neg c4] at ge; cases ge
  · obtain ⟨a1, a2, a3⟩ := aAcc_ok (Option.some.inj g1)
    obtain ⟨u1, u2⟩ := n1 a2
    have es1 : mvT s = s1 := a3.symm
    rw [es1] at u2
    have f1 : frM τ (sI τ 4 (nI (s.1 + 1))) := fr_sI fr_rf (by decide)
    have hX1 : MTk tk tv pl mn L (sI τ 4 (nI (s.1 + 1))) := MTk_fr f1 hX (by decide) (by decide) (by decide) (by decide)
    have ec1 : s1.2.1 = s.2.1 := by rw [a3]
    obtain ⟨o1, o2⟩ := mOpens (how := 0) hd (by decide) hl hT hX1 u2
    rw [u1, Option.bind_some]
    rcases bO_some g2 with ⟨e, g3, g4⟩ | ⟨s2, g3, g4⟩
    · obtain ⟨τ2, S', v1, v2, v3, v4⟩ := o1 e (Option.some.inj g3)
      have hS' : S' = S := by rcases v3 with z | z; exact z; rw [z]; rfl
      rw [hS', ec1] at v4
      have v1' : fX11_opens (-1) (sI τ 4 (nI (s.1 + 1))) = some τ2 := v1
      rw [v1', Option.bind_some]
      simp only [lt_def]
      rw [mInRF v4.1, Option.bind_some]
      simp only []
      rw [v4.1.1, if_neg (fl_pos v4.1.2.1), g4]
      refine ⟨fun e' he => ?_, fun s' he => by cases he⟩
      rw [← Sum.inl.inj he]
      exact ⟨τ2, _, rfl, fr_tr f1 v2, Nat.le_succ _, v4⟩
    · obtain ⟨-, -, b2, b3⟩ := aOpn_ok (Option.some.inj g3)
      obtain ⟨τ2, v1, v2, v3⟩ := o2 s2 (Option.some.inj g3)
      have v3' : MS pl w K c19 c20 L s2 S (d + 1) τ2 := v3
      have f2 := fr_tr f1 v2
      have hX2 : MTk tk tv pl mn L τ2 := MTk_fr f2 hX (by decide) (by decide) (by decide) (by decide)
      have ec2 : s2.2 = s.2 := by rw [b3, a3]
      have et2 : s2.1 = s.1 + 2 := by rw [b3, a3]
      have v1' : fX11_opens (-1) (sI τ 4 (nI (s.1 + 1))) = some τ2 := v1
      have h2L := v3'.1.2.2.1
      obtain ⟨i1, i2⟩ := mInR (lo := 0) (hi := 5) (by decide) (by decide) hT hX2 v3' (by rw [ec2]; exact hsf) (by rw [ec2, et2]; intro z; have := hsi z; omega)
      rw [v1', Option.bind_some]
      simp only [lt_def]
      rcases bO_some g4 with ⟨e, g5, g6⟩ | ⟨s3, g5, g6⟩
      · obtain ⟨τ3, w1, w2, w3⟩ := i1 e (Option.some.inj g5)
        have w1' : fX11_inRange 0 5 τ2 = some (0, τ3) := w1
        rw [w1', Option.bind_some]
        simp only []
        rw [w3.1.1, if_neg (fl_pos w3.1.2.1), g6]
        refine ⟨fun e' he => ?_, fun s' he => by cases he⟩
        rw [← Sum.inl.inj he]
        rw [ec2] at w3
        exact ⟨τ3, _, rfl, fr_tr f2 w2, Nat.le_succ _, w3⟩
      · obtain ⟨j1, j2, j3, s0, j4, j5⟩ := aInt_ok (Option.some.inj g5)
        obtain ⟨τ3, w1, w2, w3⟩ := i2 s3 (Option.some.inj g5)
        have f3 := fr_tr f2 w2
        have hX3 : MTk tk tv pl mn L τ3 := MTk_fr f3 hX (by decide) (by decide) (by decide) (by decide)
        have hv := (hT.2.2.1 _ h2L).2.2 j1
        have e5 : ldA τ3 5 (nI s2.1) = nI (tv s2.1) := by rw [ldA_nI _ 5 _ (by omega)]; exact (hX3 _ h2L).2.2.1 j1
        have ec3 : s3.2.1 = s.2.1 := by
          rw [j5]
          rcases j4 with z | z
          · rw [z]; show s2.2.1 = _; rw [ec2]
          · rw [z]; show (aNote 5 s2).2.1 = _
            unfold aNote
            split
            · show s2.2.1 = _; rw [ec2]
            · rw [ec2]
        have e4 : gI τ2 4 = nI s2.1 := v3'.1.2.1
        have w1' : fX11_inRange 0 5 τ2 = some (nI (tv s2.1), τ3) := w1
        rw [w1', Option.bind_some, e4]
        simp only []
        rw [w3.1.1, if_pos (show (0 : Int32) ≤ 0 by decide), if_pos (ix_nI (show s2.1 < 403 by omega) (by decide)), e5]
        -- the table is seen
        have seen : ∃ τ4, frM τ3 τ4 ∧ MS pl w K c19 c20 L (aTab (tv s2.1) s3) S (d + 1) τ4 ∧ (if (5 : Int32) < nI (tv s2.1) then Option.bind (fX11_emit (nI (tk s.1 - 24)) (nI (tv s2.1)) τ3) (fun q_13 => Option.bind (fX11_must 8 q_13) (fun q_14 => some (sI q_14 5 ((gI q_14 5) - 1)))) else Option.bind (fX11_emit (nI (tk s.1 - 24)) (nI (tv s2.1)) (sI τ3 14 ((gI τ3 14) ||| (1 <<< (nI (tv s2.1) &&& 31))))) (fun q_13 => Option.bind (fX11_must 8 q_13) (fun q_14 => some (sI q_14 5 ((gI q_14 5) - 1))))) = Option.bind (fX11_emit (nI (tk s.1 - 24)) (nI (tv s2.1)) τ4) (fun q_13 => Option.bind (fX11_must 8 q_13) (fun q_14 => some (sI q_14 5 ((gI q_14 5) - 1)))) := by
          by_cases z : tv s2.1 < 6
          · have et : aTab (tv s2.1) s3 = (s3.1, s3.2.1, s3.2.2.1 ||| 2 ^ tv s2.1, s3.2.2.2) := by unfold aTab; rw [if_pos z]
            refine ⟨sI τ3 14 (nI (s3.2.2.1 ||| 2 ^ tv s2.1)), fr_sI fr_rf (by decide), ?_, ?_⟩
            · rw [et]
              obtain ⟨⟨h1, h2, h3, h4, h5, h6, h7, h8, h9, h10⟩, g, k, st⟩ := w3
              exact ⟨⟨h1, h2, h3, h4, h5, h6, h7, rfl, h9, h10⟩, g, k, st⟩
            · rw [if_neg (show ¬ (5 : Int32) < nI (tv s2.1) from fun q => by rw [show (5 : Int32) = nI 5 from rfl, nI_lt_iff (by decide) (by omega)] at q; omega), w3.1.2.2.2.2.2.2.2.1, nI_shl1 (by omega), nI_or]
          · have et : aTab (tv s2.1) s3 = s3 := by unfold aTab; rw [if_neg z]
            refine ⟨τ3, fr_rf, ?_, ?_⟩
            · rw [et]; exact w3
            · rw [if_pos (show (5 : Int32) < nI (tv s2.1) from nI_lt (a := 5) (by omega) (by omega))]
        obtain ⟨τ4, q1, q2, q3⟩ := seen
        have ecT : (aTab (tv s2.1) s3).2.1 = s.2.1 := by unfold aTab; split <;> exact ec3
        obtain ⟨τ5, x1, x2, x3⟩ := mEmit (k := tk s.1 - 24) (v := tv s2.1) hw (by rw [ecT]; omega) q2
        have f5 := fr_tr f3 (fr_tr q1 (frM_up x2 (by decide) (by decide) (by decide)))
        have hX5 : MTk tk tv pl mn L τ5 := MTk_fr f5 hX (by decide) (by decide) (by decide) (by decide)
        obtain ⟨y1, y2⟩ := mMust (k := 8) (by decide) (by decide) (by decide) hT hX5 x3
        have ecE : (aEm (tk s.1 - 24) (tv s2.1) (aTab (tv s2.1) s3)).2.1.length = s.2.1.length + 1 := by
          show ((aTab (tv s2.1) s3).2.1 ++ [(tk s.1 - 24, tv s2.1)]).length = _
          rw [List.length_append, ecT]; rfl
        rw [q3, x1, Option.bind_some]
        have g6' := Option.some.inj g6
        cases hr : r with
        | inl e =>
          rw [hr] at g6'
          obtain ⟨τ6, z1, z2, z3⟩ := y1 e g6'
          refine ⟨fun e' he => ?_, fun s' he => by cases he⟩
          rw [← Sum.inl.inj he, show (8 : Int32) = nI 8 from rfl, z1, Option.bind_some]
          refine ⟨_, _, rfl, fr_tr f5 (fr_tr (frM_up z2 (by decide) (by decide) (by decide)) (fr_sI fr_rf (by decide))), Nat.le_of_eq ecE, ?_⟩
          obtain ⟨⟨p1, p2, p3, p4, p5, p6⟩, p7⟩ := z3
          exact ⟨⟨p1, p2, p3, p4, p5, p6⟩, p7⟩
        | inr s' =>
          rw [hr] at g6'
          obtain ⟨τ6, z1, z2, z3⟩ := y2 s' g6'
          refine ⟨fun e' he => (by cases he), fun s'' he => ?_⟩
          rw [← Sum.inr.inj he, show (8 : Int32) = nI 8 from rfl, z1, Option.bind_some, z3.1.2.2.2.2.2.2.2.2.2, nI_pred]
          refine ⟨_, rfl, fr_tr f5 (fr_tr (frM_up z2 (by decide) (by decide) (by decide)) (fr_sI fr_rf (by decide))), ?_⟩
          obtain ⟨⟨h1, h2, h3, h4, h5, h6, h7, h8, h9, h10⟩, g, k, st⟩ := z3
          exact ⟨⟨h1, h2, h3, h4, h5, h6, h7, h8, h9, rfl⟩, g, k, st⟩
