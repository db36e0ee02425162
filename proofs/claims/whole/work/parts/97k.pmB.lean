/-! ===== PURE: read: behind a unit, the reference ===== -/
theorem mL7F {pl : Nat → Nat} {w : Nat} {c19 c20 : Nat → Int32} {e : Nat × Nat} {τ : ST} (h : MF0 pl w c19 c20 e τ) (k317 : ST → Option ST) (n : Nat) : fX11_expression_L7 k317 (n + 1) 1 τ = some τ := by
  rw [mL7_eq, if_neg one_ne, h.1, if_neg (fl_ne h.2.1)]
theorem mAfF {pl : Nat → Nat} {w : Nat} {c19 c20 : Nat → Int32} {e : Nat × Nat} {τ : ST} (h : MF0 pl w c19 c20 e τ) (k317 : ST → Option ST) (n : Nat) (x : Int32) : mAf k317 n x τ = k317 τ := by
  unfold mAf mSg mSg2
  simp only [mIsF h, Option.bind_some, if_true]
theorem m158F {pl : Nat → Nat} {w : Nat} {c19 c20 : Nat → Int32} {e : Nat × Nat} {τ : ST} (h : MF0 pl w c19 c20 e τ) (k317 : ST → Option ST) (n m : Nat) (x : Int32) : fX11_expression_L158 (mAf k317 n) (m + 1) x τ = k317 τ := by
  rw [fX11_expression_L158, mIsF h, Option.bind_some]
  simp only [if_true]
  exact mAfF h k317 n x
theorem mCoBot {S : List Nat} (hS : bot S) (hl : S.length < 60) : ∀ m τ, stk S τ → fX11_comesOut_L0 (m + 1) 0 τ = some τ := fun _ _ hk => mCo0 hl hk (Or.inl hS)
theorem mKF_F {pl : Nat → Nat} {w : Nat} {c19 c20 : Nat → Int32} {e : Nat × Nat} {c n : Nat} {P S : List Nat} {τ : ST} (hw : w < 2) (hn : 100 < n) (hS : bot S) (hP : ∀ k ∈ P, isOp k) (hl : (P ++ S).length < 60) (hc : c + P.length < 450) (h : MFs pl w c19 c20 e c (P ++ S) τ) : ∃ τ', mKF n τ = some τ' ∧ frM τ τ' ∧ MF0 pl w c19 c20 e τ' := by
  have hl' : S.length < 60 := by rw [List.length_append] at hl; omega
  obtain ⟨τ', r1, r2, r3⟩ := mCoF (x1 := 0) hw (mCoBot hS hl') P c (n + 1) τ hP (fun _ _ => Or.inr rfl) hl hc (by rw [List.length_append] at hl; omega) h
  unfold mKF
  rw [mInner hS hP (by omega) (by omega) h.2.2, Option.bind_some]
  refine ⟨τ', ?_, r2, r3.1⟩
  simp only []
  split
  · rw [mCo_eq, r1, Option.bind_some]
  · rw [mFailF h.1, Option.bind_some, mCo_eq, r1, Option.bind_some]
theorem mKF_N {tk tv pl : Nat → Nat} {mn : Nat → Int64} {w K : Nat} {c19 c20 : Nat → Int32} {L o n : Nat} {s : PS} {C : List (Nat × Nat)} {P S : List Nat} {τ : ST} (hw : w < 2) (hn : 100 < n) (hT : TKs tk tv pl L) (hX : MTk tk tv pl mn L τ) (hS : bot S) (hP : ∀ k ∈ P, isOp k) (hl : (P ++ S).length < 60) (hc : C.length + P.length < 450) (h : MS pl w K c19 c20 L (wC s C) (P ++ S) o τ) : (S = [] → ∃ τ', mKF n τ = some τ' ∧ frM τ τ' ∧ MS pl w K c19 c20 L (wC s (C ++ pnd P)) [] o τ') ∧ (S ≠ [] → ∃ τ', mKF n τ = some τ' ∧ frM τ τ' ∧ MF0 pl w c19 c20 (1, s.1) τ') := by
  have hl' : S.length < 60 := by rw [List.length_append] at hl; omega
  unfold mKF
  rw [mInner hS hP (by omega) (by omega) h.2.2.1, Option.bind_some]
  constructor
  · intro z
    subst z
    obtain ⟨τ', r1, r2, r3⟩ := mCoN (x1 := 0) (s := s) hw (mCoBot hS hl') P C (n + 1) τ hP (fun _ _ => Or.inr rfl) hl hc (by rw [List.length_append] at hl; omega) h
    refine ⟨τ', ?_, r2, r3⟩
    simp only [show hdS [] = -1 from rfl, if_true]
    rw [mCo_eq, r1, Option.bind_some]
  · intro z
    obtain ⟨b, r, hb, hbb⟩ := hS.resolve_left z
    have hd : ¬ hdS S = -1 := by
      rw [hb]
      show ¬ nI b = -1
      exact nI_ne_m1 (by omega)
    obtain ⟨τ1, u1, u2, u3⟩ := mFailN (e := 1) (Or.inl rfl) hT hX h
    obtain ⟨τ', r1, r2, r3⟩ := mCoF (x1 := 0) hw (mCoBot hS hl') P C.length (n + 1) τ1 hP (fun _ _ => Or.inr rfl) hl hc (by rw [List.length_append] at hl; omega) u3
    refine ⟨τ', ?_, fr_tr (frM_up u2 (by decide) (by decide) (by decide)) r2, r3.1⟩
    simp only [if_neg hd]
    rw [show (1 : Int32) = nI 1 from rfl, u1, Option.bind_some, mCo_eq, r1, Option.bind_some]
theorem mB_exit {tk tv pl : Nat → Nat} {mn : Nat → Int64} {w K : Nat} {c19 c20 : Nat → Int32} {L o n m : Nat} {s : PS} {P S : List Nat} {τ : ST} (hm : 100 < m) (hn : 100 < n) (hT : TKs tk tv pl L) (hX : MTk tk tv pl mn L τ) (hS : bot S) (hP : ∀ k ∈ P, isOp k) (hl : (P ++ S).length < 60) (h : MS pl w K c19 c20 L s (P ++ S) o τ) (h9 : tk s.1 ≠ 9) (h10 : tk s.1 ≠ 10) (h11 : tk s.1 ≠ 11) (h8 : tk s.1 = 8 → ¬ hdS S = 7 ∧ ¬ hdS S = 102) (h5 : tk s.1 = 5 → ¬ hdS S = 100) (k317 : ST → Option ST) : fX11_expression_L158 (mAf k317 n) (m + 1) 1 τ = k317 τ := by
  have is := fun k hk => mIsN hT hX h k hk
  have hAf : mAf k317 n 1 τ = k317 τ := by
    have hSg : mSg k317 n τ = k317 τ := by
      unfold mSg
      rw [show (9 : Int32) = nI 9 from rfl, is 9 (by decide), Option.bind_some]
      simp only [pif]
      rw [if_neg h9, show (10 : Int32) = nI 10 from rfl, is 10 (by decide), Option.bind_some]
      simp only [pif]
      rw [if_neg h10, show (11 : Int32) = nI 11 from rfl, is 11 (by decide), Option.bind_some]
      simp only [pif]
      rw [if_neg h11]
      unfold mSg2
      rw [if_pos rfl]
    unfold mAf
    rw [show (5 : Int32) = nI 5 from rfl, is 5 (by decide), Option.bind_some]
    simp only [pif]
    by_cases c : tk s.1 = 5
    · rw [if_pos c, mInner hS hP (by omega) (by omega) h.2.2.1, Option.bind_some]
      simp only [if_neg (h5 c)]
      exact hSg
    · rw [if_neg c]; exact hSg
  rw [fX11_expression_L158, show (8 : Int32) = nI 8 from rfl, is 8 (by decide), Option.bind_some]
  simp only [pif]
  by_cases c : tk s.1 = 8
  · rw [if_pos c, mInner hS hP (by omega) (by omega) h.2.2.1, Option.bind_some]
    simp only [lt_def, if_neg (h8 c).1]
    rw [mInner hS hP (by omega) (by omega) h.2.2.1, Option.bind_some]
    simp only [if_neg (h8 c).2]
    exact hAf
  · rw [if_neg c]; exact hAf
/-- a bracket is closed -/
theorem mB_close {tk tv pl : Nat → Nat} {mn : Nat → Int64} {w K : Nat} {c19 c20 : Nat → Int32} {L d n m b : Nat} {s : PS} {C : List (Nat × Nat)} {P S : List Nat} {τ : ST} (hw : w < 2) (hm : 100 < m) (hT : TKs tk tv pl L) (hX : MTk tk tv pl mn L τ) (hb : b = 7 ∨ b = 102) (hP : ∀ k ∈ P, isOp k) (hl : (P ++ b :: S).length < 60) (hc : C.length + P.length < 440) (h : MS pl w K c19 c20 L (wC s C) (P ++ b :: S) (d + 1) τ) (hk : tk s.1 = 8) (k317 : ST → Option ST) :
    (s.1 ≠ 400 → ∃ τ', fX11_expression_L158 (mAf k317 n) (m + 1) 1 τ = fX11_expression_L158 (mAf k317 n) m 1 τ' ∧ frM τ τ' ∧ MS pl w K c19 c20 L (if b = 102 then aEm 8 0 (mvT (wC s (C ++ pnd P))) else mvT (wC s (C ++ pnd P))) S d τ') ∧
    (s.1 = 400 → ∃ τ' c, fX11_expression_L158 (mAf k317 n) (m + 1) 1 τ = fX11_expression_L158 (mAf k317 n) m 1 τ' ∧ frM τ τ' ∧ c ≤ C.length + P.length + 1 ∧ MFs pl w c19 c20 (2, s.1) c S τ') := by
  have hbot : bot (b :: S) := Or.inr ⟨b, S, rfl, by omega⟩
  have hl0 : (b :: S).length < 60 := by rw [List.length_append] at hl; omega
  have hlS : S.length < 59 := by rw [List.length_cons] at hl0; omega
  have is8 := mIsN hT hX h 8 (by decide)
  have hin := mInner (n := m) hbot hP (by omega) (by omega) h.2.2.1
  obtain ⟨τ1, r1, r2, r3⟩ := mCoN (x1 := 0) (s := s) hw (mCoBot hbot hl0) P C (m + 1) τ hP (fun _ _ => Or.inr rfl) hl (by omega) (by rw [List.length_append] at hl; omega) h
  obtain ⟨t1, t2⟩ := stk_top r3.2.2.1
  have f2 : fr [16] [21] [] τ1 (sI τ1 16 (nI S.length)) := fr_sI fr_rf (by decide)
  have h2 : MS pl w K c19 c20 L (wC s (C ++ pnd P)) S (d + 1) (sI τ1 16 (nI S.length)) := MS_stk r3 f2 (stk_pop r3.2.2.1)
  have hlen : (C ++ pnd P).length = C.length + P.length := by rw [List.length_append, pnd_len]
  -- after the bracket is gone: maybe max comes out
  have emx : ∃ τ3, (if b = 102 then fX11_emit 8 0 (sI τ1 16 (nI S.length)) else some (sI τ1 16 (nI S.length))) = some τ3 ∧ frM (sI τ1 16 (nI S.length)) τ3 ∧ MS pl w K c19 c20 L (if b = 102 then aEm 8 0 (wC s (C ++ pnd P)) else wC s (C ++ pnd P)) S (d + 1) τ3 := by
    by_cases z : b = 102
    · rw [if_pos z, if_pos z]
      obtain ⟨τ3, u1, u2, u3⟩ := mEmit (k := 8) (v := 0) hw (show (wC s (C ++ pnd P)).2.1.length < 480 from by show (C ++ pnd P).length < 480; omega) h2
      exact ⟨τ3, u1, frM_up u2 (by decide) (by decide) (by decide), u3⟩
    · rw [if_neg z, if_neg z]
      exact ⟨_, rfl, fr_rf, h2⟩
  obtain ⟨τ3, u1, u2, u3⟩ := emx
  have f4 : frM τ3 (sI τ3 5 (nI d)) := fr_sI fr_rf (by decide)
  have o3 : gI τ3 5 = nI (d + 1) := u3.1.2.2.2.2.2.2.2.2.2
  have h4 : MS pl w K c19 c20 L (if b = 102 then aEm 8 0 (wC s (C ++ pnd P)) else wC s (C ++ pnd P)) S d (sI τ3 5 (nI d)) := by
    obtain ⟨⟨h1, h2, h3, h4, h5, h6, h7, h8, h9, h10⟩, g, k, st⟩ := u3
    exact ⟨⟨h1, h2, h3, h4, h5, h6, h7, h8, h9, rfl⟩, g, k, st⟩
  have frt : frM τ (sI τ3 5 (nI d)) := fr_tr r2 (fr_tr (frM_up f2 (by decide) (by decide) (by decide)) (fr_tr u2 f4))
  have hX4 : MTk tk tv pl mn L (sI τ3 5 (nI d)) := MTk_fr frt hX (by decide) (by decide) (by decide) (by decide)
  have et : (if b = 102 then aEm 8 0 (wC s (C ++ pnd P)) else wC s (C ++ pnd P)).1 = s.1 := by split <;> rfl
  have ecl : (if b = 102 then aEm 8 0 (wC s (C ++ pnd P)) else wC s (C ++ pnd P)).2.1.length ≤ C.length + P.length + 1 := by
    split
    · show (C ++ pnd P ++ [(8, 0)]).length ≤ _
      rw [List.length_append, hlen]; exact Nat.le_refl _
    · show (C ++ pnd P).length ≤ _; omega
  obtain ⟨n1, n2⟩ := mNextN hT hX4 h4 (by rw [et, hk]; decide) (by rw [et, hk]; decide)
  rw [et] at n1 n2
  have unfold1 : fX11_expression_L158 (mAf k317 n) (m + 1) 1 τ = Option.bind (fX11_next (sI τ3 5 (nI d))) (fun q_24 => fX11_expression_L158 (mAf k317 n) m 1 q_24) := by
    rw [fX11_expression_L158, show (8 : Int32) = nI 8 from rfl, is8, Option.bind_some]
    simp only [pif]
    have hk' : tk (wC s C).1 = 8 := hk
    rw [if_pos hk', hin, Option.bind_some]
    simp only [lt_def]
    have j : Option.bind (fX11_comesOut m 0 τ) (fun q_18 => if ix (gI (sI q_18 16 ((gI q_18 16) - 1)) 16) 64 then (if (ldA (sI q_18 16 ((gI q_18 16) - 1)) 21 (gI (sI q_18 16 ((gI q_18 16) - 1)) 16)) = 102 then Option.bind (fX11_emit (nI 8) 0 (sI q_18 16 ((gI q_18 16) - 1))) (fun q_26 => Option.bind (fX11_next (sI q_26 5 ((gI q_26 5) - 1))) (fun q_24 => fX11_expression_L158 (mAf k317 n) m 1 q_24)) else Option.bind (fX11_next (sI (sI q_18 16 ((gI q_18 16) - 1)) 5 ((gI (sI q_18 16 ((gI q_18 16) - 1)) 5) - 1))) (fun q_24 => fX11_expression_L158 (mAf k317 n) m 1 q_24)) else none) = Option.bind (fX11_next (sI τ3 5 (nI d))) (fun q_24 => fX11_expression_L158 (mAf k317 n) m 1 q_24) := by
      rw [mCo_eq, r1, Option.bind_some, t1, nI_pred, gI_sI, if_pos rfl, if_pos (ix_nI (show S.length < 64 by omega) (by decide)), ldA_nI _ 21 _ (by omega), gA_sI, t2]
      rcases hb with rfl | rfl
      · rw [if_neg (show ¬ nI 7 = (102 : Int32) by decide)]
        rw [if_neg (by decide)] at u1
        have e3 : τ3 = sI τ1 16 (nI S.length) := (Option.some.inj u1).symm
        rw [← e3, o3, nI_pred]
      · rw [if_pos (show nI 102 = (102 : Int32) from rfl)]
        rw [if_pos rfl] at u1
        rw [show (nI 8 : Int32) = 8 from rfl, u1, Option.bind_some, o3, nI_pred]
    rcases hb with rfl | rfl
    · rw [if_pos (show hdS (7 :: S) = 7 from rfl)]
      exact j
    · rw [if_neg (show ¬ hdS (102 :: S) = 7 from by show ¬ nI 102 = 7; decide), hin, Option.bind_some]
      simp only [if_pos (show hdS (102 :: S) = 102 from rfl)]
      exact j
  rw [unfold1]
  constructor
  · intro c4
    obtain ⟨v1, v2⟩ := n1 c4
    rw [v1, Option.bind_some]
    refine ⟨_, rfl, fr_tr frt (fr_sI fr_rf (by decide)), ?_⟩
    have e5 : mvT (if b = 102 then aEm 8 0 (wC s (C ++ pnd P)) else wC s (C ++ pnd P)) = (if b = 102 then aEm 8 0 (mvT (wC s (C ++ pnd P))) else mvT (wC s (C ++ pnd P))) := by split <;> rfl
    rw [e5] at v2
    exact v2
  · intro c4
    obtain ⟨τ5, v1, v2, v3⟩ := n2 c4
    rw [v1, Option.bind_some]
    exact ⟨τ5, _, rfl, fr_tr frt (frM_up v2 (by decide) (by decide) (by decide)), ecl, v3⟩
/-- a comma of max -/
theorem mB_comma {tk tv pl : Nat → Nat} {mn : Nat → Int64} {w K : Nat} {c19 c20 : Nat → Int32} {L d n m : Nat} {s : PS} {C : List (Nat × Nat)} {P S : List Nat} {τ : ST} (hw : w < 2) (hm : 100 < m) (hn : 100 < n) (hT : TKs tk tv pl L) (hX : MTk tk tv pl mn L τ) (hP : ∀ k ∈ P, isOp k) (hl : (P ++ 100 :: S).length < 60) (hc : C.length + P.length < 440) (h : MS pl w K c19 c20 L (wC s C) (P ++ 100 :: S) d τ) (hk : tk s.1 = 5) (k317 : ST → Option ST) :
    (s.1 ≠ 400 → ∃ τ', fX11_expression_L158 (mAf k317 n) (m + 1) 1 τ = fX11_expression_L7 k317 n 1 τ' ∧ frM τ τ' ∧ MS pl w K c19 c20 L (mvT (wC s (C ++ pnd P))) (102 :: S) d τ') ∧
    (s.1 = 400 → ∃ τ', fX11_expression_L158 (mAf k317 n) (m + 1) 1 τ = fX11_expression_L7 k317 n 1 τ' ∧ frM τ τ' ∧ MF0 pl w c19 c20 (2, s.1) τ') := by
  have hbot : bot (100 :: S) := Or.inr ⟨100, S, rfl, by omega⟩
  have hl0 : (100 :: S).length < 60 := by rw [List.length_append] at hl; omega
  have hlS : S.length < 59 := by rw [List.length_cons] at hl0; omega
  have is8 := mIsN hT hX h 8 (by decide)
  have is5 := mIsN hT hX h 5 (by decide)
  have hin := mInner (n := n) hbot hP (by omega) (by omega) h.2.2.1
  obtain ⟨τ1, r1, r2, r3⟩ := mCoN (x1 := 0) (s := s) hw (mCoBot hbot hl0) P C (n + 1) τ hP (fun _ _ => Or.inr rfl) hl (by omega) (by rw [List.length_append] at hl; omega) h
  obtain ⟨t1, t2⟩ := stk_top r3.2.2.1
  have f2 : fr [16] [21] [] τ1 (sA τ1 21 (upd (gA τ1 21) S.length 102)) := fr_sA fr_rf (by decide)
  have hk2 : stk (102 :: S) (sA τ1 21 (upd (gA τ1 21) S.length 102)) := by
    refine ⟨by rw [List.length_cons]; exact t1, fun j hj => ?_⟩
    rw [List.length_cons] at hj ⊢
    show upd (gA τ1 21) S.length 102 j = _
    rw [upd_at]
    by_cases e : j = S.length
    · rw [if_pos e, e, show S.length + 1 - 1 - S.length = 0 by omega]; rfl
    · have := r3.2.2.1.2 j (by rw [List.length_cons]; omega)
      rw [List.length_cons, show S.length + 1 - 1 - j = (S.length - 1 - j) + 1 by omega] at this
      rw [if_neg e, show S.length + 1 - 1 - j = (S.length - 1 - j) + 1 by omega]
      exact this
  have h2 := MS_stk r3 f2 hk2
  have frt : frM τ (sA τ1 21 (upd (gA τ1 21) S.length 102)) := fr_tr r2 (frM_up f2 (by decide) (by decide) (by decide))
  have hX2 : MTk tk tv pl mn L (sA τ1 21 (upd (gA τ1 21) S.length 102)) := MTk_fr frt hX (by decide) (by decide) (by decide) (by decide)
  have hk' : tk (wC s C).1 = 5 := hk
  have hk'' : tk (wC s (C ++ pnd P)).1 = 5 := hk
  obtain ⟨n1, n2⟩ := mNextN hT hX2 h2 (by rw [hk'']; decide) (by rw [hk'']; decide)
  have unfold1 : fX11_expression_L158 (mAf k317 n) (m + 1) 1 τ = Option.bind (fX11_next (sA τ1 21 (upd (gA τ1 21) S.length 102))) (fun q_63 => fX11_expression_L7 k317 n 1 q_63) := by
    rw [fX11_expression_L158, show (8 : Int32) = nI 8 from rfl, is8, Option.bind_some]
    simp only [pif]
    rw [if_neg (by rw [hk']; decide)]
    unfold mAf
    rw [show (5 : Int32) = nI 5 from rfl, is5, Option.bind_some]
    simp only [pif]
    rw [if_pos hk', hin, Option.bind_some]
    simp only [if_pos (show hdS (100 :: S) = 100 from rfl)]
    rw [mCo_eq, r1, Option.bind_some, t1, nI_pred, if_pos (ix_nI (show S.length < 64 by omega) (by decide)), stA_nI τ1 21 _ _ (by omega)]
  rw [unfold1]
  constructor
  · intro c4
    obtain ⟨v1, v2⟩ := n1 c4
    rw [v1, Option.bind_some]
    exact ⟨_, rfl, fr_tr frt (fr_sI fr_rf (by decide)), v2⟩
  · intro c4
    obtain ⟨τ5, v1, v2, v3⟩ := n2 c4
    rw [v1, Option.bind_some]
    exact ⟨τ5, rfl, fr_tr frt (frM_up v2 (by decide) (by decide) (by decide)), v3.1⟩
/-- a sign -/
theorem mB_sign {tk tv pl : Nat → Nat} {mn : Nat → Int64} {w K : Nat} {c19 c20 : Nat → Int32} {L d n m k : Nat} {x1 : Int32} {s : PS} {C : List (Nat × Nat)} {P S : List Nat} {τ : ST} (hw : w < 2) (hn : 100 < n) (hT : TKs tk tv pl L) (hX : MTk tk tv pl mn L τ) (hk : isOp k) (hx1 : x1 = if k = 11 then 1 else 0) (hS : ∀ m τ, stk S τ → fX11_comesOut_L0 (m + 1) x1 τ = some τ) (hP : ∀ j ∈ P, isOp j) (hPx : ∀ j ∈ P, j = 11 ∨ x1 = 0) (hl : (P ++ S).length < 60) (hc : C.length + P.length < 440) (h : MS pl w K c19 c20 L (wC s C) (P ++ S) d τ) (htk : tk s.1 = k) (k317 : ST → Option ST) :
    (s.1 ≠ 400 → ∃ τ', fX11_expression_L158 (mAf k317 n) (m + 1) 1 τ = fX11_expression_L7 k317 n 1 τ' ∧ frM τ τ' ∧ MS pl w K c19 c20 L (mvT (wC s (C ++ pnd P))) (k :: S) d τ') ∧
    (s.1 = 400 → ∃ τ', fX11_expression_L158 (mAf k317 n) (m + 1) 1 τ = fX11_expression_L7 k317 n 1 τ' ∧ frM τ τ' ∧ MF0 pl w c19 c20 (2, s.1) τ') := by
  have hL := hT.1
  have h3 : s.1 ≤ L := h.1.2.2.1
  have hlS : S.length < 60 := by rw [List.length_append] at hl; omega
  have hk29 : k < 29 := by rcases hk with z | z | z <;> omega
  have is := fun j hj => mIsN hT hX h j hj
  have hk' : tk (wC s C).1 = k := htk
  obtain ⟨τ1, r1, r2, r3⟩ := mCoN (x1 := x1) (s := s) hw hS P C (n + 1) τ hP hPx hl (by omega) (by rw [List.length_append] at hl; omega) h
  have hks := r3.2.2.1
  have f2 : fr [16] [21] [] τ1 (sI (sA τ1 21 (upd (gA τ1 21) S.length (nI k))) 16 (nI (S.length + 1))) := fr_sI (fr_sA fr_rf (by decide)) (by decide)
  have h2 := MS_stk r3 f2 (stk_push (x := k) hks (by omega))
  have frt : frM τ (sI (sA τ1 21 (upd (gA τ1 21) S.length (nI k))) 16 (nI (S.length + 1))) := fr_tr r2 (frM_up f2 (by decide) (by decide) (by decide))
  have hX2 : MTk tk tv pl mn L (sI (sA τ1 21 (upd (gA τ1 21) S.length (nI k))) 16 (nI (S.length + 1))) := MTk_fr frt hX (by decide) (by decide) (by decide) (by decide)
  have hk'' : tk (wC s (C ++ pnd P)).1 = k := htk
  have hk0 : k ≠ 0 ∧ k ≠ 3 ∧ k ≠ 8 ∧ k ≠ 5 := by rcases hk with z | z | z <;> omega
  obtain ⟨n1, n2⟩ := mNextN hT hX2 h2 (by rw [hk'']; exact hk0.1) (by rw [hk'']; exact hk0.2.1)
  have e3 : ldA τ 3 (nI s.1) = nI k := by rw [ldA_nI _ 3 _ (by omega), (hX _ h3).1, htk]
  have sg2 : mSg2 k317 n 1 τ = Option.bind (fX11_next (sI (sA τ1 21 (upd (gA τ1 21) S.length (nI k))) 16 (nI (S.length + 1)))) (fun q_49 => fX11_expression_L7 k317 n 1 q_49) := by
    unfold mSg2
    have e4 : gI τ 4 = nI s.1 := h.1.2.1
    rw [if_neg one_ne, e4, if_pos (ix_nI (show s.1 < 403 by omega) (by decide)), e3]
    have fin : Option.bind (fX11_comesOut n x1 τ) (fun q_45 => if ix (gI q_45 16) 64 then Option.bind (fX11_next (sI (stA q_45 21 (gI q_45 16) (nI k)) 16 ((gI (stA q_45 21 (gI q_45 16) (nI k)) 16) + 1))) (fun q_49 => fX11_expression_L7 k317 n 1 q_49) else none) = Option.bind (fX11_next (sI (sA τ1 21 (upd (gA τ1 21) S.length (nI k))) 16 (nI (S.length + 1)))) (fun q_49 => fX11_expression_L7 k317 n 1 q_49) := by
      rw [mCo_eq, r1, Option.bind_some, hks.1, if_pos (ix_nI (show S.length < 64 by omega) (by decide)), stA_nI τ1 21 _ _ (by omega), gI_sA, hks.1, nI_1]
    by_cases z : k = 11
    · rw [if_pos z] at hx1
      rw [z] at fin ⊢
      rw [if_pos (show nI 11 = (11 : Int32) from rfl)]
      rw [hx1] at fin
      exact fin
    · rw [if_neg z] at hx1
      rw [if_neg (show ¬ nI k = (11 : Int32) from fun q => by rw [show (11 : Int32) = nI 11 from rfl, nI_eq (by omega) (by decide)] at q; exact z q)]
      rw [hx1] at fin
      exact fin
  have unfold1 : fX11_expression_L158 (mAf k317 n) (m + 1) 1 τ = Option.bind (fX11_next (sI (sA τ1 21 (upd (gA τ1 21) S.length (nI k))) 16 (nI (S.length + 1)))) (fun q_49 => fX11_expression_L7 k317 n 1 q_49) := by
    rw [fX11_expression_L158, show (8 : Int32) = nI 8 from rfl, is 8 (by decide), Option.bind_some]
    simp only [pif]
    rw [if_neg (by rw [hk']; exact hk0.2.2.1)]
    unfold mAf
    rw [show (5 : Int32) = nI 5 from rfl, is 5 (by decide), Option.bind_some]
    simp only [pif]
    rw [if_neg (by rw [hk']; exact hk0.2.2.2)]
    unfold mSg
    rw [show (9 : Int32) = nI 9 from rfl, is 9 (by decide), Option.bind_some]
    simp only [pif]
    by_cases c9 : tk (wC s C).1 = 9
    · rw [if_pos c9]; exact sg2
    · rw [if_neg c9, show (10 : Int32) = nI 10 from rfl, is 10 (by decide), Option.bind_some]
      simp only [pif]
      by_cases c10 : tk (wC s C).1 = 10
      · rw [if_pos c10]; exact sg2
      · rw [if_neg c10, show (11 : Int32) = nI 11 from rfl, is 11 (by decide), Option.bind_some]
        simp only [pif]
        have c11 : tk (wC s C).1 = 11 := by
          rw [hk'] at c9 c10 ⊢
          rcases hk with z | z | z
          · exact absurd z c9
          · exact absurd z c10
          · exact z
        rw [if_pos c11]; exact sg2
  rw [unfold1]
  constructor
  · intro c4
    obtain ⟨v1, v2⟩ := n1 c4
    rw [v1, Option.bind_some]
    exact ⟨_, rfl, fr_tr frt (fr_sI fr_rf (by decide)), v2⟩
  · intro c4
    obtain ⟨τ5, v1, v2, v3⟩ := n2 c4
    rw [v1, Option.bind_some]
    exact ⟨τ5, rfl, fr_tr frt (frM_up v2 (by decide) (by decide) (by decide)), v3.1⟩
