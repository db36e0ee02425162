/-! ===== PURE: read: the reference reads an E, whole ===== -/
def MZ (tk tv pl : Nat → Nat) (mn my : Nat → Int64) (rp w K : Nat) (c19 c20 : Nat → Int32) (L : Nat) (s : PS) (τ : ST) : Prop := MTk tk tv pl mn L τ ∧ NMm my rp w K τ ∧ s.2.2.2.2.1 < 9 ∧ (s.2.2.2.2.1 ≠ 0 → s.2.2.2.2.2 < s.1) ∧ s.2.1.length ≤ s.1
theorem MZ_next {tk tv pl : Nat → Nat} {mn my : Nat → Int64} {rp w K : Nat} {c19 c20 : Nat → Int32} {L : Nat} {s s' : PS} {c : List (Nat × Nat)} {τ τ' : ST} (h : MZ tk tv pl mn my rp w K c19 c20 L s τ) (hs : stp K c s s') (f : frM τ τ') : MZ tk tv pl mn my rp w K c19 c20 L s' τ' := by
  obtain ⟨h1, h2, h3, h4, h5⟩ := h
  refine ⟨MTk_fr f h1 (by decide) (by decide) (by decide) (by decide), NMm_fr f h2 (by decide) (by decide), hs.2.2.2.2.2.2.2.1 h3, hs.2.2.2.2.2.2.2.2.1 h4, ?_⟩
  rw [hs.1, List.length_append]
  have := hs.2.1
  omega
theorem coTimes {P0 S0 : List Nat} (hP0 : ∀ k ∈ P0, k = 9 ∨ k = 10) (hS0 : bot S0) (hl : (P0 ++ S0).length < 60) : ∀ m τ, stk (P0 ++ S0) τ → fX11_comesOut_L0 (m + 1) 1 τ = some τ := by
  intro m τ hk
  cases P0 with
  | nil =>
    rcases hS0 with z | ⟨b, r, z, hb⟩
    · subst z
      exact mCo0 hl hk (Or.inl (Or.inl rfl))
    · exact mCo0 hl hk (Or.inl (Or.inr ⟨b, r, z, hb⟩))
  | cons k P =>
    have := hP0 k (List.mem_cons_self ..)
    exact mCo0 hl hk (Or.inr ⟨one_ne, k, P ++ S0, rfl, by omega, by omega⟩)
theorem bot_cons {b : Nat} {S : List Nat} (h : b = 7 ∨ b = 100 ∨ b = 102) : bot (b :: S) := Or.inr ⟨b, S, rfl, h⟩
set_option maxHeartbeats 1000000 in
theorem mEv {tk tv pl lk : Nat → Nat} {mn my : Nat → Int64} {rp w K : Nat} {c19 c20 : Nat → Int32} {L : Nat} (hT : TKs tk tv pl L) (hw : w < 2) (hK : K < 7) (hlkM : ∀ i, i ≤ L → tk i = 1 → lk i = lkM my rp (mn i) 0 K) (hlk : ∀ i, tk i = 1 → lk i ≤ K) (htv : ∀ i, tk i = 2 → tv i < 10000) (n0 : Nat) (hn0 : 100 < n0) : ∀ f,
    (∀ d P0 S0 n s r τ, d ≤ 6 → (∀ k ∈ P0, isOp k) → bot S0 → (P0 ++ S0).length ≤ 3 * d + 2 → 700 ≤ n + s.1 → MZ tk tv pl mn my rp w K c19 c20 L s τ → MS pl w K c19 c20 L s (P0 ++ S0) d τ → ev tk tv lk f 0 d s = some r →
      (∀ e, r = .inl e → ∃ τ', fX11_expression_L7 (mKF n0) n 1 τ = some τ' ∧ frM τ τ' ∧ MF0 pl w c19 c20 e τ') ∧ (∀ s', r = .inr s' → ∃ n' m' τ', fX11_expression_L7 (mKF n0) n 1 τ = fX11_expression_L158 (mAf (mKF n0) n') m' 1 τ' ∧ frM τ τ' ∧ MS pl w K c19 c20 L s' (P0 ++ S0) d τ' ∧ n + s.1 ≤ n' + s'.1 ∧ n + s.1 ≤ m' + s'.1)) ∧
    (∀ d P0 S0 n s r τ, d ≤ 6 → (∀ k ∈ P0, k = 9 ∨ k = 10) → P0.length ≤ 1 → bot S0 → S0.length ≤ 3 * d → 700 ≤ n + s.1 → MZ tk tv pl mn my rp w K c19 c20 L s τ → MS pl w K c19 c20 L s (P0 ++ S0) d τ → ev tk tv lk f 1 d s = some r →
      (∀ e, r = .inl e → ∃ τ', fX11_expression_L7 (mKF n0) n 1 τ = some τ' ∧ frM τ τ' ∧ MF0 pl w c19 c20 e τ') ∧ (∀ s', r = .inr s' → ∃ n' m' τ' P C, fX11_expression_L7 (mKF n0) n 1 τ = fX11_expression_L158 (mAf (mKF n0) n') m' 1 τ' ∧ frM τ τ' ∧ (P = [] ∨ P = [11]) ∧ s'.2.1 = C ++ pnd P ∧ MS pl w K c19 c20 L (wC s' C) (P ++ (P0 ++ S0)) d τ' ∧ n + s.1 ≤ n' + s'.1 ∧ n + s.1 ≤ m' + s'.1 ∧ tk s'.1 ≠ 11)) ∧
    (∀ d P0 S0 n m s r τ P C, d ≤ 6 → (∀ k ∈ P0, k = 9 ∨ k = 10) → P0.length ≤ 1 → bot S0 → S0.length ≤ 3 * d → 700 ≤ n + s.1 → 700 ≤ m + s.1 → MZ tk tv pl mn my rp w K c19 c20 L s τ → (P = [] ∨ P = [11]) → s.2.1 = C ++ pnd P → MS pl w K c19 c20 L (wC s C) (P ++ (P0 ++ S0)) d τ → ev tk tv lk f 2 d s = some r →
      (∀ e, r = .inl e → ∃ τ', fX11_expression_L158 (mAf (mKF n0) n) m 1 τ = some τ' ∧ frM τ τ' ∧ MF0 pl w c19 c20 e τ') ∧ (∀ s', r = .inr s' → ∃ n' m' τ' P' C', fX11_expression_L158 (mAf (mKF n0) n) m 1 τ = fX11_expression_L158 (mAf (mKF n0) n') m' 1 τ' ∧ frM τ τ' ∧ (P' = [] ∨ P' = [11]) ∧ s'.2.1 = C' ++ pnd P' ∧ MS pl w K c19 c20 L (wC s' C') (P' ++ (P0 ++ S0)) d τ' ∧ (n + s.1 ≤ n' + s'.1 ∨ m + s.1 ≤ n' + s'.1) ∧ (n + s.1 ≤ m' + s'.1 ∨ m + s.1 ≤ m' + s'.1) ∧ tk s'.1 ≠ 11)) ∧
    (∀ d S0 n s r τ, d ≤ 6 → bot S0 → S0.length ≤ 3 * d → 700 ≤ n + s.1 → MZ tk tv pl mn my rp w K c19 c20 L s τ → MS pl w K c19 c20 L s S0 d τ → ev tk tv lk f 3 d s = some r →
      (∀ e, r = .inl e → ∃ τ', fX11_expression_L7 (mKF n0) n 1 τ = some τ' ∧ frM τ τ' ∧ MF0 pl w c19 c20 e τ') ∧ (∀ s', r = .inr s' → ∃ n' m' τ' P C, fX11_expression_L7 (mKF n0) n 1 τ = fX11_expression_L158 (mAf (mKF n0) n') m' 1 τ' ∧ frM τ τ' ∧ (∀ k ∈ P, isOp k) ∧ P.length ≤ 2 ∧ s'.2.1 = C ++ pnd P ∧ MS pl w K c19 c20 L (wC s' C) (P ++ S0) d τ' ∧ n + s.1 ≤ n' + s'.1 ∧ n + s.1 ≤ m' + s'.1 ∧ tk s'.1 ≠ 9 ∧ tk s'.1 ≠ 10 ∧ tk s'.1 ≠ 11)) ∧
    (∀ d S0 n m s r τ P C, d ≤ 6 → bot S0 → S0.length ≤ 3 * d → 700 ≤ n + s.1 → 700 ≤ m + s.1 → MZ tk tv pl mn my rp w K c19 c20 L s τ → (∀ k ∈ P, isOp k) → P.length ≤ 2 → s.2.1 = C ++ pnd P → MS pl w K c19 c20 L (wC s C) (P ++ S0) d τ → tk s.1 ≠ 11 → ev tk tv lk f 4 d s = some r →
      (∀ e, r = .inl e → ∃ τ', fX11_expression_L158 (mAf (mKF n0) n) m 1 τ = some τ' ∧ frM τ τ' ∧ MF0 pl w c19 c20 e τ') ∧ (∀ s', r = .inr s' → ∃ n' m' τ' P' C', fX11_expression_L158 (mAf (mKF n0) n) m 1 τ = fX11_expression_L158 (mAf (mKF n0) n') m' 1 τ' ∧ frM τ τ' ∧ (∀ k ∈ P', isOp k) ∧ P'.length ≤ 2 ∧ s'.2.1 = C' ++ pnd P' ∧ MS pl w K c19 c20 L (wC s' C') (P' ++ S0) d τ' ∧ (n + s.1 ≤ n' + s'.1 ∨ m + s.1 ≤ n' + s'.1) ∧ (n + s.1 ≤ m' + s'.1 ∨ m + s.1 ≤ m' + s'.1) ∧ tk s'.1 ≠ 9 ∧ tk s'.1 ≠ 10 ∧ tk s'.1 ≠ 11)) := by
  have hL := hT.1
  intro f
  induction f with
  | zero => exact ⟨fun _ _ _ _ _ _ _ _ _ _ _ _ _ _ h => (by cases h), fun _ _ _ _ _ _ _ _ _ _ _ _ _ _ _ h => (by cases h), fun _ _ _ _ _ _ _ _ _ _ _ _ _ _ _ _ _ _ _ _ _ h => (by cases h), fun _ _ _ _ _ _ _ _ _ _ _ _ h => (by cases h), fun _ _ _ _ _ _ _ _ _ _ _ _ _ _ _ _ _ _ _ _ h => (by cases h)⟩
  | succ f ih =>
    obtain ⟨ihU, ihP, ihPL, ihS, ihSL⟩ := ih
    have hinv := ev_inv (tk := tk) (tv := tv) (lk := lk) (K := K) (by omega) htv hlk f
    refine ⟨?_, ?_, ?_, ?_, ?_⟩
    · -- a unit
      intro d P0 S0 n s r τ hd hP0 hS0 hl hn hZ hM h
      obtain ⟨hX, hNm, hsf, hsi, hC⟩ := id hZ
      have h3 := hM.1.2.2.1
      obtain ⟨q, rfl⟩ : ∃ q, n = q + 1 := ⟨n - 1, by omega⟩
      have hlt : (P0 ++ S0).length < 59 := by omega
      have hPl : P0.length + S0.length < 59 := by rw [List.length_append] at hlt; exact hlt
      have hP20 : P0.length ≤ 20 := by rw [List.length_append] at hl; omega
      have is := fun k hk => mIsN hT hX hM k hk
      -- a fault behind a unit
      have out : ∀ e c n' m' τ', MFs pl w c19 c20 e c (P0 ++ S0) τ' → c ≤ 440 - P0.length → frM τ τ' → 0 < m' → ∃ τ'', fX11_expression_L158 (mAf (mKF n0) n') m' 1 τ' = some τ'' ∧ frM τ τ'' ∧ MF0 pl w c19 c20 e τ'' := by
        intro e c n' m' τ' hf hc ff hm
        obtain ⟨m'', rfl⟩ : ∃ m'', m' = m'' + 1 := ⟨m' - 1, by omega⟩
        obtain ⟨τ'', u1, u2, u3⟩ := mKF_F (n := n0) hw hn0 hS0 hP0 (by omega) (by omega) hf
        rw [m158F hf.1]
        exact ⟨τ'', u1, fr_tr ff u2, u3⟩
      -- brackets
      have close : ∀ (b : Nat) (s2 : PS) n' m' τ2 P C (r2 : Res), b = 7 ∨ b = 102 → frM τ τ2 → MZ tk tv pl mn my rp w K c19 c20 L s2 τ2 → (∀ k ∈ P, isOp k) → P.length ≤ 2 → s2.2.1 = C ++ pnd P → MS pl w K c19 c20 L (wC s2 C) (P ++ b :: (P0 ++ S0)) (d + 1) τ2 → q + 1 + s.1 ≤ n' + s2.1 → q + 1 + s.1 ≤ m' + s2.1 → tk s2.1 ≠ 9 → tk s2.1 ≠ 10 → tk s2.1 ≠ 11 → d < 6 → r2 = (match aAcc tk 8 s2 with | .inl e => .inl e | .inr s3 => .inr (if b = 102 then aEm 8 0 s3 else s3)) →
          (∀ e, r2 = .inl e → ∃ τ', fX11_expression_L158 (mAf (mKF n0) n') m' 1 τ2 = some τ' ∧ frM τ τ' ∧ MF0 pl w c19 c20 e τ') ∧ (∀ s', r2 = .inr s' → ∃ n'' m'' τ', fX11_expression_L158 (mAf (mKF n0) n') m' 1 τ2 = fX11_expression_L158 (mAf (mKF n0) n'') m'' 1 τ' ∧ frM τ τ' ∧ MS pl w K c19 c20 L s' (P0 ++ S0) d τ' ∧ q + 1 + s.1 ≤ n'' + s'.1 ∧ q + 1 + s.1 ≤ m'' + s'.1) := by
        intro b s2 n' m' τ2 P C r2 hb ff hZ2 hP hPl2 hC2 hM2 bn bm t9 t10 t11 hd6 hr2
        have h2L := hM2.1.2.2.1
        have h2L' : s2.1 ≤ L := h2L
        have hlen2 : C.length + P.length ≤ s2.1 := by
          have := hZ2.2.2.2.2
          rw [hC2, List.length_append, pnd_len] at this
          exact this
        obtain ⟨m2, rfl⟩ : ∃ m2, m' = m2 + 1 := ⟨m' - 1, by omega⟩
        have hlb : (P ++ b :: (P0 ++ S0)).length < 60 := by rw [List.length_append, List.length_cons]; omega
        have hbb : bot (b :: (P0 ++ S0)) := bot_cons (by omega)
        by_cases k8 : tk s2.1 = 8
        · obtain ⟨c1, c2⟩ := mB_close (s := s2) (C := C) (P := P) (S := P0 ++ S0) (d := d) (n := n') (m := m2) hw (by omega) hT hZ2.1 hb hP hlb (by omega) hM2 k8 (mKF n0)
          unfold aAcc at hr2
          rw [if_pos k8] at hr2
          by_cases c4 : s2.1 = 400
          · rw [if_pos c4] at hr2
            obtain ⟨τ3, cc, u1, u2, u3, u4⟩ := c2 c4
            obtain ⟨τ4, v1, v2, v3⟩ := out _ cc n' m2 τ3 u4 (by omega) (fr_tr ff u2) (by omega)
            rw [hr2]
            refine ⟨fun e he => ?_, fun s' he => (by cases he)⟩
            rw [← Sum.inl.inj he]
            exact ⟨τ4, u1.trans v1, v2, v3⟩
          · rw [if_neg c4] at hr2
            obtain ⟨τ3, u1, u2, u3⟩ := c1 c4
            rw [hr2]
            refine ⟨fun e he => (by cases he), fun s' he => ?_⟩
            rw [← Sum.inr.inj he]
            rw [← hC2] at u3
            refine ⟨n', m2, τ3, u1, fr_tr ff u2, u3, ?_, ?_⟩
            · have : (if b = 102 then aEm 8 0 (s2.1 + 1, s2.2) else (s2.1 + 1, s2.2)).1 = s2.1 + 1 := by split <;> rfl
              rw [this]; omega
            · have : (if b = 102 then aEm 8 0 (s2.1 + 1, s2.2) else (s2.1 + 1, s2.2)).1 = s2.1 + 1 := by split <;> rfl
              rw [this]; omega
        · unfold aAcc at hr2
          rw [if_neg k8] at hr2
          have hd7 : ¬ hdS (b :: (P0 ++ S0)) = 100 := by
            show ¬ nI b = 100
            rcases hb with rfl | rfl <;> decide
          have ex := mB_exit (n := n') (m := m2) (by omega) (by omega) hT hZ2.1 hbb hP hlb hM2 t9 t10 t11 (fun z => absurd z k8) (fun _ => hd7) (mKF n0)
          obtain ⟨τ3, u1, u2, u3⟩ := (mKF_N (n := n0) (s := s2) hw hn0 hT hZ2.1 hbb hP hlb (by omega) hM2).2 (by simp)
          rw [hr2]
          refine ⟨fun e he => ?_, fun s' he => (by cases he)⟩
          rw [← Sum.inl.inj he]
          exact ⟨τ3, ex.trans u1, fr_tr ff u2, u3⟩
      -- a leaf's token is passed
      have pass : ∀ (s1 : PS) τ1, frM τ τ1 → MS pl w K c19 c20 L s1 (P0 ++ S0) d τ1 → s1.1 = s.1 → s1.2.1.length ≤ s.1 + 1 → (tk s.1 ≠ 0) → (tk s.1 ≠ 3) → (s.1 = 400 → ∃ τ', mNx (mKF n0) q τ1 = some τ' ∧ frM τ τ' ∧ MF0 pl w c19 c20 (2, s.1) τ') ∧ (s.1 ≠ 400 → ∃ n' m' τ', mNx (mKF n0) q τ1 = fX11_expression_L158 (mAf (mKF n0) n') m' 1 τ' ∧ frM τ τ' ∧ MS pl w K c19 c20 L (mvT s1) (P0 ++ S0) d τ' ∧ q + 1 + s.1 ≤ n' + (s.1 + 1) ∧ q + 1 + s.1 ≤ m' + (s.1 + 1)) := by
        intro s1 τ1 ff hM1 et hc1 hk0 hk3
        have hX1 : MTk tk tv pl mn L τ1 := MTk_fr ff hX (by decide) (by decide) (by decide) (by decide)
        obtain ⟨n1, n2⟩ := mNextN hT hX1 hM1 (by rw [et]; exact hk0) (by rw [et]; exact hk3)
        rw [et] at n1 n2
        unfold mNx
        constructor
        · intro c4
          obtain ⟨τ2, u1, u2, u3⟩ := n2 c4
          obtain ⟨τ3, v1, v2, v3⟩ := out _ _ q q τ2 u3 (by omega) (fr_tr ff (frM_up u2 (by decide) (by decide) (by decide))) (by omega)
          rw [u1, Option.bind_some]
          exact ⟨τ3, v1, v2, v3⟩
        · intro c4
          obtain ⟨u1, u2⟩ := n1 c4
          rw [u1, Option.bind_some]
          exact ⟨q, q, _, rfl, fr_tr ff (fr_sI fr_rf (by decide)), u2, by omega, by omega⟩
      rw [ev, if_pos rfl] at h
      rw [mL7_eq, if_neg one_ne, hM.1.1, if_pos rfl, show (7 : Int32) = nI 7 from rfl, is 7 (by decide), Option.bind_some]
      simp only [pif]
      by_cases k7 : tk s.1 = 7
      · -- a bracket
        rw [if_neg (by omega), if_neg (by omega), if_neg (by omega), if_neg (by omega), if_pos k7] at h
        rw [if_pos k7]
        obtain ⟨o1, o2⟩ := mOpens (how := 7) hd (by decide) (by omega) hT hX hM
        have e7 : hwI 7 = nI 7 := rfl
        rw [e7] at o1 o2
        rcases bO_some h with ⟨e, g1, g2⟩ | ⟨s1, g1, g2⟩
        · obtain ⟨τ1, S', u1, u2, u3, u4⟩ := o1 e (Option.some.inj g1)
          obtain ⟨q', rfl⟩ : ∃ q', q = q' + 1 := ⟨q - 1, by omega⟩
          rw [u1, Option.bind_some, mL7F u4.1, g2]
          refine ⟨fun e' he => ?_, fun s' he => (by cases he)⟩
          rw [← Sum.inl.inj he]
          exact ⟨τ1, rfl, u2, u4.1⟩
        · obtain ⟨hd6, -, -, b3⟩ := aOpn_ok (Option.some.inj g1)
          obtain ⟨τ1, u1, u2, u3⟩ := o2 s1 (Option.some.inj g1)
          have u3' : MS pl w K c19 c20 L s1 (7 :: (P0 ++ S0)) (d + 1) τ1 := u3
          have hZ1 := MZ_next hZ (stp_opn (K := K) (Option.some.inj g1)).1 u2
          have et1 : s1.1 = s.1 + 1 := by rw [b3]
          rw [u1, Option.bind_some]
          rcases bO_some g2 with ⟨e, g3, g4⟩ | ⟨s2, g3, g4⟩
          · obtain ⟨w1, -⟩ := ihS (d + 1) (7 :: (P0 ++ S0)) q s1 _ τ1 (by omega) (bot_cons (by omega)) (by rw [List.length_cons]; omega) (by omega) hZ1 u3' g3
            obtain ⟨τ2, x1, x2, x3⟩ := w1 e rfl
            rw [g4]
            refine ⟨fun e' he => ?_, fun s' he => (by cases he)⟩
            rw [← Sum.inl.inj he]
            exact ⟨τ2, x1, fr_tr u2 x2, x3⟩
          · obtain ⟨-, w2⟩ := ihS (d + 1) (7 :: (P0 ++ S0)) q s1 _ τ1 (by omega) (bot_cons (by omega)) (by rw [List.length_cons]; omega) (by omega) hZ1 u3' g3
            obtain ⟨n', m', τ2, P, C, x1, x2, x3, x4, x5, x6, x7, x8, x9, x10, x11⟩ := w2 s2 rfl
            obtain ⟨cc, st2, -⟩ := hinv 3 (d + 1) s1 s2 g3
            have hZ2 := MZ_next hZ1 st2 x2
            obtain ⟨y1, y2⟩ := close 7 s2 n' m' τ2 P C r (Or.inl rfl) (fr_tr u2 x2) hZ2 x3 x4 x5 x6 (by omega) (by omega) x9 x10 x11 hd6 (by
              rw [← Option.some.inj g4]
              cases aAcc tk 8 s2 with
              | inl e => rfl
              | inr s3 => rfl)
            rw [x1]
            exact ⟨y1, y2⟩
      · rw [if_neg k7, show (28 : Int32) = nI 28 from rfl, is 28 (by decide), Option.bind_some]
        simp only [pif]
        by_cases km : tk s.1 = 28
        · -- max
          rw [if_neg (by omega), if_neg (by omega), if_neg (by omega), if_pos km] at h
          rw [if_pos km]
          obtain ⟨n1, n2⟩ := mNextN hT hX hM (by omega) (by omega)
          obtain ⟨q', hq'⟩ : ∃ q', q = q' + 1 := ⟨q - 1, by omega⟩
          rcases bO_some h with ⟨e, g1, g2⟩ | ⟨s1, g1, g2⟩
          · have ge := Option.some.inj g1
            unfold aAcc at ge
            rw [if_pos km] at ge
            by_cases c4 : s.1 = 400
            · rw [if_pos c4] at ge
              obtain ⟨τ1, u1, u2, u3⟩ := n2 c4
              rw [u1, Option.bind_some, mOpensF u3.1, Option.bind_some, hq', mL7F u3.1, g2]
              refine ⟨fun e' he => ?_, fun s' he => (by cases he)⟩
              rw [← Sum.inl.inj he, ← Sum.inl.inj ge]
              exact ⟨τ1, rfl, frM_up u2 (by decide) (by decide) (by decide), u3.1⟩
            · rw [if_neg c4] at ge; cases ge
          · obtain ⟨a1, a2, a3⟩ := aAcc_ok (Option.some.inj g1)
            obtain ⟨u1, u2⟩ := n1 a2
            rw [show mvT s = s1 from a3.symm] at u2
            have f1 : frM τ (sI τ 4 (nI (s.1 + 1))) := fr_sI fr_rf (by decide)
            have hZ1 := MZ_next hZ (stp_acc (K := K) (Option.some.inj g1)).1 f1
            have et1 : s1.1 = s.1 + 1 := by rw [a3]
            obtain ⟨o1, o2⟩ := mOpens (how := 100) hd (by decide) (by omega) hT hZ1.1 u2
            have e100 : hwI 100 = 100 := rfl
            rw [e100] at o1 o2
            rw [u1, Option.bind_some]
            rcases bO_some g2 with ⟨e, g3, g4⟩ | ⟨s2, g3, g4⟩
            · obtain ⟨τ2, S', v1, v2, v3, v4⟩ := o1 e (Option.some.inj g3)
              rw [v1, Option.bind_some, hq', mL7F v4.1, g4]
              refine ⟨fun e' he => ?_, fun s' he => (by cases he)⟩
              rw [← Sum.inl.inj he]
              exact ⟨τ2, rfl, fr_tr f1 v2, v4.1⟩
            · obtain ⟨hd6, -, -, b3⟩ := aOpn_ok (Option.some.inj g3)
              obtain ⟨τ2, v1, v2, v3⟩ := o2 s2 (Option.some.inj g3)
              have v3' : MS pl w K c19 c20 L s2 (100 :: (P0 ++ S0)) (d + 1) τ2 := v3
              have f2 := fr_tr f1 v2
              have hZ2 := MZ_next hZ1 (stp_opn (K := K) (Option.some.inj g3)).1 v2
              have et2 : s2.1 = s.1 + 2 := by rw [b3, et1]
              rw [v1, Option.bind_some]
              rcases bO_some g4 with ⟨e, g5, g6⟩ | ⟨s3, g5, g6⟩
              · obtain ⟨w1, -⟩ := ihS (d + 1) (100 :: (P0 ++ S0)) q s2 _ τ2 (by omega) (bot_cons (by omega)) (by rw [List.length_cons]; omega) (by omega) hZ2 v3' g5
                obtain ⟨τ3, x1, x2, x3⟩ := w1 e rfl
                rw [g6]
                refine ⟨fun e' he => ?_, fun s' he => (by cases he)⟩
                rw [← Sum.inl.inj he]
                exact ⟨τ3, x1, fr_tr f2 x2, x3⟩
              · obtain ⟨-, w2⟩ := ihS (d + 1) (100 :: (P0 ++ S0)) q s2 _ τ2 (by omega) (bot_cons (by omega)) (by rw [List.length_cons]; omega) (by omega) hZ2 v3' g5
                obtain ⟨n', m', τ3, P, C, x1, x2, x3, x4, x5, x6, x7, x8, x9, x10, x11⟩ := w2 s3 rfl
                obtain ⟨cc, st3, -⟩ := hinv 3 (d + 1) s2 s3 g5
                have hZ3 := MZ_next hZ2 st3 x2
                have f3 := fr_tr f2 x2
                have h3L : s3.1 ≤ L := x6.1.2.2.1
                have hlen3 : C.length + P.length ≤ s3.1 := by
                  have := hZ3.2.2.2.2
                  rw [x5, List.length_append, pnd_len] at this
                  exact this
                obtain ⟨m2, hm2⟩ : ∃ m2, m' = m2 + 1 := ⟨m' - 1, by omega⟩
                have hl3 : (P ++ 100 :: (P0 ++ S0)).length < 60 := by rw [List.length_append, List.length_cons]; omega
                rw [x1]
                rcases bO_some g6 with ⟨e, g7, g8⟩ | ⟨s4, g7, g8⟩
                · have ge := Option.some.inj g7
                  unfold aAcc at ge
                  by_cases k5 : tk s3.1 = 5
                  · rw [if_pos k5] at ge
                    by_cases c4 : s3.1 = 400
                    · rw [if_pos c4] at ge
                      obtain ⟨τ4, y1, y2, y3⟩ := (mB_comma (s := s3) (C := C) (P := P) (S := P0 ++ S0) (d := d + 1) (n := n') (m := m2) hw (by omega) (by omega) hT hZ3.1 x3 hl3 (by omega) x6 k5 (mKF n0)).2 c4
                      obtain ⟨n'', hn''⟩ : ∃ n'', n' = n'' + 1 := ⟨n' - 1, by omega⟩
                      rw [hm2, y1, hn'', mL7F y3, g8]
                      refine ⟨fun e' he => ?_, fun s' he => (by cases he)⟩
                      rw [← Sum.inl.inj he, ← Sum.inl.inj ge]
                      exact ⟨τ4, rfl, fr_tr f3 y2, y3⟩
                    · rw [if_neg c4] at ge; cases ge
                  · rw [if_neg k5] at ge
                    have ex := mB_exit (n := n') (m := m2) (by omega) (by omega) hT hZ3.1 (bot_cons (S := P0 ++ S0) (b := 100) (by omega)) x3 hl3 x6 x9 x10 x11 (fun _ => ⟨by show ¬ nI 100 = 7; decide, by show ¬ nI 100 = 102; decide⟩) (fun z => absurd z k5) (mKF n0)
                    obtain ⟨τ4, y1, y2, y3⟩ := (mKF_N (n := n0) (s := s3) hw hn0 hT hZ3.1 (bot_cons (S := P0 ++ S0) (b := 100) (by omega)) x3 hl3 (by omega) x6).2 (by simp)
                    rw [hm2, ex, y1, g8]
                    refine ⟨fun e' he => ?_, fun s' he => (by cases he)⟩
                    rw [← Sum.inl.inj he, ← Sum.inl.inj ge]
                    exact ⟨τ4, rfl, fr_tr f3 y2, y3⟩
                · obtain ⟨k5, c4, a5⟩ := aAcc_ok (Option.some.inj g7)
                  obtain ⟨τ4, y1, y2, y3⟩ := (mB_comma (s := s3) (C := C) (P := P) (S := P0 ++ S0) (d := d + 1) (n := n') (m := m2) hw (by omega) (by omega) hT hZ3.1 x3 hl3 (by omega) x6 k5 (mKF n0)).1 c4
                  rw [← x5] at y3
                  have y3' : MS pl w K c19 c20 L s4 (102 :: (P0 ++ S0)) (d + 1) τ4 := by rw [a5]; exact y3
                  have hZ4 := MZ_next hZ3 (stp_acc (K := K) (Option.some.inj g7)).1 y2
                  have f4 := fr_tr f3 y2
                  have et4 : s4.1 = s3.1 + 1 := by rw [a5]
                  rw [hm2, y1]
                  rcases bO_some g8 with ⟨e, g9, g10⟩ | ⟨s5, g9, g10⟩
                  · obtain ⟨w1, -⟩ := ihS (d + 1) (102 :: (P0 ++ S0)) n' s4 _ τ4 (by omega) (bot_cons (by omega)) (by rw [List.length_cons]; omega) (by omega) hZ4 y3' g9
                    obtain ⟨τ5, z1, z2, z3⟩ := w1 e rfl
                    rw [g10]
                    refine ⟨fun e' he => ?_, fun s' he => (by cases he)⟩
                    rw [← Sum.inl.inj he]
                    exact ⟨τ5, z1, fr_tr f4 z2, z3⟩
                  · obtain ⟨-, w2⟩ := ihS (d + 1) (102 :: (P0 ++ S0)) n' s4 _ τ4 (by omega) (bot_cons (by omega)) (by rw [List.length_cons]; omega) (by omega) hZ4 y3' g9
                    obtain ⟨n5, m5, τ5, P5, C5, z1, z2, z3, z4, z5, z6, z7, z8, z9, z10, z11⟩ := w2 s5 rfl
                    obtain ⟨cc5, st5, -⟩ := hinv 3 (d + 1) s4 s5 g9
                    have hZ5 := MZ_next hZ4 st5 z2
                    obtain ⟨v5, v6⟩ := close 102 s5 n5 m5 τ5 P5 C5 r (Or.inr rfl) (fr_tr f4 z2) hZ5 z3 z4 z5 z6 (by omega) (by omega) z9 z10 z11 hd6 (by
                      cases hc8 : aAcc tk 8 s5 with
                      | inl e =>
                        rw [hc8] at g10
                        exact (Option.some.inj g10).symm
                      | inr s6 =>
                        rw [hc8] at g10
                        exact (Option.some.inj g10).symm)
                    rw [z1]
                    exact ⟨v5, v6⟩
        · rw [if_neg km, show (25 : Int32) = nI 25 from rfl, is 25 (by decide), Option.bind_some]
          simp only [pif]
          by_cases kt : 25 ≤ tk s.1 ∧ tk s.1 ≤ 27
          · -- a table
            rw [if_neg (by omega), if_neg (by omega), if_pos kt] at h
            obtain ⟨t1, t2⟩ := mOfT hw hd (by omega) (by omega) hT hX hM hsf hsi kt h
            have tb : (∀ e, r = .inl e → ∃ τ', mTb (mKF n0) q τ = some τ' ∧ frM τ τ' ∧ MF0 pl w c19 c20 e τ') ∧ (∀ s', r = .inr s' → ∃ n' m' τ', mTb (mKF n0) q τ = fX11_expression_L158 (mAf (mKF n0) n') m' 1 τ' ∧ frM τ τ' ∧ MS pl w K c19 c20 L s' (P0 ++ S0) d τ' ∧ q + 1 + s.1 ≤ n' + s'.1 ∧ q + 1 + s.1 ≤ m' + s'.1) := by
              unfold mTb
              constructor
              · intro e he
                obtain ⟨τ1, c, u1, u2, u3, u4⟩ := t1 e he
                obtain ⟨τ2, v1, v2, v3⟩ := out e c q q τ1 u4 (by omega) u2 (by omega)
                rw [u1, Option.bind_some]
                exact ⟨τ2, v1, v2, v3⟩
              · intro s' he
                obtain ⟨τ1, u1, u2, u3⟩ := t2 s' he
                rw [u1, Option.bind_some]
                have hadv : s.1 < s'.1 := by
                  have e0 : ev tk tv lk (f + 1) 0 d s = some r := by
                    rw [ev, if_pos rfl, if_neg (by omega), if_neg (by omega), if_pos kt]; exact h
                  exact (ev_adv (f + 1) 0 d s r (by omega) e0 s' he).2.2 (Or.inl rfl)
                exact ⟨q, q, τ1, rfl, u2, u3, by omega, by omega⟩
            by_cases e25 : tk s.1 = 25
            · rw [if_pos e25]; exact tb
            · rw [if_neg e25, show (26 : Int32) = nI 26 from rfl, is 26 (by decide), Option.bind_some]
              simp only [pif]
              by_cases e26 : tk s.1 = 26
              · rw [if_pos e26]; exact tb
              · rw [if_neg e26, show (27 : Int32) = nI 27 from rfl, is 27 (by decide), Option.bind_some]
                simp only [pif]
                rw [if_pos (show tk s.1 = 27 by omega)]; exact tb
          · rw [if_neg (show ¬ tk s.1 = 25 by omega), show (26 : Int32) = nI 26 from rfl, is 26 (by decide), Option.bind_some]
            simp only [pif]
            rw [if_neg (show ¬ tk s.1 = 26 by omega), show (27 : Int32) = nI 27 from rfl, is 27 (by decide), Option.bind_some]
            simp only [pif]
            rw [if_neg (show ¬ tk s.1 = 27 by omega), show (2 : Int32) = nI 2 from rfl, is 2 (by decide), Option.bind_some]
            simp only [pif]
            by_cases k2 : tk s.1 = 2
            · -- a number
              rw [if_pos k2] at h
              rw [if_pos k2]
              obtain ⟨τ1, u1, u2, u3⟩ := mEmit (k := 0) (v := tv s.1) hw (by omega) hM
              have e5 : gA τ 5 s.1 = nI (tv s.1) := (hX _ h3).2.2.1 k2
              obtain ⟨p1, p2⟩ := pass (aEm 0 (tv s.1) s) τ1 (frM_up u2 (by decide) (by decide) (by decide)) u3 rfl (by show (s.2.1 ++ [(0, tv s.1)]).length ≤ s.1 + 1; rw [List.length_append]; show s.2.1.length + 1 ≤ s.1 + 1; omega) (by omega) (by omega)
              have lf : mLf (mKF n0) q τ = mNx (mKF n0) q τ1 := by
                unfold mLf
                rw [hM.1.1, if_pos (show (0 : Int32) ≤ 0 by decide), show (2 : Int32) = nI 2 from rfl, is 2 (by decide), Option.bind_some]
                simp only [pif]
                rw [if_pos k2, hM.1.2.1, if_pos (ix_nI (show s.1 < 403 by omega) (by decide)), ldA_nI _ 5 _ (by omega), e5]
                have u1' : fX11_emit 0 (nI (tv s.1)) τ = some τ1 := u1
                rw [u1', Option.bind_some]
              rw [lf]
              have g := h
              unfold aAcc at g
              rw [if_pos k2] at g
              by_cases c4 : s.1 = 400
              · rw [if_pos c4] at g
                have g' : r = .inl (2, s.1) := (Option.some.inj g).symm
                rw [g']
                refine ⟨fun e he => ?_, fun s' he => (by cases he)⟩
                rw [← Sum.inl.inj he]
                exact p1 c4
              · rw [if_neg c4] at g
                have g' : r = .inr (aEm 0 (tv s.1) (s.1 + 1, s.2)) := (Option.some.inj g).symm
                rw [g']
                refine ⟨fun e he => (by cases he), fun s' he => ?_⟩
                rw [← Sum.inr.inj he]
                exact p2 c4
            · rw [if_neg k2] at h
              rw [if_neg k2, show (1 : Int32) = nI 1 from rfl, is 1 (by decide), Option.bind_some]
              simp only [pif]
              by_cases k1 : tk s.1 = 1
              · -- a name
                rw [if_pos k1] at h
                rw [if_pos k1]
                have hlk' := hlkM _ h3 k1
                obtain ⟨τ1, u1, u2, u3⟩ := mNamed (n := q) (by omega) hw hK (by omega) hT hX hM hNm k1 hsf hsi
                rw [← hlk'] at u3
                have es : ∀ s0, s0 = (if lk s.1 = 0 then aEm 0 0 (aNote 4 s) else aEm 4 (lk s.1 - 1) (aPrt (lk s.1 - 1) s)) → s0.1 = s.1 ∧ s0.2.1.length ≤ s.1 + 1 := by
                  intro s0 hs0
                  rw [hs0]
                  split
                  · refine ⟨aNote_t 4 s, ?_⟩
                    show ((aNote 4 s).2.1 ++ [(0, 0)]).length ≤ s.1 + 1
                    have : (aNote 4 s).2.1 = s.2.1 := by unfold aNote; split <;> rfl
                    rw [this, List.length_append]; show s.2.1.length + 1 ≤ s.1 + 1; omega
                  · refine ⟨rfl, ?_⟩
                    show (s.2.1 ++ [(4, lk s.1 - 1)]).length ≤ s.1 + 1
                    rw [List.length_append]; show s.2.1.length + 1 ≤ s.1 + 1; omega
                obtain ⟨es1, es2⟩ := es _ rfl
                obtain ⟨p1, p2⟩ := pass _ τ1 u2 u3 es1 es2 (by omega) (by omega)
                have lf : mLf (mKF n0) q τ = mNx (mKF n0) q τ1 := by
                  unfold mLf
                  rw [hM.1.1, if_pos (show (0 : Int32) ≤ 0 by decide), show (2 : Int32) = nI 2 from rfl, is 2 (by decide), Option.bind_some]
                  simp only [pif]
                  rw [if_neg k2, hM.1.2.1, u1, Option.bind_some]
                rw [lf]
                by_cases c4 : s.1 = 400
                · have g' : r = .inl (2, s.1) := by
                    by_cases z : lk s.1 = 0
                    · rw [if_pos z] at h
                      unfold aAcc at h
                      rw [aNote_t, if_pos k1, if_pos c4] at h
                      exact (Option.some.inj h).symm
                    · rw [if_neg z] at h
                      unfold aAcc at h
                      rw [if_pos k1, if_pos c4] at h
                      exact (Option.some.inj h).symm
                  rw [g']
                  refine ⟨fun e he => ?_, fun s' he => (by cases he)⟩
                  rw [← Sum.inl.inj he]
                  exact p1 c4
                · have g' : r = .inr (mvT (if lk s.1 = 0 then aEm 0 0 (aNote 4 s) else aEm 4 (lk s.1 - 1) (aPrt (lk s.1 - 1) s))) := by
                    by_cases z : lk s.1 = 0
                    · rw [if_pos z] at h ⊢
                      unfold aAcc at h
                      rw [aNote_t, if_pos k1, if_neg c4] at h
                      have h' := (Option.some.inj h).symm
                      rw [h']
                      show Sum.inr (s.1 + 1, (aNote 4 s).2.1 ++ [(0, 0)], (aNote 4 s).2.2) = Sum.inr ((aNote 4 s).1 + 1, (aNote 4 s).2.1 ++ [(0, 0)], (aNote 4 s).2.2)
                      rw [aNote_t]
                    · rw [if_neg z] at h ⊢
                      unfold aAcc at h
                      rw [if_pos k1, if_neg c4] at h
                      exact (Option.some.inj h).symm
                  rw [g']
                  refine ⟨fun e he => (by cases he), fun s' he => ?_⟩
                  rw [← Sum.inr.inj he]
                  obtain ⟨n', m', τ', y1, y2, y3, y4, y5⟩ := p2 c4
                  refine ⟨n', m', τ', y1, y2, y3, ?_, ?_⟩
                  · show q + 1 + s.1 ≤ n' + ((if lk s.1 = 0 then aEm 0 0 (aNote 4 s) else aEm 4 (lk s.1 - 1) (aPrt (lk s.1 - 1) s)).1 + 1)
                    rw [es1]; exact y4
                  · show q + 1 + s.1 ≤ m' + ((if lk s.1 = 0 then aEm 0 0 (aNote 4 s) else aEm 4 (lk s.1 - 1) (aPrt (lk s.1 - 1) s)).1 + 1)
                    rw [es1]; exact y5
              · -- nothing that a unit begins with
                rw [if_neg k1, if_neg kt, if_neg km, if_neg k7] at h
                rw [if_neg k1]
                obtain ⟨τ1, u1, u2, u3⟩ := mFailN (e := 1) (Or.inl rfl) hT hX hM
                rw [u1, Option.bind_some]
                have lf : mLf (mKF n0) q τ1 = some τ1 := by
                  unfold mLf
                  rw [u3.1.1, if_neg (fl_pos u3.1.2.1)]
                rw [lf, ← Option.some.inj h]
                refine ⟨fun e he => ?_, fun s' he => (by cases he)⟩
                rw [← Sum.inl.inj he]
                exact ⟨τ1, rfl, frM_up u2 (by decide) (by decide) (by decide), u3.1⟩
    · -- a product
      intro d P0 S0 n s r τ hd hP0 hP01 hS0 hl hn hZ hM h
      rw [ev, if_neg (by decide), if_pos rfl] at h
      have hP0' : ∀ k ∈ P0, isOp k := fun k hk => by rcases hP0 k hk with z | z; exact Or.inl z; exact Or.inr (Or.inl z)
      have hl2 : (P0 ++ S0).length ≤ 3 * d + 2 := by rw [List.length_append]; omega
      rcases bO_some h with ⟨e, g1, g2⟩ | ⟨s1, g1, g2⟩
      · obtain ⟨w1, -⟩ := ihU d P0 S0 n s _ τ hd hP0' hS0 hl2 hn hZ hM g1
        rw [g2]
        refine ⟨fun e' he => ?_, fun s' he => (by cases he)⟩
        rw [← Sum.inl.inj he]
        exact w1 e rfl
      · obtain ⟨-, w2⟩ := ihU d P0 S0 n s _ τ hd hP0' hS0 hl2 hn hZ hM g1
        obtain ⟨n', m', τ1, u1, u2, u3, u4, u5⟩ := w2 s1 rfl
        obtain ⟨cc, st1, -⟩ := hinv 0 d s s1 g1
        have hZ1 := MZ_next hZ st1 u2
        obtain ⟨v1, v2⟩ := ihPL d P0 S0 n' m' s1 r τ1 [] s1.2.1 hd hP0 hP01 hS0 hl (by omega) (by omega) hZ1 (Or.inl rfl) (List.append_nil _).symm u3 g2
        rw [u1]
        refine ⟨fun e he => ?_, fun s' he => ?_⟩
        · obtain ⟨τ2, x1, x2, x3⟩ := v1 e he
          exact ⟨τ2, x1, fr_tr u2 x2, x3⟩
        · obtain ⟨n2, m2, τ2, P, C, x1, x2, x3, x4, x5, x6, x7, x8⟩ := v2 s' he
          exact ⟨n2, m2, τ2, P, C, x1, fr_tr u2 x2, x3, x4, x5, by omega, by omega, x8⟩
    · -- the rest of a product
      intro d P0 S0 n m s r τ P C hd hP0 hP01 hS0 hl hn hm hZ hP hsC hM h
      have hP0' : ∀ k ∈ P0, isOp k := fun k hk => by rcases hP0 k hk with z | z; exact Or.inl z; exact Or.inr (Or.inl z)
      have h3 : s.1 ≤ L := hM.1.2.2.1
      have hPo : ∀ k ∈ P, isOp k := fun k hk => by
        rcases hP with z | z
        · rw [z] at hk; cases hk
        · rw [z] at hk; exact Or.inr (Or.inr (List.mem_singleton.mp hk))
      have hPl : P.length ≤ 1 := by rcases hP with z | z <;> rw [z] <;> decide
      have hlen : C.length + P.length ≤ s.1 := by
        have := hZ.2.2.2.2
        rw [hsC, List.length_append, pnd_len] at this
        exact this
      have hll : (P0 ++ S0).length ≤ 3 * d + 1 := by rw [List.length_append]; omega
      rw [ev, if_neg (by decide), if_neg (by decide), if_pos rfl] at h
      by_cases k : tk s.1 = 11
      · rw [if_pos k] at h
        obtain ⟨m', rfl⟩ : ∃ m', m = m' + 1 := ⟨m - 1, by omega⟩
        obtain ⟨b1, b2⟩ := mB_sign (x1 := 1) (k := 11) (s := s) (C := C) (P := P) (S := P0 ++ S0) (d := d) (n := n) (m := m') hw (by omega) hT hZ.1 (Or.inr (Or.inr rfl)) rfl (coTimes hP0 hS0 (by omega)) hPo (fun j hj => by
          rcases hP with z | z
          · rw [z] at hj; cases hj
          · rw [z] at hj; exact Or.inl (List.mem_singleton.mp hj)) (by rw [List.length_append]; omega) (by omega) hM k (mKF n0)
        obtain ⟨n', hn'⟩ : ∃ n', n = n' + 1 := ⟨n - 1, by omega⟩
        rcases bO_some h with ⟨e, g1, g2⟩ | ⟨s1, g1, g2⟩
        · have ge := Option.some.inj g1
          unfold aAcc at ge
          rw [if_pos k] at ge
          by_cases c4 : s.1 = 400
          · rw [if_pos c4] at ge
            obtain ⟨τ1, u1, u2, u3⟩ := b2 c4
            rw [u1, hn', mL7F u3, g2]
            refine ⟨fun e' he => ?_, fun s' he => (by cases he)⟩
            rw [← Sum.inl.inj he, ← Sum.inl.inj ge]
            exact ⟨τ1, rfl, u2, u3⟩
          · rw [if_neg c4] at ge; cases ge
        · obtain ⟨-, c4, a3⟩ := aAcc_ok (Option.some.inj g1)
          obtain ⟨τ1, u1, u2, u3⟩ := b1 c4
          rw [← hsC] at u3
          have u3' : MS pl w K c19 c20 L s1 ((11 :: P0) ++ S0) d τ1 := by rw [a3]; exact u3
          have hZ1 := MZ_next hZ (stp_acc (K := K) (Option.some.inj g1)).1 u2
          have et1 : s1.1 = s.1 + 1 := by rw [a3]
          have hops : ∀ j ∈ 11 :: P0, isOp j := fun j hj => by
            rcases List.mem_cons.mp hj with z | z
            · exact Or.inr (Or.inr z)
            · exact hP0' j z
          have hl11 : ((11 :: P0) ++ S0).length ≤ 3 * d + 2 := by rw [List.cons_append, List.length_cons]; omega
          rw [u1]
          rcases bO_some g2 with ⟨e, g3, g4⟩ | ⟨s2, g3, g4⟩
          · obtain ⟨w1, -⟩ := ihU d (11 :: P0) S0 n s1 _ τ1 hd hops hS0 hl11 (by omega) hZ1 u3' g3
            obtain ⟨τ2, x1, x2, x3⟩ := w1 e rfl
            rw [g4]
            refine ⟨fun e' he => ?_, fun s' he => (by cases he)⟩
            rw [← Sum.inl.inj he]
            exact ⟨τ2, x1, fr_tr u2 x2, x3⟩
          · obtain ⟨-, w2⟩ := ihU d (11 :: P0) S0 n s1 _ τ1 hd hops hS0 hl11 (by omega) hZ1 u3' g3
            obtain ⟨n2, m2, τ2, x1, x2, x3, x4, x5⟩ := w2 s2 rfl
            obtain ⟨cc, st2, -⟩ := hinv 0 d s1 s2 g3
            have hZ2 := MZ_next hZ1 st2 x2
            have hle := st2.2.1
            have hc2 : s2.2.1.length < s2.1 := by
              have e1 : s2.2.1.length = s.2.1.length + cc.length := by rw [st2.1, List.length_append, a3]
              have := hZ.2.2.2.2
              omega
            have hZ3 : MZ tk tv pl mn my rp w K c19 c20 L (aEm 7 0 s2) τ2 := ⟨hZ2.1, hZ2.2.1, hZ2.2.2.1, hZ2.2.2.2.1, by
              show (s2.2.1 ++ [(7, 0)]).length ≤ s2.1
              rw [List.length_append]; show s2.2.1.length + 1 ≤ s2.1; omega⟩
            obtain ⟨v1, v2⟩ := ihPL d P0 S0 n2 m2 (aEm 7 0 s2) r τ2 [11] s2.2.1 hd hP0 hP01 hS0 hl (by show 700 ≤ n2 + s2.1; omega) (by show 700 ≤ m2 + s2.1; omega) hZ3 (Or.inr rfl) rfl x3 g4
            rw [x1]
            have eA : (aEm 7 0 s2).1 = s2.1 := rfl
            refine ⟨fun e he => ?_, fun s' he => ?_⟩
            · obtain ⟨τ3, y1, y2, y3⟩ := v1 e he
              exact ⟨τ3, y1, fr_tr u2 (fr_tr x2 y2), y3⟩
            · obtain ⟨n3, m3, τ3, P', C', y1, y2, y3, y4, y5, y6, y7, y8⟩ := v2 s' he
              rw [eA] at y6 y7
              exact ⟨n3, m3, τ3, P', C', y1, fr_tr u2 (fr_tr x2 y2), y3, y4, y5, by omega, by omega, y8⟩
      · rw [if_neg k] at h
        rw [← Option.some.inj h]
        refine ⟨fun e he => (by cases he), fun s' he => ?_⟩
        rw [← Sum.inr.inj he]
        exact ⟨n, m, τ, P, C, rfl, fr_rf, hP, hsC, hM, Or.inl (Nat.le_refl _), Or.inr (Nat.le_refl _), k⟩
    · -- a sum
      intro d S0 n s r τ hd hS0 hl hn hZ hM h
      rw [ev, if_neg (by decide), if_neg (by decide), if_neg (by decide), if_pos rfl] at h
      rcases bO_some h with ⟨e, g1, g2⟩ | ⟨s1, g1, g2⟩
      · obtain ⟨w1, -⟩ := ihP d [] S0 n s _ τ hd (fun k hk => by cases hk) (Nat.zero_le _) hS0 hl hn hZ hM g1
        rw [g2]
        refine ⟨fun e' he => ?_, fun s' he => (by cases he)⟩
        rw [← Sum.inl.inj he]
        exact w1 e rfl
      · obtain ⟨-, w2⟩ := ihP d [] S0 n s _ τ hd (fun k hk => by cases hk) (Nat.zero_le _) hS0 hl hn hZ hM g1
        obtain ⟨n', m', τ1, P, C, u1, u2, u3, u4, u5, u6, u7, u8⟩ := w2 s1 rfl
        obtain ⟨cc, st1, -⟩ := hinv 1 d s s1 g1
        have hZ1 := MZ_next hZ st1 u2
        have hPo : (∀ k ∈ P, isOp k) ∧ P.length ≤ 2 := by
          rcases u3 with z | z
          · rw [z]; exact ⟨fun k hk => (by cases hk), by decide⟩
          · rw [z]; exact ⟨fun k hk => Or.inr (Or.inr (List.mem_singleton.mp hk)), by decide⟩
        obtain ⟨v1, v2⟩ := ihSL d S0 n' m' s1 r τ1 P C hd hS0 hl (by omega) (by omega) hZ1 hPo.1 hPo.2 u4 u5 u8 g2
        rw [u1]
        refine ⟨fun e he => ?_, fun s' he => ?_⟩
        · obtain ⟨τ2, x1, x2, x3⟩ := v1 e he
          exact ⟨τ2, x1, fr_tr u2 x2, x3⟩
        · obtain ⟨n2, m2, τ2, P', C', x1, x2, x3, x4, x5, x6, x7, x8, x9⟩ := v2 s' he
          exact ⟨n2, m2, τ2, P', C', x1, fr_tr u2 x2, x3, x4, x5, x6, by omega, by omega, x9⟩
    · -- the rest of a sum
      intro d S0 n m s r τ P C hd hS0 hl hn hm hZ hP hPl hsC hM h11 h
      have h3 : s.1 ≤ L := hM.1.2.2.1
      have hlen : C.length + P.length ≤ s.1 := by
        have := hZ.2.2.2.2
        rw [hsC, List.length_append, pnd_len] at this
        exact this
      rw [ev, if_neg (by decide), if_neg (by decide), if_neg (by decide), if_neg (by decide)] at h
      by_cases k : tk s.1 = 9 ∨ tk s.1 = 10
      · rw [if_pos k] at h
        obtain ⟨m', rfl⟩ : ∃ m', m = m' + 1 := ⟨m - 1, by omega⟩
        have hop : isOp (tk s.1) := by rcases k with z | z; exact Or.inl z; exact Or.inr (Or.inl z)
        obtain ⟨b1, b2⟩ := mB_sign (x1 := 0) (k := tk s.1) (s := s) (C := C) (P := P) (S := S0) (d := d) (n := n) (m := m') hw (by omega) hT hZ.1 hop (by rw [if_neg h11]) (mCoBot hS0 (by omega)) hP (fun j _ => Or.inr rfl) (by rw [List.length_append]; omega) (by omega) hM rfl (mKF n0)
        obtain ⟨n', hn'⟩ : ∃ n', n = n' + 1 := ⟨n - 1, by omega⟩
        rcases bO_some h with ⟨e, g1, g2⟩ | ⟨s1, g1, g2⟩
        · have ge := Option.some.inj g1
          unfold aAcc at ge
          rw [if_pos rfl] at ge
          by_cases c4 : s.1 = 400
          · rw [if_pos c4] at ge
            obtain ⟨τ1, u1, u2, u3⟩ := b2 c4
            rw [u1, hn', mL7F u3, g2]
            refine ⟨fun e' he => ?_, fun s' he => (by cases he)⟩
            rw [← Sum.inl.inj he, ← Sum.inl.inj ge]
            exact ⟨τ1, rfl, u2, u3⟩
          · rw [if_neg c4] at ge; cases ge
        · obtain ⟨-, c4, a3⟩ := aAcc_ok (Option.some.inj g1)
          obtain ⟨τ1, u1, u2, u3⟩ := b1 c4
          rw [← hsC] at u3
          have u3' : MS pl w K c19 c20 L s1 ([tk s.1] ++ S0) d τ1 := by rw [a3]; exact u3
          have hZ1 := MZ_next hZ (stp_acc (K := K) (Option.some.inj g1)).1 u2
          have et1 : s1.1 = s.1 + 1 := by rw [a3]
          have hk1 : ∀ j ∈ [tk s.1], j = 9 ∨ j = 10 := fun j hj => by rw [List.mem_singleton.mp hj]; exact k
          rw [u1]
          rcases bO_some g2 with ⟨e, g3, g4⟩ | ⟨s2, g3, g4⟩
          · obtain ⟨w1, -⟩ := ihP d [tk s.1] S0 n s1 _ τ1 hd hk1 (Nat.le_refl _) hS0 hl (by omega) hZ1 u3' g3
            obtain ⟨τ2, x1, x2, x3⟩ := w1 e rfl
            rw [g4]
            refine ⟨fun e' he => ?_, fun s' he => (by cases he)⟩
            rw [← Sum.inl.inj he]
            exact ⟨τ2, x1, fr_tr u2 x2, x3⟩
          · obtain ⟨-, w2⟩ := ihP d [tk s.1] S0 n s1 _ τ1 hd hk1 (Nat.le_refl _) hS0 hl (by omega) hZ1 u3' g3
            obtain ⟨n2, m2, τ2, P2, C2, x1, x2, x3, x4, x5, x6, x7, x8⟩ := w2 s2 rfl
            obtain ⟨cc, st2, -⟩ := hinv 1 d s1 s2 g3
            have hZ2 := MZ_next hZ1 st2 x2
            have hle := st2.2.1
            have hc2 : s2.2.1.length < s2.1 := by
              have e1 : s2.2.1.length = s.2.1.length + cc.length := by rw [st2.1, List.length_append, a3]
              have := hZ.2.2.2.2
              omega
            have hZ3 : MZ tk tv pl mn my rp w K c19 c20 L (aEm (tk s.1 - 4) 0 s2) τ2 := ⟨hZ2.1, hZ2.2.1, hZ2.2.2.1, hZ2.2.2.2.1, by
              show (s2.2.1 ++ [(tk s.1 - 4, 0)]).length ≤ s2.1
              rw [List.length_append]; show s2.2.1.length + 1 ≤ s2.1; omega⟩
            have hem : emO (tk s.1) = tk s.1 - 4 := by unfold emO; rcases k with z | z <;> rw [z] <;> rfl
            have hP3 : (∀ j ∈ P2 ++ [tk s.1], isOp j) ∧ (P2 ++ [tk s.1]).length ≤ 2 := by
              rcases x3 with z | z
              · rw [z]
                exact ⟨fun j hj => (by rw [List.mem_singleton.mp hj]; exact hop), by show 1 ≤ 2; decide⟩
              · rw [z]
                refine ⟨fun j hj => ?_, by show 2 ≤ 2; decide⟩
                rcases List.mem_append.mp hj with y | y
                · exact Or.inr (Or.inr (List.mem_singleton.mp y))
                · rw [List.mem_singleton.mp y]; exact hop
            have hC3 : (aEm (tk s.1 - 4) 0 s2).2.1 = C2 ++ pnd (P2 ++ [tk s.1]) := by
              show s2.2.1 ++ [(tk s.1 - 4, 0)] = _
              rw [pnd_app, x4, List.append_assoc]
              show _ = C2 ++ (pnd P2 ++ [(emO (tk s.1), 0)])
              rw [hem]
            have hM3 : MS pl w K c19 c20 L (wC (aEm (tk s.1 - 4) 0 s2) C2) ((P2 ++ [tk s.1]) ++ S0) d τ2 := by
              rw [List.append_assoc]; exact x5
            obtain ⟨v1, v2⟩ := ihSL d S0 n2 m2 (aEm (tk s.1 - 4) 0 s2) r τ2 (P2 ++ [tk s.1]) C2 hd hS0 hl (by show 700 ≤ n2 + s2.1; omega) (by show 700 ≤ m2 + s2.1; omega) hZ3 hP3.1 hP3.2 hC3 hM3 x8 g4
            rw [x1]
            have eA : (aEm (tk s.1 - 4) 0 s2).1 = s2.1 := rfl
            refine ⟨fun e he => ?_, fun s' he => ?_⟩
            · obtain ⟨τ3, y1, y2, y3⟩ := v1 e he
              exact ⟨τ3, y1, fr_tr u2 (fr_tr x2 y2), y3⟩
            · obtain ⟨n3, m3, τ3, P', C', y1, y2, y3, y4, y5, y6, y7, y8, y9⟩ := v2 s' he
              rw [eA] at y7 y8
              exact ⟨n3, m3, τ3, P', C', y1, fr_tr u2 (fr_tr x2 y2), y3, y4, y5, y6, by omega, by omega, y9⟩
      · rw [if_neg k] at h
        rw [← Option.some.inj h]
        refine ⟨fun e he => (by cases he), fun s' he => ?_⟩
        rw [← Sum.inr.inj he]
        exact ⟨n, m, τ, P, C, rfl, fr_rf, hP, hPl, hsC, hM, Or.inl (Nat.le_refl _), Or.inr (Nat.le_refl _), fun z => k (Or.inl z), fun z => k (Or.inr z), h11⟩
