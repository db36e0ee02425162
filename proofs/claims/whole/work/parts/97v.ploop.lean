/-! ===== PURE: read: all STEPS, class and reference side by side ===== -/
def nmOk (tk : Nat → Nat) (xn mn : Nat → Int64) (L : Nat) : Prop := ∀ i j, i ≤ L → j ≤ L → tk i = 1 → tk j = 1 → (xn i = xn j ↔ mn i = mn j)
def tkAll (tk tv : Nat → Nat) (L : Nat) : Prop := (∀ i, tk i = 2 → tv i < 10000) ∧ ∀ i, L < i → tk i = 0
def LInv (tk tv pl : Nat → Nat) (xn mn : Nat → Int64) (L w : Nat) (c19 c20 : Nat → Int32) (nt : Nat → Nat) (rp K : Nat) (D : Nat → Nat → Nat) (s : PS) (σ τ : ST) : Prop :=
  XBt tk tv pl xn L nt rp K D s σ ∧ MBt tk tv pl mn L nt rp w K D c19 c20 s τ ∧ K ≤ 7 ∧ rp < 2 ^ K ∧ (∀ k, k < K → nt k ≤ L ∧ tk (nt k) = 1) ∧ (∀ k, k < K → D 5 k < 64) ∧ (s.2.2.2.2.1 = 0 → ∀ k, k < K → stK rp D s.2.1 k)
def frX (σ σ' : ST) : Prop := fr [2, 3, 4, 5, 6, 7, 8, 9] [10, 11, 12, 13, 14, 15, 16, 17, 18] [9] σ σ'
def FLt (pl : Nat → Nat) (w : Nat) (c19 c20 : Nat → Int32) (e : Nat × Nat) (σ τ : ST) : Prop := gI σ 2 = nI e.1 ∧ (e.1 = 1 ∨ e.1 = 2) ∧ gI σ 3 = nI (pl e.2) ∧ MF0 pl w c19 c20 e τ
theorem xFail0 {σ : ST} {t p e : Nat} (h2 : gI σ 2 = 0) (h4 : gI σ 4 = nI t) (ht : t ≤ 400) (hp : gA σ 5 t = nI p) : fX2_fail (nI e) σ = some (sI (sI σ 2 (nI e)) 3 (nI p)) := by
  unfold fX2_fail
  rw [h2, if_pos rfl, lt_def, gI_sI, if_neg (show ¬ (4 = 2) by decide), h4, if_pos (ix_nI (show t < 401 by omega) (by decide)), ldA_nI _ 5 _ (by omega), gA_sI, hp, lt_def]
theorem MBt_MS {tk tv pl : Nat → Nat} {mn : Nat → Int64} {L : Nat} {nt : Nat → Nat} {rp w K : Nat} {D : Nat → Nat → Nat} {c19 c20 : Nat → Int32} {s : PS} {τ : ST} (h : MBt tk tv pl mn L nt rp w K D c19 c20 s τ) : ∃ x y S, MS pl w K c19 c20 L (wT x y s) S 0 τ := by
  obtain ⟨hX, hN, ⟨h9, hsp, hlen, hlen2⟩, ⟨e6, e4, hsL, e8, e9, e12, ea8, e5⟩, ⟨e13, ecd⟩, est, erow⟩ := id h
  obtain ⟨S, hS⟩ := stk_any τ
  exact ⟨(gI τ 14).toBitVec.toNat, (gI τ 15).toBitVec.toNat, S, ⟨e6, e4, hsL, e8, e9, e12, ea8, (nI_any _).symm, (nI_any _).symm, e5⟩, ⟨e13, ecd⟩, hS, est⟩
theorem mtB_F {pl : Nat → Nat} {w : Nat} {c19 c20 : Nat → Int32} {e : Nat × Nat} {τ : ST} (h : MF0 pl w c19 c20 e τ) (n : Nat) : tB n τ = some τ := by
  unfold tB
  rw [h.1, if_neg (fl_pos h.2.1)]
theorem both_step {tk tv pl : Nat → Nat} {xn mn : Nat → Int64} {L w : Nat} {c19 c20 : Nat → Int32} {nt : Nat → Nat} {rp K n m : Nat} {D : Nat → Nat → Nat} {s : PS} {σ τ : ST} (hn : 600 ≤ n) (hm : 1200 ≤ m) (hw : w < 2) (hT : TKs tk tv pl L) (hA : tkAll tk tv L) (hnm : nmOk tk xn mn L) (h : LInv tk tv pl xn mn L w c19 c20 nt rp K D s σ τ) :
    ∃ σ' τ', fX2_parseStep n σ = some σ' ∧ fX11_tell m τ = some τ' ∧ frX σ σ' ∧ frT τ τ' ∧ out w τ τ' ∧ ((∃ e, FLt pl w c19 c20 e σ' τ') ∨ (K < 7 ∧ ∃ nt' rp' D' s', LInv tk tv pl xn mn L w c19 c20 nt' rp' (K + 1) D' s' σ' τ')) := by
  have hL := hT.1
  obtain ⟨hXB, hMB, hK7, hrp, hnt, h5, hst⟩ := id h
  obtain ⟨hX, hNM, ⟨hsf, hlen⟩, x1, x2, x3, x4, x5, x6, c, c1, c2, c3⟩ := id hXB
  obtain ⟨hXm, hNm, ⟨h9, hsp, -, hlen2⟩, ⟨e6, e4, hsL, e8, e9, e12, ea8, e5⟩, -, -, -⟩ := id hMB
  obtain ⟨x, y, S, hMS⟩ := MBt_MS hMB
  have i401 : ix (nI s.1) 401 := ix_nI (show s.1 < 401 by omega) (by decide)
  have hpk : fX2_peek σ = some (nI (kx (tk s.1)), σ) := by
    unfold fX2_peek
    rw [x1, if_pos rfl, x2, if_pos i401, ldA_nI _ 4 _ (by omega), (hX _ x3).1]
  have tb := (hT.2.2.1 _ x3).1
  have k20 := kx_inj tb (show 20 < 29 by decide)
  have k22 := kx_inj tb (show 22 < 29 by decide)
  have is20 : fX11_is ((20 : Int32)) τ = some (if tk s.1 = 20 then 1 else 0, τ) := mIsN hT hXm hMS 20 (by decide)
  have is22 : fX11_is ((22 : Int32)) τ = some (if tk s.1 = 22 then 1 else 0, τ) := mIsN hT hXm hMS 22 (by decide)
  have xf : ∀ e, fX2_fail (nI e) σ = some (sI (sI σ 2 (nI e)) 3 (nI (pl s.1))) := fun e => xFail0 x1 x2 (by omega) (hX _ x3).2.1
  have fX : ∀ e, frX σ (sI (sI σ 2 (nI e)) 3 (nI (pl s.1))) := fun e => fr_sI (fr_sI fr_rf (by decide)) (by decide)
  by_cases hk : tk s.1 = 20 ∨ tk s.1 = 22
  · -- the reference comes to its rows
    have toA : fX11_tell m τ = tA m τ := by
      rw [tell_eq, is20, Option.bind_some]
      by_cases c20' : tk s.1 = 20
      · simp only [if_pos c20', if_neg one_ne]
      · have c22 : tk s.1 = 22 := by omega
        simp only [if_neg c20', if_true, is22, Option.bind_some, if_pos c22, if_neg one_ne]
    have toA2 : tA m τ = if nI K = 7 then Option.bind (fX11_fail 2 τ) (fun q_81 => tB m q_81) else tB m τ := by
      unfold tA
      rw [e12, if_pos (ix_nI hw (by decide)), ldA_nI _ 8 w (by omega), ea8]
    by_cases hK : K = 7
    · -- no room
      obtain ⟨τ', a, b, d⟩ := mFailN (e := 2) (Or.inr rfl) hT hXm hMS
      refine ⟨_, τ', ?_, ?_, fX 2, frT_up b (by decide) (by decide) (by decide), out_fr b (by decide), Or.inl ⟨(2, s.1), rfl, Or.inr rfl, rfl, d.1⟩⟩
      · unfold fX2_parseStep
        rw [hpk, Option.bind_some]
        simp only [lt_def]
        have n7 : ¬ gI σ 7 < (7 : Int32) := by rw [x6, hK]; decide
        have fin : Option.bind (fX2_fail 2 σ) (fun q_21 => some q_21) = some (sI (sI σ 2 (nI 2)) 3 (nI (pl s.1))) := by rw [show (2 : Int32) = nI 2 from rfl, xf 2, Option.bind_some]
        rcases hk with q | q
        · rw [q, if_pos (show nI (kx 20) = (260 : Int32) from rfl), if_neg n7]; exact fin
        · rw [q, if_neg (show ¬ nI (kx 22) = (260 : Int32) by decide), if_pos (show nI (kx 22) = (261 : Int32) from rfl), if_neg n7]; exact fin
      · rw [toA, toA2, hK, if_pos (show nI 7 = (7 : Int32) from rfl), show (2 : Int32) = nI 2 from rfl, a, Option.bind_some, mtB_F d.1]
    · -- a step
      have hK' : K < 7 := by omega
      generalize hrep : decide (tk s.1 = 22) = rep
      generalize hlkd : (fun i => lkM (fun k => mn (nt k)) (rpN rp K rep) (mn i) 0 K) = lk
      have hlkv : ∀ i, lk i = lkM (fun k => mn (nt k)) (rpN rp K rep) (mn i) 0 K := fun i => by rw [← hlkd]
      generalize htwd : (fun i => twB (fun k => mn (nt k)) (mn i) 0 K) = tw
      have htwv : ∀ i, tw i = twB (fun k => mn (nt k)) (mn i) 0 K := fun i => by rw [← htwd]
      have hlk : ∀ i, tk i = 1 → lk i ≤ K := fun i _ => by rw [hlkv]; have := lkM_le (my := fun k => mn (nt k)) (rp := rpN rp K rep) (w := mn i) K 0; omega
      have hq : ∀ i, i ≤ L → tk i = 1 → ∀ k, k < K → (xn (nt k) = xn i ↔ mn (nt k) = mn i) := fun i hi hi1 k hk' => hnm (nt k) i (hnt k hk').1 hi (hnt k hk').2 hi1
      have hE : XEnv (dst xn nt K) tk tv pl lk xn (fun k => xn (nt k)) (rpN rp K rep) K (D 5) L := by
        refine ⟨hT, hK', h5, hlk, hA.1, fun hd i hi hi1 => ?_⟩
        rw [hlkv]; exact lk_eq hd (hq i hi hi1) K 0 (by omega)
      have htw : ∀ i, i ≤ L → tk i = 1 → (tw i = true ↔ ∃ j, j < K ∧ xn (nt j) = xn i) := fun i hi hi1 => by
        rw [htwv, twB_iff]
        constructor
        · rintro ⟨j, -, a, b⟩
          exact ⟨j, by omega, (hq i hi hi1 j (by omega)).mpr b⟩
        · rintro ⟨j, a, b⟩
          exact ⟨j, Nat.zero_le j, by omega, (hq i hi hi1 j a).mp b⟩
      obtain ⟨r, hr⟩ : ∃ r, aStep tk tv lk tw 2000 s = some r := by
        unfold aStep
        refine bO_tot ⟨_, rfl⟩ (fun s9 h9' => bO_tot ?_ (fun s10 _ => ⟨_, rfl⟩))
        have h400 : s9.1 ≤ 400 := by
          obtain ⟨s2, y1, y2⟩ := bS_ok (Option.some.inj h9')
          obtain ⟨s3, y3, y4⟩ := bS_ok y2
          obtain ⟨s4, y5, y6⟩ := bS_ok y4
          obtain ⟨s8, y7, y8⟩ := bS_ok y6
          obtain ⟨z1, z2, z3⟩ := aAcc_ok y8
          have := (kp_acc y8).2.1
          by_cases q : s8.1 ≤ L
          · omega
          · rw [hA.2 s8.1 (by omega)] at z1; cases z1
        exact ev_tot 2000 3 0 s9 h400 (by show 4 * (401 - s9.1) + 3 ≤ 2000; omega)
      obtain ⟨σ', p1, p2, p3⟩ := xStep (nt := nt) (D := D) (n := n) hn hrep.symm hk hE htw hXB hr
      obtain ⟨τ', q1, q2, q3, q4⟩ := mStepN (n := m) hm hw hK' hrp hrep.symm hk hT (fun i _ _ => hlkv i) hlk hA.1 (fun i _ _ => htwv i) hMB hr
      refine ⟨σ', τ', p1, ?_, p2, q2, q3, ?_⟩
      · rw [toA, toA2, if_neg (show ¬ nI K = (7 : Int32) from fun z => hK ((nI_eq (b := 7) (by omega) (by decide)).mp z))]; exact q1
      · cases hrr : r with
        | inl e =>
          rw [hrr] at p3 q4
          exact Or.inl ⟨e, p3.1, p3.2.1, p3.2.2, q4⟩
        | inr s' =>
          rw [hrr] at p3 q4 hr
          obtain ⟨cd, a1, a2, a3, a4, a5, a6, a7⟩ := aStep_inv hK' hA.1 hlk hrep.symm hr
          have hs'L : s'.1 ≤ L := q4.2.2.2.1.2.2.1
          refine Or.inr ⟨hK', uN nt K (s.1 + 1), rpN rp K rep, nD D tv K s.1 rep s', s', p3, q4, by omega, ?_, fun k hk' => ?_, fun k hk' => ?_, stK_step hK' hA.1 hlk hrp hrep.symm hr h5 hlen2 hst⟩
          · have e2 : (2 : Nat) ^ K < 2 ^ (K + 1) := Nat.pow_lt_pow_right (by decide) (by omega)
            unfold rpN; split
            · exact or_lt (Nat.lt_trans hrp e2) e2
            · exact Nat.lt_trans hrp e2
          · rw [uN_at]
            by_cases q : k = K
            · rw [if_pos q]; exact ⟨by omega, a6⟩
            · rw [if_neg q]; exact hnt k (by omega)
          · by_cases q : k = K
            · have e5' : nD D tv K s.1 rep s' 5 K = oA s'.2.2.2.1 (D 5) s'.2.2.1 K := by unfold nD; rw [if_pos rfl]; rfl
              rw [q, e5']; exact oA_lt a3 K h5
            · rw [nD_ne 5 q]; exact h5 k (by omega)
  · -- no step
    obtain ⟨τ', a, b, d⟩ := mFailN (e := 1) (Or.inl rfl) hT hXm hMS
    have n20 : ¬ tk s.1 = 20 := fun q => hk (Or.inl q)
    have n22 : ¬ tk s.1 = 22 := fun q => hk (Or.inr q)
    refine ⟨_, τ', ?_, ?_, fX 1, frT_up b (by decide) (by decide) (by decide), out_fr b (by decide), Or.inl ⟨(1, s.1), rfl, Or.inl rfl, rfl, d.1⟩⟩
    · unfold fX2_parseStep
      rw [hpk, Option.bind_some]
      simp only [lt_def]
      rw [if_neg (show ¬ nI (kx (tk s.1)) = (260 : Int32) from fun q => n20 (k20.mp q)), if_neg (show ¬ nI (kx (tk s.1)) = (261 : Int32) from fun q => n22 (k22.mp q)), show (1 : Int32) = nI 1 from rfl, xf 1, Option.bind_some]
    · rw [tell_eq, is20, Option.bind_some]
      simp only [if_neg n20, if_true, is22, Option.bind_some, if_neg n22]
      rw [show (1 : Int32) = nI 1 from rfl, a, Option.bind_some, mtB_F d.1]
theorem both_loop {tk tv pl : Nat → Nat} {xn mn : Nat → Int64} {L w : Nat} {c19 c20 : Nat → Int32} (hw : w < 2) (hT : TKs tk tv pl L) (hA : tkAll tk tv L) (hnm : nmOk tk xn mn L) (k67 : ST → Option ST) (k119 : ST → Option (Int32 × ST)) : ∀ d K nt rp D s σ τ n m, K + d = 8 → 700 + d ≤ n → 1300 + d ≤ m → LInv tk tv pl xn mn L w c19 c20 nt rp K D s σ τ →
    ∃ σ' τ', fX2_parseText_L34 k67 n (nI K) σ = k67 σ' ∧ fX11_read_L97 k119 m τ = k119 τ' ∧ frX σ σ' ∧ frT τ τ' ∧ out w τ τ' ∧ ((∃ e, FLt pl w c19 c20 e σ' τ') ∨ ∃ nt' rp' K' D' s', LInv tk tv pl xn mn L w c19 c20 nt' rp' K' D' s' σ' τ') := by
  have hL := hT.1
  intro d
  induction d with
  | zero =>
    intro K nt rp D s σ τ n m hd hn hm h
    have := h.2.2.1
    omega
  | succ d ih =>
    intro K nt rp D s σ τ n m hd hn hm h
    obtain ⟨n, rfl⟩ : ∃ n', n = n' + 1 := ⟨n - 1, by omega⟩
    obtain ⟨m, rfl⟩ : ∃ m', m = m' + 1 := ⟨m - 1, by omega⟩
    obtain ⟨hXB, hMB, hK7, -⟩ := id h
    obtain ⟨hX, -, -, x1, x2, x3, -⟩ := id hXB
    obtain ⟨hXm, -, -, ⟨e6, -⟩, -⟩ := id hMB
    obtain ⟨x, y, S, hMS⟩ := MBt_MS hMB
    have i401 : ix (nI s.1) 401 := ix_nI (show s.1 < 401 by omega) (by decide)
    have hpk : fX2_peek σ = some (nI (kx (tk s.1)), σ) := by
      unfold fX2_peek
      rw [x1, if_pos rfl, x2, if_pos i401, ldA_nI _ 4 _ (by omega), (hX _ x3).1]
    have tb := (hT.2.2.1 _ x3).1
    have k0 := kx_inj tb (show 0 < 29 by decide)
    have is0 : fX11_is ((0 : Int32)) τ = some (if tk s.1 = 0 then 1 else 0, τ) := mIsN hT hXm hMS 0 (by decide)
    rw [fX2_parseText_L34, fX11_read_L97, if_neg (show ¬ (7 : Int32) < nI K from nI_nlt (b := K) (a := 7) (by omega) (by decide)), x1, if_pos rfl, hpk, Option.bind_some, e6, if_pos rfl, is0, Option.bind_some]
    by_cases c : tk s.1 = 0
    · simp only [if_pos c, if_neg one_ne, if_pos (show nI (kx (tk s.1)) = (258 : Int32) from k0.mpr c)]
      exact ⟨σ, τ, rfl, rfl, fr_rf, fr_rf, out_rf w τ, Or.inr ⟨nt, rp, K, D, s, h⟩⟩
    · simp only [if_neg c, if_true, if_neg (show ¬ nI (kx (tk s.1)) = (258 : Int32) from fun q => c (k0.mp q))]
      obtain ⟨σ1, τ1, a1, a2, a3, a4, a5, a6⟩ := both_step (n := n) (m := m) (by omega) (by omega) hw hT hA hnm h
      rw [a1, Option.bind_some, a2, Option.bind_some, lt_def, nI_1]
      rcases a6 with ⟨e, f1, f2, f3, f4⟩ | ⟨hK, nt', rp', D', s', h'⟩
      · obtain ⟨n, rfl⟩ : ∃ n', n = n' + 1 := ⟨n - 1, by omega⟩
        obtain ⟨m, rfl⟩ : ∃ m', m = m' + 1 := ⟨m - 1, by omega⟩
        refine ⟨σ1, τ1, ?_, ?_, a3, a4, a5, Or.inl ⟨e, f1, f2, f3, f4⟩⟩
        · rw [fX2_parseText_L34, f1, if_neg (fl_ne f2)]
          split <;> rfl
        · rw [fX11_read_L97, f4.1, if_neg (fl_ne f4.2.1)]
      · obtain ⟨σ2, τ2, b1, b2, b3, b4, b5, b6⟩ := ih (K + 1) nt' rp' D' s' σ1 τ1 n m (by omega) (by omega) (by omega) h'
        exact ⟨σ2, τ2, b1, b2, fr_tr a3 b3, fr_tr a4 b4, out_tr a5 b5, b6⟩
