/-! ===== PURE: sim_read ===== -/
theorem sim_read : SimStep Rel0 (fX10_read FU) (fX11_read FU) := by
  intro t σ τ ht hR
  obtain ⟨a, hA, hB, hC, hD, hX, hM, hk⟩ := id hR
  have hln : cS a 0 ≤ 2000 := hA.1
  have hFU : FU = 1000000 := rfl
  generalize hvd : (fun q => bV (cI a 0 q)) = v
  have hvv : ∀ q, v q = bV (cI a 0 q) := fun q => by rw [← hvd]
  have hv : ∀ q, v q < 256 := fun q => by rw [hvv]; exact bV_lt _
  generalize hl : cS a 0 = ln at hln
  have ex0 : gI σ 0 = nI ln := by rw [← hl]; exact hX.1.1
  have em1 : gI τ 1 = nI ln := by rw [← hl]; exact hM.1.1
  -- the class's tokens
  have hXT : XTp v ln σ := ⟨ex0, hln, hv, fun q hq => by rw [hX.1.2 q (by rw [hl]; exact hq), hvv]; exact bV_and _⟩
  obtain ⟨σ1, x1, x2, N, -, x3, x4⟩ := xScanT (n := FU) (by omega) hXT
  -- the reference's
  obtain ⟨τ1, m1, m2, m3⟩ := mCpy (kk := mk1 FU) hln ln 0 FU (sI τ 2 (gI τ 1)) (by omega) (by omega) em1 (fun j hj => absurd hj (Nat.not_lt_zero j))
  have hMT : MTp v ln (sI τ1 1 0) := by
    refine ⟨(m2.1 2 (by decide)).trans em1, hln, hv, fun q hq => ?_⟩
    have e : gA (sI τ1 1 0) 2 q = nb (cI a 0 q) := (m3 q hq).trans (congrArg nb (hM.1.2 q (by rw [hl]; exact hq)))
    rw [e, nb_and, hvv]; exact bV_and _
  have hk1 : mKeys (sI τ1 1 0) := mKeys_B hk (m2.2.2 7 (by decide))
  obtain ⟨τ3, c1, c2, N', c3, c4⟩ := mCut (n := FU) (by omega) hMT hk1
  obtain ⟨tk, tv, pl, xn, mn, L, hT, hAl, hnm, tX, tM⟩ := toks v ln hln hv
  have hXk := tX σ1 N x3 x4
  have hMk := tM τ3 N' c3 c4
  -- the sides
  obtain ⟨vv, hv2, e11, e8, -, -⟩ := id hM.2.2.2.2.2.1
  generalize hwd : 1 - vv = w
  have hw : w < 2 := by omega
  have fM3 : frMr τ τ3 := by
    have f1 : frMr τ (sI τ 2 (gI τ 1)) := fr_sI fr_rf (by decide)
    have f2 : frMr (sI τ 2 (gI τ 1)) τ1 := fr_up m2 (by decide) (by decide) (by decide)
    have f3 : frMr τ1 (sI τ1 1 0) := fr_sI fr_rf (by decide)
    have f4 : frMr (sI τ1 1 0) τ3 := fr_up c2 (by decide) (by decide) (by decide)
    exact fr_tr f1 (fr_tr f2 (fr_tr f3 f4))
  have h1τ3 : gI τ3 1 = 0 := by rw [c2.1 1 (by decide)]; rfl
  have e11' : gI τ3 11 = nI vv := (fM3.1 11 (by decide)).trans e11
  have e12 : gI (m15 τ3) 12 = nI w := by
    show (1 : Int32) - gI τ3 11 = nI w
    rw [e11', ← hwd]; exact pk_sub (a := 1) (by omega)
  generalize hs4 : sI (sA (m15 τ3) 8 (upd (gA (m15 τ3) 8) w 0)) 13 (nI (500 * w)) = τ4
  have go2 : mk2 FU τ3 = fX11_read_L97 (mk3 FU) FU τ4 := by
    unfold mk2
    rw [e12, if_pos (ix_nI hw (by decide)), stA_nI _ 8 w _ (by omega), gI_sA, e12, show (500 : Int32) * nI w = nI (500 * w) from by rw [show (500 : Int32) = nI 500 from rfl, pk_mul], hs4]
  have fM4 : frMr τ3 τ4 := by
    rw [← hs4]
    exact fr_sI (fr_sA (fr_sI (fr_sI (fr_sI (fr_sI (fr_sI fr_rf (by decide)) (by decide)) (by decide)) (by decide)) (by decide)) (by decide)) (by decide)
  have a4 : ∀ m, m ≠ 8 → gA τ4 m = gA τ3 m := fun m hm => by rw [← hs4]; show gA (sA (m15 τ3) 8 _) m = _; rw [gA_sA, if_neg hm]; rfl
  have b4 : ∀ m, gB τ4 m = gB τ3 m := fun m => by rw [← hs4]; rfl
  have a48 : gA τ4 8 = upd (gA τ3 8) w 0 := by rw [← hs4]; rfl
  have hMk4 : MTk tk tv pl mn L τ4 := by
    unfold MTk
    rw [a4 3 (by decide), a4 4 (by decide), a4 5 (by decide), b4 6]; exact hMk
  -- both begin
  have hXk0 : XTk tk tv pl xn L (x0s σ1) := hXk
  have inv : LInv tk tv pl xn mn L w (gA τ 19) (gA τ 20) (fun _ => 0) 0 0 (fun _ _ => 0) (0, [], 0, 0, 0, 0) (x0s σ1) τ4 := by
    have n0 : ∀ {k : Nat} {P : Prop}, k < 0 → P := fun h => absurd h (Nat.not_lt_zero _)
    refine ⟨⟨hXk0, ⟨fun k h => n0 h, rfl, by decide⟩, ⟨by decide, Nat.zero_le _⟩, rfl, rfl, Nat.zero_le _, rfl, rfl, rfl, 0, by decide, rfl, fun _ => ⟨fun i j h => n0 h, rfl, fun j h => n0 h, fun k h => n0 h, fun k h => n0 h⟩⟩, ⟨hMk4, fun k h => n0 h, ⟨by decide, fun z => absurd rfl z, Nat.zero_le _, rfl⟩, ⟨?_, ?_, Nat.zero_le _, ?_, fun z => absurd rfl z, ?_, ?_, ?_⟩, ⟨?_, fun j h => n0 h⟩, fun i _ => ?_, fun k h => n0 h⟩, by decide, by decide, fun k h => n0 h, fun k h => n0 h, fun _ k h => n0 h⟩
    · rw [← hs4]; rfl
    · rw [← hs4]; rfl
    · rw [← hs4]; rfl
    · rw [← hs4]; exact e12
    · rw [a48, upd_at, if_pos rfl]; rfl
    · rw [← hs4]; rfl
    · rw [← hs4]; rfl
    · rw [a4 19 (by decide), a4 20 (by decide), c2.2.1 19 (by decide), c2.2.1 20 (by decide)]
      have q1 : gA (sI τ1 1 0) 19 = gA τ 19 := (m2.2.1 19 (by decide))
      have q2 : gA (sI τ1 1 0) 20 = gA τ 20 := (m2.2.1 20 (by decide))
      rw [q1, q2]; exact ⟨rfl, rfl⟩
  obtain ⟨σ5, τ5, p1, p2, p3, p4, p5, p6⟩ := both_loop hw hT hAl hnm xk67 (mk3 FU) 8 0 (fun _ => 0) 0 (fun _ _ => 0) (0, [], 0, 0, 0, 0) (x0s σ1) τ4 FU FU rfl (by omega) (by omega) inv
  have runX : fX10_read FU σ = Option.bind (xk67 σ5) (fun q_2 => if (gI (sI q_2 0 0) 2) = 0 then (Option.bind (fX4_copyOf (sI q_2 0 0)) (fun q_5 => (Option.bind (fX9_startAnew FU q_5) (fun q_6 => (Option.bind (fX3_startAnew FU q_6) (fun q_7 => (some (gI q_7 2, q_7)))))))) else (some (gI (sI q_2 0 0) 2, sI q_2 0 0))) := by
    unfold fX10_read
    rw [x1, Option.bind_some, xText_eq]
    have p1' : fX2_parseText_L34 xk67 FU 0 (x0s σ1) = xk67 σ5 := p1
    rw [p1']; rfl
  have runM : fX11_read FU τ = mk3 FU τ5 := by
    rw [mRead_eq2]
    have m1' : fX11_read_L10 (mk1 FU) FU 0 (sI τ 2 (gI τ 1)) = mk1 FU τ1 := m1
    rw [m1']
    unfold mk1
    rw [c1, Option.bind_some, go2, p2]
  rw [runX, runM]
  -- what stays
  have fX5 : frXr σ σ5 := by
    have f1 : frXr σ σ1 := fr_up x2 (by decide) (by decide) (by decide)
    have f2 : frXr σ1 (x0s σ1) := fr_sI (fr_sI (fr_sI (fr_sI (fr_sI (fr_sI (fr_sI (fr_sI fr_rf (by decide)) (by decide)) (by decide)) (by decide)) (by decide)) (by decide)) (by decide)) (by decide)
    have f3 : frXr (x0s σ1) σ5 := fr_up p3 (by decide) (by decide) (by decide)
    exact fr_tr f1 (fr_tr f2 f3)
  have fM5 : frMr τ τ5 := fr_tr fM3 (fr_tr fM4 (fr_up p4 (by decide) (by decide) (by decide)))
  have h15 : gI τ5 1 = 0 := by rw [p4.1 1 (by decide), ← hs4]; exact h1τ3
  have h125 : gI τ5 12 = nI w := by rw [p4.1 12 (by decide), ← hs4]; exact e12
  have keep : ∀ τ', gI τ' 11 = gI τ5 11 → (∀ m, gA τ' m = gA τ5 m) → stc w (gA τ 19) (gA τ 20) τ5 → mScr a τ' := by
    intro τ' i11 ia st
    refine mScr_keep hv2 hwd.symm hB.1.1 hB.1.2.2.1 e11 hM.2.2.2.2.2.1 (i11.trans (fM5.1 11 (by decide))) ?_ (fun m j q1 q2 q3 => ?_) ?_
    · rw [ia 8, p5.2 vv (by omega), a48, upd_at, if_neg (by omega), c2.2.1 8 (by decide)]
      show gA τ1 8 vv = _
      rw [m2.2.1 8 (by decide)]; rfl
    · rw [ia m, p5.1 m j q1 q2 q3, a4 m (by omega), c2.2.1 m (fun z => by simp only [List.mem_cons, List.not_mem_nil, or_false] at z; omega)]
      show gA τ1 m j = _
      rw [m2.2.1 m (fun z => by simp only [List.mem_cons, List.not_mem_nil, or_false] at z; omega)]; rfl
    · unfold stc
      rw [ia 19, ia 20]; exact st
  rcases p6 with ⟨e, f1, f2, f3, f4⟩ | ⟨nt, rp, K, D, s, hI⟩
  · -- a FAULT of the grammar
    have rX : xk67 σ5 = some σ5 := by unfold xk67; rw [f1, if_neg (fl_ne f2)]
    rw [rX, Option.bind_some]
    have g2 : gI (sI σ5 0 0) 2 = nI e.1 := f1
    rw [g2, if_neg (fl_ne f2)]
    have rM : mk3 FU τ5 = some (nI e.1, sI τ5 10 (nI (pl e.2))) := by
      unfold mk3
      rw [f4.1, if_neg (fl_pos f4.2.1), f4.2.2.1]
      unfold mk4
      have g6 : gI (sI τ5 10 (nI (pl e.2))) 6 = nI e.1 := f4.1
      rw [g6, if_neg (fl_pos f4.2.1)]
    refine ⟨nI e.1, _, _, rfl, rM, rd_same (P := nI (pl e.2)) hA hB hC hD hX hM hk (fr_sI fX5 (by decide)) (fr_sI fM5 (by decide)) rfl f3 h15 rfl (keep _ rfl (fun m => rfl) f4.2.2.2.2.2)⟩
  · obtain ⟨hXB, hMB, hK7, hrp, hnt, h5, hst⟩ := hI
    obtain ⟨-, ⟨-, n2, n3⟩, ⟨hsf, hlen⟩, y1, y2, y3, y4, y5, y6, cc, d1, d2, d3⟩ := id hXB
    obtain ⟨-, hNm, ⟨h9, hsp, -, hlen2⟩, ⟨e6, e4, hsL, z8, z9, z12, za8, z5⟩, ⟨e13, ecd⟩, est, erow⟩ := id hMB
    have rX : xk67 σ5 = some (sI (sI σ5 2 (gI σ5 5)) 3 (gI (sI σ5 2 (gI σ5 5)) 6)) := by unfold xk67; rw [y1, if_pos rfl]
    rw [rX, Option.bind_some]
    generalize hs6 : sI (sI (sI σ5 2 (gI σ5 5)) 3 (gI (sI σ5 2 (gI σ5 5)) 6)) 0 0 = σ6
    have fX6 : frXr σ σ6 := by rw [← hs6]; exact fr_sI (fr_sI (fr_sI fX5 (by decide)) (by decide)) (by decide)
    have u2 : gI σ6 2 = nI s.2.2.2.2.1 := by rw [← hs6]; exact y4
    have u3 : gI σ6 3 = if s.2.2.2.2.1 = 0 then -1 else nI (pl s.2.2.2.2.2) := by rw [← hs6]; exact y5
    have u0 : gI σ6 0 = 0 := by rw [← hs6]; rfl
    rw [u2]
    by_cases z : s.2.2.2.2.1 = 0
    · -- no FAULT
      rw [z, if_pos (show nI 0 = (0 : Int32) from rfl)]
      obtain ⟨-, q1, q2, q3, q4⟩ := d3 z
      obtain ⟨σ7, r1, r2, r3, r4, r5, r6⟩ := xCopy σ6
      obtain ⟨σ8, s1, s2, s3, s4, s5, s6⟩ := xAnewW (n := FU) (σ := σ7) (by omega)
      obtain ⟨σ9, t1, t2, t3, t4, t5, t6⟩ := xAnewP (n := FU) (σ := σ8) (by omega)
      rw [r1, Option.bind_some, s1, Option.bind_some, t1, Option.bind_some]
      have g29 : gI σ9 2 = 0 := by rw [t2.1 2 (by decide), s2.1 2 (by decide), r2.1 2 (by decide), u2, z]; rfl
      rw [g29]
      generalize hs7 : sI (sI τ5 10 (-1)) 11 (gI (sI τ5 10 (-1)) 12) = τ7
      obtain ⟨τ8, a1, a2, a3⟩ := fil33 (kk := fun (σ_35 : ST) => fX11_read_L206 FU ((0 : Int32)) σ_35) 3 0 FU τ7 rfl (by omega) (fun j hj => absurd hj (Nat.not_lt_zero j))
      obtain ⟨τ9, b1, b2, b3, b4', b5⟩ := fil35 7 0 FU τ8 rfl (by omega) (fun j hj => absurd hj (Nat.not_lt_zero j)) (fun j hj => absurd hj (Nat.not_lt_zero j)) (fun j hj => absurd hj (Nat.not_lt_zero j))
      have rM : mk3 FU τ5 = some (0, τ9) := by
        unfold mk3
        rw [e6, if_pos (show (0 : Int32) ≤ 0 by decide), z8, z, if_pos (show nI 0 ≤ (0 : Int32) by decide)]
        unfold mk4
        have g6 : gI (sI τ5 10 (-1)) 6 = 0 := e6
        have g8 : gI (sI τ5 10 (-1)) 8 = nI 0 := by rw [← z]; exact z8
        rw [g6, if_pos (show (0 : Int32) ≤ 0 by decide), g8, if_pos (show nI 0 ≤ (0 : Int32) by decide), hs7]
        exact (show _ = _ from a1).trans b1
      have tX : ∀ k, k < K → k < 7 := fun k hk' => Nat.lt_of_lt_of_le hk' hK7
      have gIτ : ∀ k, k ≠ 10 → k ≠ 11 → gI τ9 k = gI τ5 k := fun k n10 n11 => by
        rw [b2.1 k (by simp), a2.1 k (by simp), ← hs7, gI_sI, if_neg n11, gI_sI, if_neg n10]
      have gAτ : ∀ m, m < 33 → gA τ9 m = gA τ5 m := fun m hm => by
        rw [b2.2.1 m (fun z => by simp only [List.mem_cons, List.not_mem_nil, or_false] at z; omega), a2.2.1 m (fun z => by simp only [List.mem_cons, List.not_mem_nil, or_false] at z; omega), ← hs7]; rfl
      have cl : cc ≤ 400 := d1
      have hC4 : s.2.1.length ≤ 400 := by omega
      have fXn : fr [0, 1, 2, 3, 4, 5, 6, 7, 8, 9, 10, 11, 12, 17, 20, 21] [4, 5, 10, 11, 12, 13, 14, 15, 16, 17, 18, 21, 22, 23, 24, 25, 26, 27, 28, 29, 49, 50, 53, 54, 56] [6, 9, 20, 51] σ σ9 := fr_tr (fr_up fX6 (by decide) (by decide) (by decide)) (fr_tr (fr_up r2 (by decide) (by decide) (by decide)) (fr_tr (fr_up s2 (by decide) (by decide) (by decide)) (fr_up t2 (by decide) (by decide) (by decide))))
      have fMn : fr [1, 2, 3, 4, 5, 6, 7, 8, 9, 10, 11, 12, 13, 14, 15, 16] [2, 3, 4, 5, 8, 10, 11, 12, 13, 14, 15, 16, 17, 18, 19, 20, 21, 33, 34, 35, 36, 37, 39, 40, 41] [6, 9, 42] τ τ9 := by
        have f7 : fr [1, 2, 3, 4, 5, 6, 7, 8, 9, 10, 11, 12, 13, 14, 15, 16] [2, 3, 4, 5, 8, 10, 11, 12, 13, 14, 15, 16, 17, 18, 19, 20, 21, 33, 34, 35, 36, 37, 39, 40, 41] [6, 9, 42] τ5 τ7 := by rw [← hs7]; exact fr_sI (fr_sI fr_rf (by decide)) (by decide)
        exact fr_tr (fr_up fM5 (by decide) (by decide) (by decide)) (fr_tr f7 (fr_tr (fr_up a2 (by decide) (by decide) (by decide)) (fr_up b2 (by decide) (by decide) (by decide))))
      have gX6 : ∀ m, gA σ6 m = gA σ5 m := fun m => by rw [← hs6]; rfl
      refine ⟨0, σ9, τ9, rfl, rM, rd_new (K := K) (rp := rp) (w := w) (D := D) (C := s.2.1) hA hB hX hM hk hK7 hrp hC4 (hst z) fXn fMn ?_ ?_ ?_ ?_ (fun k hk' => ?_) (fun i hi => ?_) ?_ ?_ (fun j hj => ?_) (fun j hj => ?_) t3 t4 t5 t6 ?_ ?_ hw ?_ ?_ (fun k hk' => ?_) (fun k hk' => ?_) (fun j hj => ?_) (fun j hj => ?_) b3 b4' b5⟩
      · rw [t2.1 0 (by decide), s2.1 0 (by decide), r2.1 0 (by decide), u0]
      · rw [t2.1 3 (by decide), s2.1 3 (by decide), r2.1 3 (by decide), u3, if_pos z]
      · rw [t2.1 10 (by decide), s2.1 10 (by decide), r3, ← hs6]; exact y6
      · rw [t2.1 11 (by decide), s2.1 11 (by decide), r4, ← hs6]; exact n2
      · rw [t2.2.1 21 (by decide), t2.2.1 22 (by decide), t2.2.1 23 (by decide), t2.2.1 24 (by decide), t2.2.1 25 (by decide), t2.2.1 26 (by decide), t2.2.1 27 (by decide), s2.2.1 21 (by decide), s2.2.1 22 (by decide), s2.2.1 23 (by decide), s2.2.1 24 (by decide), s2.2.1 25 (by decide), s2.2.1 26 (by decide), s2.2.1 27 (by decide)]
        obtain ⟨w1, w2, w3, w4, w5, w6, w7⟩ := r5 k (tX k hk')
        rw [w1, w2, w3, w4, w5, w6, w7, gX6, gX6, gX6, gX6, gX6, gX6, gX6]
        obtain ⟨v1, v2, v3⟩ := q3 k hk'
        obtain ⟨v4, v5, v6, v7⟩ := q4 k hk'
        exact ⟨v4, v5, v6, v1, v2, v3, v7⟩
      · rw [t2.2.1 28 (by decide), t2.2.1 29 (by decide), s2.2.1 28 (by decide), s2.2.1 29 (by decide)]
        obtain ⟨w1, w2⟩ := r6 i (by omega)
        rw [w1, w2, gX6, gX6]
        exact q2 i (by omega)
      · rw [t2.1 20 (by decide)]; exact s3
      · rw [t2.1 21 (by decide)]; exact s4
      · rw [t2.2.1 53 (by decide)]; exact s5 j hj
      · rw [t2.2.1 54 (by decide), t2.2.1 56 (by decide)]; exact s6 j hj
      · rw [gIτ 1 (by decide) (by decide)]; exact h15
      · rw [b2.1 10 (by decide), a2.1 10 (by decide), ← hs7]; rfl
      · rw [b2.1 11 (by decide), a2.1 11 (by decide), ← hs7]; exact h125
      · rw [gAτ 8 (by decide)]; exact za8
      · rw [gAτ 10 (by decide)]; exact (hNm k hk').2
      · have := erow k hk'
        unfold mRw at *
        rw [gAτ 11 (by decide), gAτ 12 (by decide), gAτ 13 (by decide), gAτ 14 (by decide), gAτ 15 (by decide), gAτ 16 (by decide), gAτ 17 (by decide), gAτ 18 (by decide)]
        exact this
      · rw [gAτ 19 (by decide), gAτ 20 (by decide)]; exact ecd j hj
      · rw [b2.2.1 33 (by decide)]; exact a3 j hj
    · -- a FAULT of sense
      have hz : ¬ nI s.2.2.2.2.1 = (0 : Int32) := fun q => z ((nI_eq (b := 0) (by omega) (by decide)).mp q)
      have hz' : ¬ nI s.2.2.2.2.1 ≤ (0 : Int32) := nI_nle (by omega) (by omega)
      rw [if_neg hz]
      have rM : mk3 FU τ5 = some (nI s.2.2.2.2.1, sI τ5 10 (nI (pl s.2.2.2.2.2))) := by
        unfold mk3
        rw [e6, if_pos (show (0 : Int32) ≤ 0 by decide), z8, if_neg hz', z9 z]
        unfold mk4
        have g6 : gI (sI τ5 10 (nI (pl s.2.2.2.2.2))) 6 = 0 := e6
        have g8 : gI (sI τ5 10 (nI (pl s.2.2.2.2.2))) 8 = nI s.2.2.2.2.1 := z8
        rw [g6, if_pos (show (0 : Int32) ≤ 0 by decide), g8, if_neg hz']
      refine ⟨nI s.2.2.2.2.1, _, _, rfl, rM, rd_same (P := nI (pl s.2.2.2.2.2)) hA hB hC hD hX hM hk fX6 (fr_sI fM5 (by decide)) u0 (by rw [u3, if_neg z]) h15 rfl (keep _ rfl (fun m => rfl) est)⟩
