/-! ===== PURE: read: the TOKENS of a text ===== -/
theorem toks (v : Nat → Nat) (ln : Nat) (hln : ln ≤ 2000) (hv : ∀ q, v q < 256) : ∃ (tk tv pl : Nat → Nat) (xn mn : Nat → Int64) (L : Nat), TKs tk tv pl L ∧ tkAll tk tv L ∧ nmOk tk xn mn L ∧
    (∀ σ N, PX v ln N σ → (N = 401 ∨ (1 ≤ N ∧ (tkAt v ln (sT v ln (N - 1)) = 0 ∨ tkAt v ln (sT v ln (N - 1)) = 3))) → XTk tk tv pl xn L σ) ∧ (∀ τ N, PM v ln N τ → (N = 401 ∨ (1 ≤ N ∧ tkAt v ln (sT v ln (N - 1)) = 0)) → MTk tk tv pl mn L τ) := by
  obtain ⟨L, hL, hmin⟩ := pk_least (fun k => tkAt v ln (sT v ln k) = 0 ∨ tkAt v ln (sT v ln k) = 3 ∨ k = 400) ⟨400, Or.inr (Or.inr rfl)⟩
  have L4 : L ≤ 400 := by
    rcases Nat.lt_or_ge 400 L with z | z
    · exact absurd (Or.inr (Or.inr rfl)) (hmin 400 z)
    · exact z
  have tkL : ∀ i, i ≤ L → (if i ≤ L then tkAt v ln (sT v ln i) else 0) = tkAt v ln (sT v ln i) := fun i hi => if_pos hi
  have up : ∀ i, i < L → sT v ln i < sT v ln (i + 1) := by
    intro i hi
    have h0 : sT v ln i < ln := by
      rcases Nat.lt_or_ge (sT v ln i) ln with z | z
      · exact z
      · exact absurd (Or.inl (tkAt_0.mpr z)) (hmin i hi)
    have h1 := teAt_gt (v := v) h0
    have h2 : teAt v ln (sT v ln i) ≤ sT v ln (i + 1) := en_ge bB v ln _
    omega
  have below : ∀ N, (N = 401 ∨ (1 ≤ N ∧ (tkAt v ln (sT v ln (N - 1)) = 0 ∨ tkAt v ln (sT v ln (N - 1)) = 3))) → L < N := by
    intro N h
    rcases h with z | ⟨z1, z2⟩
    · omega
    · rcases Nat.lt_or_ge (N - 1) L with y | y
      · exact absurd (z2.elim Or.inl (fun q => Or.inr (Or.inl q))) (hmin _ y)
      · omega
  refine ⟨fun i => if i ≤ L then tkAt v ln (sT v ln i) else 0, fun i => tvAt v ln (sT v ln i), fun i => sT v ln i, fun i => xnAt v ln (sT v ln i), fun i => mnAt v ln (sT v ln i), L, ⟨L4, ?_, fun i hi => ?_, ?_⟩, ⟨fun i hi => ?_, fun i hi => ?_⟩, fun i j hi hj h1 h2 => ?_, fun σ N hP hN i hi => ?_, fun τ N hP hN i hi => ?_⟩
  · show (if L ≤ L then tkAt v ln (sT v ln L) else 0) = 0 ∨ (if L ≤ L then tkAt v ln (sT v ln L) else 0) = 3 ∨ L = 400
    rw [tkL L (Nat.le_refl _)]; exact hL
  · show (if i ≤ L then tkAt v ln (sT v ln i) else 0) < 29 ∧ sT v ln i ≤ 2000 ∧ ((if i ≤ L then tkAt v ln (sT v ln i) else 0) = 2 → tvAt v ln (sT v ln i) ≤ 9999)
    rw [tkL i hi]
    have := sT_le v ln i
    exact ⟨tkAt_lt _ _ _, by omega, fun q => by have := tv_lt q; omega⟩
  · intro i j
    induction j with
    | zero => intro h; omega
    | succ j ih =>
      intro hij hj
      have h1 := up j (by omega)
      by_cases q : i = j
      · rw [q]; exact h1
      · exact Nat.lt_trans (ih (by omega) (by omega)) h1
  · have hi' : (if i ≤ L then tkAt v ln (sT v ln i) else 0) = 2 := hi
    by_cases c : i ≤ L
    · rw [if_pos c] at hi'; exact tv_lt hi'
    · rw [if_neg c] at hi'; cases hi'
  · exact if_neg (by omega)
  · have h1' : (if i ≤ L then tkAt v ln (sT v ln i) else 0) = 1 := h1
    have h2' : (if j ≤ L then tkAt v ln (sT v ln j) else 0) = 1 := h2
    rw [tkL i hi] at h1'
    rw [tkL j hj] at h2'
    obtain ⟨a1, a2, a3⟩ := tkAt_1 h1'
    obtain ⟨b1, b2, b3⟩ := tkAt_1 h2'
    have ga := en_ge bW v ln (sT v ln i)
    have gb := en_ge bW v ln (sT v ln j)
    have za : ∀ k, k < en bW v ln (sT v ln i) - sT v ln i → bW (v (sT v ln i + k)) = true := fun k hk => (en_all (P := bW) (v := v) (ln := ln) (p := sT v ln i) (i := sT v ln i + k) (by omega) (by omega)).2
    have zb : ∀ k, k < en bW v ln (sT v ln j) - sT v ln j → bW (v (sT v ln j + k)) = true := fun k hk => (en_all (P := bW) (v := v) (ln := ln) (p := sT v ln j) (i := sT v ln j + k) (by omega) (by omega)).2
    have e := wd_eq za zb
    have m1 := wM8_lt a3 za
    have m2 := wM8_lt b3 zb
    show xnAt v ln (sT v ln i) = xnAt v ln (sT v ln j) ↔ mnAt v ln (sT v ln i) = mnAt v ln (sT v ln j)
    constructor
    · intro q
      exact congrArg lN (e.mp (lN_inj (wX8_lt a3 hv) (wX8_lt b3 hv) q))
    · intro q
      exact congrArg lN (e.mpr (lN_inj (by omega) (by omega) q))
  · have hN' := below N hN
    show gA σ 4 i = nI (kx (if i ≤ L then tkAt v ln (sT v ln i) else 0)) ∧ gA σ 5 i = nI (sT v ln i) ∧ ((if i ≤ L then tkAt v ln (sT v ln i) else 0) = 2 → gB σ 6 i = lN (tvAt v ln (sT v ln i))) ∧ ((if i ≤ L then tkAt v ln (sT v ln i) else 0) = 1 → gB σ 6 i = xnAt v ln (sT v ln i))
    rw [tkL i hi]; exact hP i (by omega)
  · have hN' := below N (hN.elim Or.inl (fun q => Or.inr ⟨q.1, Or.inl q.2⟩))
    show gA τ 3 i = nI (if i ≤ L then tkAt v ln (sT v ln i) else 0) ∧ gA τ 4 i = nI (sT v ln i) ∧ ((if i ≤ L then tkAt v ln (sT v ln i) else 0) = 2 → gA τ 5 i = nI (tvAt v ln (sT v ln i))) ∧ ((if i ≤ L then tkAt v ln (sT v ln i) else 0) = 1 → gB τ 6 i = mnAt v ln (sT v ln i))
    rw [tkL i hi]; exact hP i (by omega)
